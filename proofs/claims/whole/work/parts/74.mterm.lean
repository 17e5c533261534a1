/-! ===== the reference's E's: a row of codes run on a pile ===== -/
def y_mx (c ci vars : Nat → Int32) (left ip : Int32) : Nat → Nat → List Int32 → Option (List Int32)
  | 0, _, st => some st
  | n + 1, i, st =>
    if c i = 7 then (if st.length < 1 then none else y_mx c ci vars left ip n (i + 1) (-(st.headD 0) :: st.tail))
    else if c i = 4 ∨ c i = 5 ∨ c i = 6 then (if st.length < 2 then none else y_mx c ci vars left ip n (i + 1) ((if c i = 4 then st.tail.headD 0 + st.headD 0 else if c i = 5 then st.tail.headD 0 - st.headD 0 else st.tail.headD 0 * st.headD 0) :: st.tail.tail))
    else if 999 < st.length then none
    else if c i = 0 then y_mx c ci vars left ip n (i + 1) (ci i :: st)
    else if c i = 1 then (if (ci i).toNatClampNeg < 16 ∧ ¬ ci i < 0 then y_mx c ci vars left ip n (i + 1) (vars (ci i).toNatClampNeg :: st) else none)
    else if c i = 2 then y_mx c ci vars left ip n (i + 1) (left :: st)
    else if c i = 3 then y_mx c ci vars left ip n (i + 1) (ip :: st)
    else none
/-- a pile and the row it lies in, its top last -/
def y_pl (st : List Int32) (f : Nat → Int32) : Prop := ∀ i x, st.reverse[i]? = some x → f i = x
theorem y_pl_push {st : List Int32} {f : Nat → Int32} {x : Int32} (h : y_pl st f) : y_pl (x :: st) (upd f st.length x) := by
  intro i y hy
  rw [List.reverse_cons] at hy
  rw [y_upd]
  by_cases q : i = st.length
  · subst q
    rw [List.getElem?_append_right (by rw [List.length_reverse]; exact Nat.le_refl _), List.length_reverse, Nat.sub_self] at hy
    cases hy
    rw [if_pos rfl]
  · have : i < (st.reverse ++ [x]).length := (List.getElem?_eq_some_iff.mp hy).1
    rw [List.length_append, List.length_reverse] at this
    have : i < st.length := by
      have : i < st.length + 1 := this
      omega
    rw [List.getElem?_append_left (by rw [List.length_reverse]; exact this)] at hy
    rw [if_neg q]
    exact h i y hy
theorem y_pl_top {st : List Int32} {f : Nat → Int32} {x : Int32} (h : y_pl (x :: st) f) : f st.length = x := by
  apply h
  rw [List.reverse_cons, List.getElem?_append_right (by rw [List.length_reverse]; exact Nat.le_refl _), List.length_reverse, Nat.sub_self]; rfl
theorem y_pl_pop {st : List Int32} {f : Nat → Int32} {x : Int32} (h : y_pl (x :: st) f) : y_pl st f := by
  intro i y hy
  apply h
  rw [List.reverse_cons, List.getElem?_append_left (List.getElem?_eq_some_iff.mp hy).1]
  exact hy
theorem y_neg1 (a b : Nat) (h : b = a + 1) : nI b + (-1) = nI a := by rw [h]; exact pk_m1 a
section
variable {F : Nat}
theorem m_terml {m to : Nat} (hm : m < 12) (hto : to ≤ 2400) : ∀ (n N i : Nat) (st : List Int32) (V : zV) (v : Int32), n + i = to → n + 1 ≤ N → st.length ≤ 1000 → y_pl st (zA V 63) →
    y_mx (zA V 37) (zA V 38) (zA V 43) (zA V 50 m) (zI V 0 67) n i st = some [v] →
    ∃ V', fX12_term_l6 F N V (nI to) (nI m) (nI st.length) (nI i) = some (v, V') ∧ y_fr [] [63] V V' := by
  intro n
  induction n with
  | zero =>
    intro N i st V v e hN hl hp h
    obtain ⟨N, rfl⟩ : ∃ N', N = N' + 1 := ⟨N - 1, by omega⟩
    have h : some st = some [v] := h
    cases h
    rw [fX12_term_l6, if_pos (nI_le (by omega) (by omega))]
    refine ⟨V, ?_, y_fr_refl⟩
    rw [show ((0 : Int32)).toNatClampNeg = 0 from rfl, show zA V 63 0 = v from y_pl_top hp]
  | succ n ih =>
    intro N i st V v e hN hl hp h
    obtain ⟨N, rfl⟩ : ∃ N', N = N' + 1 := ⟨N - 1, by omega⟩
    rw [y_mx] at h
    rw [fX12_term_l6, if_neg (nI_ge (by omega) (by omega)), y_ck (by omega) (by decide), y_let]
    simp only [nI_clamp (show i < 2 ^ 31 by omega)]
    -- a value is laid onto the pile
    have push : ∀ x, ¬ 999 < st.length → y_mx (zA V 37) (zA V 38) (zA V 43) (zA V 50 m) (zI V 0 67) n (i + 1) (x :: st) = some [v] →
        ∃ V', fX12_term_b88 F (fX12_term_l6 F N) V (nI to) (nI m) (nI st.length) (nI i) (nI st.length) x = some (v, V') ∧ y_fr [] [63] V V' := by
      intro x hlen hx
      rw [fX12_term_b88, y_ck (by omega) (by decide), y_let, fX12_term_b189, nI_1, nI_1, nI_clamp (by omega)]
      obtain ⟨V2, g1, g2⟩ := ih N (i + 1) (x :: st) (zsA V 63 (upd (zA V 63) st.length x)) v (by omega) (by omega) (by show st.length + 1 ≤ 1000; omega) (y_pl_push hp) hx
      exact ⟨V2, g1, y_fr_trans (y_fr_A y_fr_refl (by decide)) g2⟩
    by_cases q7 : zA V 37 i = 7
    · rw [if_pos q7] at h
      cases st with
      | nil => cases h
      | cons a l =>
        rw [if_neg (show ¬ (a :: l).length < 1 by simp)] at h
        have h : y_mx (zA V 37) (zA V 38) (zA V 43) (zA V 50 m) (zI V 0 67) n (i + 1) (-a :: l) = some [v] := h
        rw [q7, if_pos (by decide), if_pos rfl, show nI (a :: l).length = nI (l.length + 1) from rfl, nI_pred, y_ck (by have : l.length + 1 ≤ 1000 := hl; omega) (by decide), y_ck (by have : l.length + 1 ≤ 1000 := hl; omega) (by decide), y_let, fX12_term_b189, nI_1, nI_clamp (by have : l.length + 1 ≤ 1000 := hl; omega), y_pl_top hp]
        obtain ⟨V2, g1, g2⟩ := ih N (i + 1) (-a :: l) (zsA V 63 (upd (zA V 63) l.length (-a))) v (by omega) (by omega) hl (y_pl_push (y_pl_pop hp)) h
        exact ⟨V2, g1, y_fr_trans (y_fr_A y_fr_refl (by decide)) g2⟩
    rw [if_neg q7] at h
    by_cases q4 : zA V 37 i = 4 ∨ zA V 37 i = 5 ∨ zA V 37 i = 6
    · rw [if_pos q4] at h
      cases st with
      | nil => cases h
      | cons b l =>
        cases l with
        | nil => cases h
        | cons a l =>
          rw [if_neg (show ¬ (b :: a :: l).length < 2 by simp)] at h
          have h : y_mx (zA V 37) (zA V 38) (zA V 43) (zA V 50 m) (zI V 0 67) n (i + 1) ((if zA V 37 i = 4 then a + b else if zA V 37 i = 5 then a - b else a * b) :: l) = some [v] := h
          have hl' : l.length + 2 ≤ 1000 := hl
          have h4 : 4 ≤ zA V 37 i := by rcases q4 with q | q | q <;> rw [q] <;> decide
          rw [if_pos h4, if_neg q7, show nI (b :: a :: l).length = nI (l.length + 1 + 1) from rfl, pk_m1, nI_pred, y_ck (by omega) (by decide), y_let, y_ck (by omega) (by decide), y_let, nI_clamp (by omega), nI_clamp (by omega), show zA V 63 (l.length + 1) = b from y_pl_top hp, show zA V 63 l.length = a from y_pl_top (y_pl_pop hp)]
          have fin : ∀ x, y_mx (zA V 37) (zA V 38) (zA V 43) (zA V 50 m) (zI V 0 67) n (i + 1) (x :: l) = some [v] → ∃ V', fX12_term_b188 F (fX12_term_l6 F N) V (nI to) (nI m) (nI (l.length + 1)) (nI i) (nI l.length) x = some (v, V') ∧ y_fr [] [63] V V' := by
            intro x hx
            rw [fX12_term_b188, y_ck (by omega) (by decide), y_let, fX12_term_b189, nI_1, nI_clamp (by omega)]
            obtain ⟨V2, g1, g2⟩ := ih N (i + 1) (x :: l) (zsA V 63 (upd (zA V 63) l.length x)) v (by omega) (by omega) (by show l.length + 1 ≤ 1000; omega) (y_pl_push (y_pl_pop (y_pl_pop hp))) hx
            exact ⟨V2, g1, y_fr_trans (y_fr_A y_fr_refl (by decide)) g2⟩
          by_cases r4 : zA V 37 i = 4
          · rw [if_pos r4] at h
            rw [if_pos r4]
            exact fin _ h
          rw [if_neg r4] at h
          rw [if_neg r4]
          by_cases r5 : zA V 37 i = 5
          · rw [if_pos r5] at h
            rw [if_pos r5]
            exact fin _ h
          · rw [if_neg r5] at h
            rw [if_neg r5]
            exact fin _ h
    rw [if_neg q4] at h
    by_cases ql : 999 < st.length
    · rw [if_pos ql] at h; cases h
    rw [if_neg ql] at h
    by_cases q0 : zA V 37 i = 0
    · rw [if_pos q0] at h
      rw [q0, if_neg (by decide), if_pos rfl, y_ck (by omega) (by decide)]
      exact push _ ql h
    rw [if_neg q0] at h
    by_cases q1 : zA V 37 i = 1
    · rw [if_pos q1] at h
      rw [q1, if_neg (by decide), if_neg (by decide), if_pos rfl, y_ck (by omega) (by decide)]
      by_cases qv : (zA V 38 i).toNatClampNeg < 16 ∧ ¬ zA V 38 i < 0
      · rw [if_pos qv] at h
        rw [zchk_t (show zix (zA V 38 i) 16 from fun z => z.elim qv.2 (fun z => absurd qv.1 (by omega)))]
        exact push _ ql h
      · rw [if_neg qv] at h; cases h
    rw [if_neg q1] at h
    by_cases q2 : zA V 37 i = 2
    · rw [if_pos q2] at h
      rw [q2, if_neg (by decide), if_neg (by decide), if_neg (by decide), if_pos rfl, y_ck hm (by decide), nI_clamp (by omega)]
      exact push _ ql h
    rw [if_neg q2] at h
    by_cases q3 : zA V 37 i = 3
    · rw [if_pos q3] at h
      rw [q3, if_neg (by decide), if_neg (by decide), if_neg (by decide), if_neg (by decide)]
      exact push _ ql h
    · rw [if_neg q3] at h; cases h
/-- the value of the codes from lo to hi -/
def y_mE (V : zV) (vars : Nat → Int32) (left ip : Int32) (lo hi : Nat) : Option Int32 := match y_mx (zA V 37) (zA V 38) vars left ip (hi - lo) lo [] with
  | some [v] => some v
  | _ => none
theorem m_term (hF : 3000 ≤ F) {m lo hi : Nat} {V : zV} {v : Int32} (hm : m < 12) (hl : lo ≤ hi) (hh : hi ≤ 2400) (h : y_mE V (zA V 43) (zA V 50 m) (zI V 0 67) lo hi = some v) :
    ∃ V', fX12_term F V (nI lo) (nI hi) (nI m) = some (v, V') ∧ y_fr [] [63] V V' := by
  have h' : y_mx (zA V 37) (zA V 38) (zA V 43) (zA V 50 m) (zI V 0 67) (hi - lo) lo [] = some [v] := by
    unfold y_mE at h
    split at h
    · rename_i q; cases h; exact q
    · cases h
  unfold fX12_term
  exact m_terml hm hh (hi - lo) F lo [] V v (by omega) (by omega) (by decide) (fun i x hx => by cases hx) h'
theorem y_mx_vars {c ci vars vars' : Nat → Int32} {left ip : Int32} (hv : ∀ j, j < 16 → vars j = vars' j) : ∀ (n i : Nat) (st : List Int32), y_mx c ci vars left ip n i st = y_mx c ci vars' left ip n i st := by
  intro n
  induction n with
  | zero => intro i st; rfl
  | succ n ih =>
    intro i st
    have e : ∀ st, (if (ci i).toNatClampNeg < 16 ∧ ¬ ci i < 0 then y_mx c ci vars' left ip n (i + 1) (vars (ci i).toNatClampNeg :: st) else none) = (if (ci i).toNatClampNeg < 16 ∧ ¬ ci i < 0 then y_mx c ci vars' left ip n (i + 1) (vars' (ci i).toNatClampNeg :: st) else none) := by
      intro st
      by_cases q : (ci i).toNatClampNeg < 16 ∧ ¬ ci i < 0
      · rw [if_pos q, if_pos q, hv _ q.1]
      · rw [if_neg q, if_neg q]
    rw [y_mx, y_mx]
    simp only [ih, e]
/-! CONDs: relations from lo to hi -/
def y_mC (V : zV) (vars : Nat → Int32) (left ip : Int32) : Nat → Nat → Option Bool
  | 0, _ => some true
  | n + 1, k => match y_mE V vars left ip (zA V 28 k).toNatClampNeg (zA V 29 k).toNatClampNeg with
    | none => none
    | some a => match y_mE V vars left ip (zA V 29 k).toNatClampNeg (zA V 30 k).toNatClampNeg with
      | none => none
      | some b => if y_cmp a (zA V 27 k + 37) b = true then y_mC V vars left ip n (k + 1) else some false
/-- the codes' places of a relation -/
def y_mk (V : zV) (k : Nat) : Prop := ∃ a b c s : Nat, a ≤ b ∧ b ≤ c ∧ c ≤ 2400 ∧ zA V 28 k = nI a ∧ zA V 29 k = nI b ∧ zA V 30 k = nI c ∧ s ≤ 3 ∧ zA V 27 k = nI s
end
section
variable {F : Nat}
theorem y_cmp0 {a b : Int32} : y_cmp a (nI 0 + 37) b = decide (a = b) := rfl
theorem y_cmp1 {a b : Int32} : y_cmp a (nI 1 + 37) b = decide (¬ a = b) := rfl
theorem y_cmp2 {a b : Int32} : y_cmp a (nI 2 + 37) b = decide (a < b) := rfl
theorem y_cmp3 {a b : Int32} : y_cmp a (nI 3 + 37) b = decide (a ≤ b) := rfl
theorem m_holdsl (hF : 3000 ≤ F) {m lv r hi : Nat} (hm : m < 12) (hlv : lv ≤ 1) (hr : r < 80) (hhi : hi ≤ 800) : ∀ (n N k : Nat) (V : zV) (b : Bool), n + k = hi → n + 1 ≤ N → zI V 0 18 = nI lv → zA V 25 (81 * lv + r + 1) = nI hi →
    (∀ j, k ≤ j → j < hi → y_mk V j) → y_mC V (zA V 43) (zA V 50 m) (zI V 0 67) n k = some b →
    ∃ V', fX12_holds_l15 F N V (nI r) (nI m) (nI k) = some ((if b = true then 1 else 0), V') ∧ y_fr [] [63] V V' := by
  intro n
  induction n with
  | zero =>
    intro N k V b e hN h18 h25 hk h
    obtain ⟨N, rfl⟩ : ∃ N', N = N' + 1 := ⟨N - 1, by omega⟩
    cases h
    rw [fX12_holds_l15, h18, show (81 : Int32) = nI 81 from rfl, pk_mul, nI_add, nI_1, y_ck (by omega) (by decide), nI_clamp (by omega), h25, if_pos (nI_le (by omega) (by omega))]
    exact ⟨V, rfl, y_fr_refl⟩
  | succ n ih =>
    intro N k V b e hN h18 h25 hk h
    obtain ⟨N, rfl⟩ : ∃ N', N = N' + 1 := ⟨N - 1, by omega⟩
    obtain ⟨a1, b1, c1, s, l1, l2, l3, e1, e2, e3, hs, e4⟩ := hk k (Nat.le_refl _) (by omega)
    rw [y_mC, e1, e2, e3, e4, nI_clamp (by omega), nI_clamp (by omega), nI_clamp (by omega)] at h
    cases hA : y_mE V (zA V 43) (zA V 50 m) (zI V 0 67) a1 b1 with
    | none => rw [hA] at h; cases h
    | some va =>
      rw [hA] at h
      dsimp only at h
      cases hB : y_mE V (zA V 43) (zA V 50 m) (zI V 0 67) b1 c1 with
      | none => rw [hB] at h; cases h
      | some vb =>
        rw [hB] at h
        dsimp only at h
        obtain ⟨V1, g1, g2⟩ := m_term hF hm l1 (by omega) hA
        have hB' : y_mE V1 (zA V1 43) (zA V1 50 m) (zI V1 0 67) b1 c1 = some vb := by
          unfold y_mE at hB ⊢
          rw [g2.2.1 37 (by decide), g2.2.1 38 (by decide), g2.2.1 43 (by decide), g2.2.1 50 (by decide), g2.1 0 67 (by decide)]
          exact hB
        obtain ⟨V2, i1, i2⟩ := m_term hF hm l2 l3 hB'
        have f2 := y_fr_trans g2 i2
        have step : ∀ t : Int32, t = (if y_cmp va (nI s + 37) vb = true then 1 else 0) → ∃ V', fX12_holds_b159 F (fX12_holds_l15 F N) V2 (nI r) (nI m) (nI k) t = some ((if b = true then 1 else 0), V') ∧ y_fr [] [63] V V' := by
          intro t ht
          rw [fX12_holds_b159, ht]
          by_cases q : y_cmp va (nI s + 37) vb = true
          · rw [if_pos q] at h
            rw [if_pos q, if_neg (by decide), nI_1]
            obtain ⟨V3, j1, j2⟩ := ih N (k + 1) V2 b (by omega) (by omega) (by rw [f2.1 0 18 (by decide)]; exact h18) (by rw [f2.2.1 25 (by decide)]; exact h25) (fun j hj1 hj2 => by
              unfold y_mk
              rw [f2.2.1 27 (by decide), f2.2.1 28 (by decide), f2.2.1 29 (by decide), f2.2.1 30 (by decide)]
              exact hk j (by omega) hj2) (by
              have : ∀ n k, y_mC V2 (zA V2 43) (zA V2 50 m) (zI V2 0 67) n k = y_mC V (zA V 43) (zA V 50 m) (zI V 0 67) n k := by
                intro n
                induction n with
                | zero => intro k; rfl
                | succ n ihn =>
                  intro k
                  rw [y_mC, y_mC, ihn]
                  unfold y_mE
                  rw [f2.2.1 37 (by decide), f2.2.1 38 (by decide), f2.2.1 43 (by decide), f2.2.1 50 (by decide), f2.1 0 67 (by decide), f2.2.1 27 (by decide), f2.2.1 28 (by decide), f2.2.1 29 (by decide), f2.2.1 30 (by decide)]
              rw [this]; exact h)
            exact ⟨V3, j1, y_fr_trans f2 j2⟩
          · rw [if_neg q] at h
            cases h
            rw [if_neg q, if_pos rfl]
            exact ⟨V2, rfl, f2⟩
        rw [fX12_holds_l15, h18, show (81 : Int32) = nI 81 from rfl, pk_mul, nI_add, nI_1, y_ck (by omega) (by decide), nI_clamp (by omega), h25, if_neg (nI_ge (by omega) (by omega)), y_ck (by omega) (by decide), y_ck (by omega) (by decide)]
        simp only [nI_clamp (show k < 2 ^ 31 by omega), e1, e2]
        rw [g1, y_bd, y_ck (by omega) (by decide), y_ck (by omega) (by decide)]
        dsimp only
        rw [g2.2.1 29 (by decide), g2.2.1 30 (by decide), e2, e3, i1, y_bd, y_ck (by omega) (by decide)]
        dsimp only
        rw [f2.2.1 27 (by decide), e4]
        have hs4 : s = 0 ∨ s = 1 ∨ s = 2 ∨ s = 3 := by omega
        rcases hs4 with rfl | rfl | rfl | rfl
        · rw [if_pos (show nI 0 = (0 : Int32) from rfl)]
          by_cases q : va = vb
          · rw [if_pos q]; exact step 1 (by rw [y_cmp0, if_pos (decide_eq_true q)])
          · rw [if_neg q]; exact step 0 (by rw [y_cmp0, if_neg (fun z => q (of_decide_eq_true z))])
        · rw [if_neg (show ¬ nI 1 = (0 : Int32) by decide), y_ck (by omega) (by decide), if_pos (show nI 1 = (1 : Int32) from rfl)]
          by_cases q : va = vb
          · rw [if_pos q]; exact step 0 (by rw [y_cmp1, if_neg (fun z : decide (¬ va = vb) = true => absurd q (of_decide_eq_true z))])
          · rw [if_neg q]; exact step 1 (by rw [y_cmp1, if_pos (decide_eq_true q)])
        · rw [if_neg (show ¬ nI 2 = (0 : Int32) by decide), y_ck (by omega) (by decide), if_neg (show ¬ nI 2 = (1 : Int32) by decide), y_ck (by omega) (by decide), if_pos (show nI 2 = (2 : Int32) from rfl)]
          by_cases q : vb ≤ va
          · rw [if_pos q]; exact step 0 (by rw [y_cmp2, if_neg (fun z => absurd (of_decide_eq_true z) (Int32.not_lt.mpr q))])
          · rw [if_neg q]; exact step 1 (by rw [y_cmp2, if_pos (decide_eq_true (Int32.not_le.mp q))])
        · rw [if_neg (show ¬ nI 3 = (0 : Int32) by decide), y_ck (by omega) (by decide), if_neg (show ¬ nI 3 = (1 : Int32) by decide), y_ck (by omega) (by decide), if_neg (show ¬ nI 3 = (2 : Int32) by decide)]
          by_cases q : vb < va
          · rw [if_pos q]; exact step 0 (by rw [y_cmp3, if_neg (fun z => absurd (of_decide_eq_true z) (Int32.not_le.mpr q))])
          · rw [if_neg q]; exact step 1 (by rw [y_cmp3, if_pos (decide_eq_true (Int32.not_lt.mp q))])
theorem m_holds (hF : 3000 ≤ F) {m lv r lo hi : Nat} {V : zV} {b : Bool} (hm : m < 12) (hlv : lv ≤ 1) (hr : r < 80) (hlo : lo ≤ hi) (hhi : hi ≤ 800) (h18 : zI V 0 18 = nI lv) (h25 : zA V 25 (81 * lv + r) = nI lo) (h26 : zA V 25 (81 * lv + r + 1) = nI hi)
    (hk : ∀ j, lo ≤ j → j < hi → y_mk V j) (h : y_mC V (zA V 43) (zA V 50 m) (zI V 0 67) (hi - lo) lo = some b) :
    ∃ V', fX12_holds F V (nI r) (nI m) = some ((if b = true then 1 else 0), V') ∧ y_fr [] [63] V V' := by
  rw [fX12_holds, h18, show (81 : Int32) = nI 81 from rfl, pk_mul, nI_add, y_ck (by omega) (by decide), nI_clamp (by omega), y_let, h25]
  exact m_holdsl hF hm hlv hr hhi (hi - lo) F lo V b (by omega) (by omega) h18 h26 hk h
end
