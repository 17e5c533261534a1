/-! ===== codes that are laid behind one another, and what waits ===== -/
theorem r_mx_ext {c c' ci ci' vars : Nat → Int32} {left ip : Int32} : ∀ (n i : Nat) (st : List Int32), (∀ j, i ≤ j → j < i + n → c j = c' j ∧ ci j = ci' j) → y_mx c ci vars left ip n i st = y_mx c' ci' vars left ip n i st := by
  intro n
  induction n with
  | zero => intro i st _; rfl
  | succ n ih =>
    intro i st h
    have ih' : ∀ st, y_mx c ci vars left ip n (i + 1) st = y_mx c' ci' vars left ip n (i + 1) st := fun st => ih (i + 1) st fun j h1 h2 => h j (by omega) (by omega)
    obtain ⟨e1, e2⟩ := h i (Nat.le_refl _) (by omega)
    rw [y_mx, y_mx, e1, e2]
    simp only [ih']
theorem r_mx_add {c ci vars : Nat → Int32} {left ip : Int32} : ∀ (n i : Nat) (st : List Int32), y_mx c ci vars left ip (n + 1) i st = (y_mx c ci vars left ip n i st).bind fun st' => y_mx c ci vars left ip 1 (i + n) st' := by
  intro n
  induction n with
  | zero => intro i st; rfl
  | succ n ih =>
    intro i st
    have ih' : ∀ st, y_mx c ci vars left ip (n + 1) (i + 1) st = (y_mx c ci vars left ip n (i + 1) st).bind fun st' => y_mx c ci vars left ip 1 (i + (n + 1)) st' := fun st => by rw [ih (i + 1) st, show i + 1 + n = i + (n + 1) by omega]
    rw [y_mx.eq_def c ci vars left ip (n + 1 + 1), y_mx.eq_def c ci vars left ip (n + 1) i st]
    dsimp only
    simp only [ih']
    repeat' split
    all_goals rfl
/-- one code -/
def r_m1 (k v : Int32) (vars : Nat → Int32) (left ip : Int32) (st : List Int32) : Option (List Int32) := y_mx (fun _ => k) (fun _ => v) vars left ip 1 0 st
theorem r_m1_eq {c ci vars : Nat → Int32} {left ip : Int32} {i : Nat} {st : List Int32} : y_mx c ci vars left ip 1 i st = r_m1 (c i) (ci i) vars left ip st := rfl
def r_run (vars : Nat → Int32) (left ip : Int32) : List Nat → List Int32 → Option (List Int32)
  | [], st => some st
  | k :: cs, st => (r_m1 (nI k) 0 vars left ip st).bind (r_run vars left ip cs)
def r_op (y : Nat) : Nat := if y = 9 then 4 else if y = 10 then 5 else if y = 11 then 6 else 7
/-- what comes out of those that wait (the last first), and what stays -/
def r_pop (tm : Bool) : List Nat → List Nat × List Nat
  | [] => ([], [])
  | y :: W => if y = 7 then ([], y :: W) else if tm = true ∧ ¬ y = 11 then ([], y :: W) else (r_op y :: (r_pop tm W).1, (r_pop tm W).2)
section
variable {F : Nat} {sd cc : Nat} {V : zV} {W : List Nat}
def r_wc (sd : Nat) (W : List Nat) (cc : Nat) (V : zV) : Prop := zI V 0 58 = nI W.length ∧ (∀ (k x : Nat), W.reverse[k]? = some x → zA V 39 k = nI x ∧ x ≤ 11) ∧ zI V 0 54 = nI (1200 * sd + cc) ∧ sd ≤ 1
/-- codes are added, some that wait go -/
def r_ce (sd cc : Nat) (V V' : zV) : Prop := r_fx sd V V' ∧ (∀ k, ¬ k = 54 → ¬ k = 58 → zI V' 0 k = zI V 0 k) ∧ (∀ r, ¬ r = 37 → ¬ r = 38 → zA V' r = zA V r) ∧ (∀ r, zB V' r = zB V r) ∧ ∀ k, k < 1200 * sd + cc → zA V' 37 k = zA V 37 k ∧ zA V' 38 k = zA V 38 k
theorem r_ce_refl : r_ce sd cc V V := ⟨r_fx_refl, fun _ _ _ => rfl, fun _ _ _ => rfl, fun _ => rfl, fun _ _ => ⟨rfl, rfl⟩⟩
theorem r_ce_trans {cc' : Nat} {V' V'' : zV} (h : r_ce sd cc V V') (g : r_ce sd cc' V' V'') (hc : cc ≤ cc') : r_ce sd cc V V'' :=
  ⟨r_fx_trans h.1 g.1, fun k h1 h2 => (g.2.1 k h1 h2).trans (h.2.1 k h1 h2), fun r h1 h2 => (g.2.2.1 r h1 h2).trans (h.2.2.1 r h1 h2), fun r => (g.2.2.2.1 r).trans (h.2.2.2.1 r), fun k hk => ⟨(g.2.2.2.2 k (by omega)).1.trans (h.2.2.2.2 k hk).1, (g.2.2.2.2 k (by omega)).2.trans (h.2.2.2.2 k hk).2⟩⟩
theorem m_emit (h : r_wc sd W cc V) (hc : cc < 1200) (k v : Int32) : ∃ V', fX12_emit F V k v = some V' ∧ r_wc sd W (cc + 1) V' ∧ r_ce sd cc V V' ∧
    ∀ lo, lo ≤ 1200 * sd + cc → ∀ vars left ip st, y_mx (zA V 37) (zA V 38) vars left ip (1200 * sd + cc - lo) lo [] = some st → y_mx (zA V' 37) (zA V' 38) vars left ip (1200 * sd + (cc + 1) - lo) lo [] = r_m1 k v vars left ip st := by
  obtain ⟨h1, h2, h3, h4⟩ := h
  have g1 : ∀ f, zI (zsA V 37 f) 0 54 = nI (1200 * sd + cc) := fun _ => h3
  have g2 : ∀ f g, zI (zsA (zsA V 37 f) 38 g) 0 54 = nI (1200 * sd + cc) := fun _ _ => h3
  have g3 : ∀ f, zA (zsA V 37 f) 38 = zA V 38 := fun _ => rfl
  unfold fX12_emit
  simp only [h3, g1, g2, g3, y_let, y_ck (show 1200 * sd + cc < 2400 by omega) (show 2400 < 2 ^ 31 by decide), nI_clamp (show 1200 * sd + cc < 2 ^ 31 by omega), nI_1]
  have f1 : r_fx sd V (zsA V 37 (upd (zA V 37) (1200 * sd + cc) k)) := r_fx_H (k := cc) r_fx_refl (by decide) (by rw [show r_hs 37 = 1200 from rfl, Nat.mul_comm]) (by show cc < 1200; exact hc)
  have f2 : r_fx sd V (zsA (zsA V 37 (upd (zA V 37) (1200 * sd + cc) k)) 38 (upd (zA V 38) (1200 * sd + cc) v)) := r_fx_H (k := cc) f1 (by decide) (by rw [show r_hs 38 = 1200 from rfl, Nat.mul_comm]) (by show cc < 1200; exact hc)
  have e37 : ∀ x, zA (zsI (zsA (zsA V 37 (upd (zA V 37) (1200 * sd + cc) k)) 38 (upd (zA V 38) (1200 * sd + cc) v)) 0 54 x) 37 = upd (zA V 37) (1200 * sd + cc) k := fun _ => rfl
  have e38 : ∀ x, zA (zsI (zsA (zsA V 37 (upd (zA V 37) (1200 * sd + cc) k)) 38 (upd (zA V 38) (1200 * sd + cc) v)) 0 54 x) 38 = upd (zA V 38) (1200 * sd + cc) v := fun _ => rfl
  refine ⟨_, rfl, ⟨h1, h2, rfl, h4⟩, ⟨r_fx_I f2 (by decide), fun j h1 h2 => ?_, fun r h1 h2 => ?_, fun _ => rfl, fun j hj => ?_⟩, fun lo hlo vars left ip st hst => ?_⟩
  · rw [y_get.1, if_neg (fun z => h1 z.2)]; rfl
  · show (if r = 38 then _ else if r = 37 then _ else zA V r) = zA V r
    rw [if_neg h2, if_neg h1]
  · rw [e37, e38, y_upd, y_upd, if_neg (by omega), if_neg (by omega)]; exact ⟨rfl, rfl⟩
  · rw [e37, e38, show 1200 * sd + (cc + 1) - lo = (1200 * sd + cc - lo) + 1 by omega, r_mx_add, r_mx_ext (c' := zA V 37) (ci' := zA V 38) _ _ _ (fun j h1 h2 => ⟨by rw [y_upd, if_neg (by omega)], by rw [y_upd, if_neg (by omega)]⟩), hst]
    show y_mx (upd (zA V 37) (1200 * sd + cc) k) (upd (zA V 38) (1200 * sd + cc) v) vars left ip 1 (lo + (1200 * sd + cc - lo)) st = _
    rw [r_m1_eq, show lo + (1200 * sd + cc - lo) = 1200 * sd + cc by omega, y_upd, y_upd, if_pos rfl, if_pos rfl]
theorem r_rev_top {W : List Nat} {y : Nat} : (y :: W).reverse[W.length]? = some y := by
  rw [List.reverse_cons, List.getElem?_append_right (by rw [List.length_reverse]; exact Nat.le_refl _), List.length_reverse, Nat.sub_self]; rfl
theorem r_rev_low {W : List Nat} {y k x : Nat} (h : W.reverse[k]? = some x) : (y :: W).reverse[k]? = some x := by
  rw [List.reverse_cons, List.getElem?_append_left (List.getElem?_eq_some_iff.mp h).1]; exact h
theorem m_col (tm : Bool) : ∀ (W : List Nat) (N cc : Nat) (V : zV), W.length + 1 ≤ N → W.length ≤ 48 → cc + W.length ≤ 1200 → r_wc sd W cc V →
    ∃ V', fX12_comesOut_l0 F N V (if tm = true then 1 else 0) = some V' ∧ r_wc sd (r_pop tm W).2 (cc + (r_pop tm W).1.length) V' ∧ r_ce sd cc V V' ∧
      ∀ lo, lo ≤ 1200 * sd + cc → ∀ vars left ip st, y_mx (zA V 37) (zA V 38) vars left ip (1200 * sd + cc - lo) lo [] = some st → y_mx (zA V' 37) (zA V' 38) vars left ip (1200 * sd + (cc + (r_pop tm W).1.length) - lo) lo [] = r_run vars left ip (r_pop tm W).1 st := by
  intro W
  induction W with
  | nil =>
    intro N cc V hN hW hc h
    obtain ⟨N, rfl⟩ : ∃ N', N = N' + 1 := ⟨N - 1, by omega⟩
    rw [fX12_comesOut_l0, h.1, if_pos (show nI ([] : List Nat).length ≤ (0 : Int32) by decide)]
    exact ⟨V, rfl, h, r_ce_refl, fun lo _ vars left ip st hst => hst⟩
  | cons y W ih =>
    intro N cc V hN hW hc h
    have hN : W.length + 1 + 1 ≤ N := hN
    have hW : W.length + 1 ≤ 48 := hW
    have hc : cc + (W.length + 1) ≤ 1200 := hc
    obtain ⟨N, rfl⟩ : ∃ N', N = N' + 1 := ⟨N - 1, by omega⟩
    obtain ⟨t1, t2⟩ := h.2.1 W.length y r_rev_top
    have h58 : zI V 0 58 = nI (W.length + 1) := h.1
    have stop : r_pop tm (y :: W) = ([], y :: W) → ∃ V', some V = some V' ∧ r_wc sd (r_pop tm (y :: W)).2 (cc + (r_pop tm (y :: W)).1.length) V' ∧ r_ce sd cc V V' ∧
      ∀ lo, lo ≤ 1200 * sd + cc → ∀ vars left ip st, y_mx (zA V 37) (zA V 38) vars left ip (1200 * sd + cc - lo) lo [] = some st → y_mx (zA V' 37) (zA V' 38) vars left ip (1200 * sd + (cc + (r_pop tm (y :: W)).1.length) - lo) lo [] = r_run vars left ip (r_pop tm (y :: W)).1 st := by
      intro e
      rw [e]
      exact ⟨V, rfl, h, r_ce_refl, fun lo _ vars left ip st hst => hst⟩
    rw [fX12_comesOut_l0, h58, if_neg (nI_nle (by omega) (by omega)), nI_pred]
    simp only [y_ck (show W.length < 48 by omega) (show 48 < 2 ^ 31 by decide), nI_clamp (show W.length < 2 ^ 31 by omega), t1]
    by_cases q7 : y = 7
    · rw [if_pos (show nI y = (7 : Int32) by rw [q7]; rfl)]
      exact stop (by rw [r_pop, if_pos q7])
    rw [if_neg (show ¬ nI y = (7 : Int32) from fun z => q7 ((nI_eq (b := 7) (by omega) (by decide)).mp z))]
    have go : r_pop tm (y :: W) = (r_op y :: (r_pop tm W).1, (r_pop tm W).2) → ∃ V', fX12_comesOut_b43 F (fX12_comesOut_l0 F N) V (if tm = true then 1 else 0) = some V' ∧ r_wc sd (r_pop tm (y :: W)).2 (cc + (r_pop tm (y :: W)).1.length) V' ∧ r_ce sd cc V V' ∧
      ∀ lo, lo ≤ 1200 * sd + cc → ∀ vars left ip st, y_mx (zA V 37) (zA V 38) vars left ip (1200 * sd + cc - lo) lo [] = some st → y_mx (zA V' 37) (zA V' 38) vars left ip (1200 * sd + (cc + (r_pop tm (y :: W)).1.length) - lo) lo [] = r_run vars left ip (r_pop tm (y :: W)).1 st := by
      intro e
      rw [e]
      have hw1 : r_wc sd W cc (zsI V 0 58 (nI W.length)) := ⟨rfl, fun k x hk => h.2.1 k x (r_rev_low hk), h.2.2.1, h.2.2.2⟩
      have fw1 : r_ce sd cc V (zsI V 0 58 (nI W.length)) := ⟨r_fx_I r_fx_refl (by decide), fun k h1 h2 => by rw [y_get.1, if_neg (fun z => h2 z.2)], fun _ _ _ => rfl, fun _ => rfl, fun _ _ => ⟨rfl, rfl⟩⟩
      obtain ⟨V1, a1, a2, a3, a4⟩ := m_emit (F := F) hw1 (by omega) (nI (r_op y)) 0
      obtain ⟨V2, d1, d2, d3, d4⟩ := ih N (cc + 1) V1 (by omega) (by omega) (by omega) a2
      have b97 : fX12_comesOut_b97 F (fX12_comesOut_l0 F N) (zsI V 0 58 (nI W.length)) (if tm = true then 1 else 0) (nI (r_op y)) = some V2 := by
        rw [fX12_comesOut_b97, a1, y_bd, d1]
      have el : cc + (r_op y :: (r_pop tm W).1).length = cc + 1 + (r_pop tm W).1.length := by rw [List.length_cons]; omega
      refine ⟨V2, ?_, by rw [el]; exact d2, r_ce_trans fw1 (r_ce_trans a3 d3 (by omega)) (Nat.le_refl _), fun lo hlo vars left ip st hst => ?_⟩
      · have g1 : zI (zsI V 0 58 (nI W.length)) 0 58 = nI W.length := rfl
        have g2 : zA (zsI V 0 58 (nI W.length)) 39 = zA V 39 := rfl
        unfold fX12_comesOut_b43
        rw [h58, nI_pred]
        simp only [y_let, g1, g2, y_ck (show W.length < 48 by omega) (show 48 < 2 ^ 31 by decide), nI_clamp (show W.length < 2 ^ 31 by omega), t1]
        unfold r_op at b97
        by_cases q9 : y = 9
        · rw [if_pos (show nI y = (9 : Int32) by rw [q9]; rfl)]; rw [if_pos q9] at b97; exact b97
        rw [if_neg (show ¬ nI y = (9 : Int32) from fun z => q9 ((nI_eq (b := 9) (by omega) (by decide)).mp z))]
        rw [if_neg q9] at b97
        by_cases q10 : y = 10
        · rw [if_pos (show nI y = (10 : Int32) by rw [q10]; rfl)]; rw [if_pos q10] at b97; exact b97
        rw [if_neg (show ¬ nI y = (10 : Int32) from fun z => q10 ((nI_eq (b := 10) (by omega) (by decide)).mp z))]
        rw [if_neg q10] at b97
        by_cases q11 : y = 11
        · rw [if_pos (show nI y = (11 : Int32) by rw [q11]; rfl)]; rw [if_pos q11] at b97; exact b97
        rw [if_neg (show ¬ nI y = (11 : Int32) from fun z => q11 ((nI_eq (b := 11) (by omega) (by decide)).mp z))]
        rw [if_neg q11] at b97
        exact b97
      · have s1 := a4 lo hlo vars left ip st hst
        rw [el]
        show _ = (r_m1 (nI (r_op y)) 0 vars left ip st).bind (r_run vars left ip (r_pop tm W).1)
        cases hm : r_m1 (nI (r_op y)) 0 vars left ip st with
        | some st' =>
          rw [hm] at s1
          exact d4 lo (by omega) vars left ip st' s1
        | none =>
          rw [hm] at s1
          -- what is none stays none
          have : y_mx (zA V2 37) (zA V2 38) vars left ip (1200 * sd + (cc + 1 + (r_pop tm W).1.length) - lo) lo [] = none := by
            have key : ∀ n, y_mx (zA V2 37) (zA V2 38) vars left ip (1200 * sd + (cc + 1) - lo + n) lo [] = none := by
              intro n
              induction n with
              | zero =>
                rw [Nat.add_zero, ← s1]
                exact r_mx_ext _ _ _ fun j h1 h2 => d3.2.2.2.2 j (by omega)
              | succ n ihn => rw [show 1200 * sd + (cc + 1) - lo + (n + 1) = (1200 * sd + (cc + 1) - lo + n) + 1 by omega, r_mx_add, ihn]; rfl
            have := key (r_pop tm W).1.length
            rwa [show 1200 * sd + (cc + 1) - lo + (r_pop tm W).1.length = 1200 * sd + (cc + 1 + (r_pop tm W).1.length) - lo by omega] at this
          exact this
    cases tm with
    | false =>
      rw [r_b0, if_pos rfl]
      exact go (by rw [r_pop, if_neg q7, if_neg (fun z => by cases z.1)])
    | true =>
      rw [r_b1, if_neg (show ¬ (1 : Int32) = 0 by decide)]
      by_cases q11 : y = 11
      · rw [if_pos (show nI y = (11 : Int32) by rw [q11]; rfl)]
        exact go (by rw [r_pop, if_neg q7, if_neg (fun z => z.2 q11)])
      · rw [if_neg (show ¬ nI y = (11 : Int32) from fun z => q11 ((nI_eq (b := 11) (by omega) (by decide)).mp z))]
        exact stop (by rw [r_pop, if_neg q7, if_pos ⟨rfl, q11⟩])
theorem r_pop_len (tm : Bool) : ∀ W, (r_pop tm W).1.length + (r_pop tm W).2.length = W.length := by
  intro W
  induction W with
  | nil => rfl
  | cons y W ih =>
    rw [r_pop]
    split
    · exact Nat.zero_add _
    split
    · exact Nat.zero_add _
    · show (r_pop tm W).1.length + 1 + (r_pop tm W).2.length = W.length + 1
      omega
/-- laid onto those that wait -/
theorem m_wpush (h : r_wc sd W cc V) (hW : W.length < 48) {x : Nat} (hx : x ≤ 11) : r_wc sd (x :: W) cc (zsI (zsA V 39 (upd (zA V 39) W.length (nI x))) 0 58 (nI (W.length + 1))) := by
  refine ⟨rfl, fun k y hk => ?_, h.2.2.1, h.2.2.2⟩
  show upd (zA V 39) W.length (nI x) k = nI y ∧ y ≤ 11
  rw [y_upd]
  by_cases q : k = W.length
  · subst q
    rw [r_rev_top] at hk
    cases hk
    rw [if_pos rfl]; exact ⟨rfl, hx⟩
  · rw [if_neg q]
    have hl : k < (x :: W).reverse.length := (List.getElem?_eq_some_iff.mp hk).1
    rw [List.length_reverse] at hl
    have hl : k < W.length + 1 := hl
    rw [List.reverse_cons, List.getElem?_append_left (by rw [List.length_reverse]; omega)] at hk
    exact h.2.1 k y hk
end
