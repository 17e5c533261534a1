/-! ===== the class's component 5 and a state: modes, coils, acts ===== -/
def y_ac (S : y_S) : Nat := (y_I S 0 13).toNatClampNeg
def y_wm (T : zV) : Prop := (zA T 1 7 = nI (y_many T 7) ∧ y_many T 7 ≤ 12) ∧ (zA T 1 1 = nI (y_many T 1) ∧ y_many T 1 ≤ 8) ∧ (zA T 1 0 = nI (y_many T 0) ∧ y_many T 0 ≤ 16)
def y_ok (b : Nat) (T : zV) (S : y_S) : Prop := (∃ a, a ≤ 200 ∧ y_I S 0 13 = nI a) ∧ (S.2.2.2.Nodup ∧ ∀ c ∈ S.2.2.2, c < y_many T 1) ∧ (∀ m, m < 12 → ∃ j, j ≤ b ∧ y_R S 22 m = nI j)
def y_rb (w : Bool) (b : Nat) (T : zV) (S : y_S) (V : zV) : Prop :=
  y_sim T S V ∧ (zI V 10 4 = nI S.2.2.2.length ∧ ∀ i c, S.2.2.2[i]? = some c → zA V 13 i = nI c) ∧ zI V 18 6 = nI (y_timed T S) ∧ y_ok b T S ∧ ∃ p, p ≤ 3 ∧ y_I S 14 7 = nI p ∧ y_lay w b T p S.2.1 S.2.2.1 V
theorem y_cnt_up {p q : Nat → Bool} {m : Nat} (hp : p m = false) (hq : q m = true) (hne : ∀ j, j ≠ m → p j = q j) : ∀ n, m < n → ((List.range n).filter q).length = ((List.range n).filter p).length + 1 := by
  have low : ∀ n, n ≤ m → ((List.range n).filter q) = ((List.range n).filter p) := by
    intro n hn
    apply List.filter_congr
    intro j hj
    have := List.mem_range.mp hj
    exact (hne j (by omega)).symm
  intro n
  induction n with
  | zero => intro h; omega
  | succ n ih =>
    intro h
    rw [List.range_succ, List.filter_append, List.filter_append, List.length_append, List.length_append]
    by_cases e : m = n
    · subst e
      rw [low m (Nat.le_refl _)]
      have e1 : [m].filter q = [m] := by rw [List.filter_cons, if_pos hq]; rfl
      have e2 : [m].filter p = [] := by rw [List.filter_cons, if_neg (by rw [hp]; decide)]; rfl
      rw [e1, e2]; rfl
    · rw [ih (by omega)]
      have e1 : [n].filter q = [n].filter p := by
        rw [List.filter_cons, List.filter_cons, hne n (fun z => e z.symm)]; rfl
      rw [e1]; omega
theorem y_timed_same {T : zV} {S S' : y_S} (h : y_R S' 19 = y_R S 19) : y_timed T S' = y_timed T S := by unfold y_timed; rw [h]
theorem y_timed_up {T : zV} {S S' : y_S} {m : Nat} (hm : m < y_many T 7) (h0 : y_R S 19 m = 0) (h1 : ¬ y_R S' 19 m = 0) (hne : ∀ j, j ≠ m → y_R S' 19 j = y_R S 19 j) : y_timed T S' = y_timed T S + (if 0 < zA T 11 m then 1 else 0) := by
  unfold y_timed
  by_cases ht : 0 < zA T 11 m
  · rw [if_pos ht]
    refine y_cnt_up (m := m) ?_ ?_ ?_ _ hm
    · simp [h0]
    · simp [h1, ht]
    · intro j hj; simp [hne j hj]
  · rw [if_neg ht, Nat.add_zero]
    congr 1
    apply List.filter_congr
    intro j _
    by_cases e : j = m
    · subst e; simp [ht]
    · simp [hne j e]
section
variable {F : Nat} {T : zV} {w : Bool} {b : Nat} {S : y_S} {V : zV}
theorem c_hasx {k : Nat} {x : Int32} (hk : k < 27) : fX9_has F T (nI k) x = some (if x < 0 then 0 else if zA T 1 k ≤ x then 0 else 1) := by
  unfold fX9_has
  rw [if_neg (nI_pos (by omega)), if_neg (show ¬ (27 : Int32) ≤ nI k from nI_ge (b := 27) hk (by decide)), y_ck hk (by decide), nI_clamp (by omega)]
  by_cases q : x < 0
  · rw [if_pos q, if_pos q]
  · rw [if_neg q, if_neg q]
    by_cases q2 : zA T 1 k ≤ x
    · rw [if_pos q2, if_pos q2]
    · rw [if_neg q2, if_neg q2]
theorem c_has {k m : Nat} (hk : k < 27) (h1 : zA T 1 k = nI (y_many T k)) (h2 : y_many T k < 2 ^ 31) (hm : m < 2 ^ 31) : fX9_has F T (nI k) (nI m) = some (if m < y_many T k then 1 else 0) := by
  rw [c_hasx hk, if_neg (nI_pos hm), h1]
  by_cases q : m < y_many T k
  · rw [if_pos q, if_neg (nI_ge q h2)]
  · rw [if_neg q, if_pos (nI_le (by omega) hm)]
theorem y_rb_mono {b' : Nat} (h : y_rb w b T S V) (hb : b ≤ b') : y_rb w b' T S V := by
  obtain ⟨h1, h2, h3, ⟨a1, a2, a3⟩, p, hp, h5, h6⟩ := h
  exact ⟨h1, h2, h3, ⟨a1, a2, fun m hm => by obtain ⟨j, hj, e⟩ := a3 m hm; exact ⟨j, by omega, e⟩⟩, p, hp, h5, y_lay_mono h6 hb⟩
/-- what the class writes that no state shows -/
theorem y_rb_fr {sc : List (Nat × Nat)} {ar : List Nat} {V' : zV} (h : y_rb w b T S V) (f : y_fr sc ar V V') (h1 : ∀ q ∈ y_sc ++ (10, 4) :: (18, 6) :: (14, 8) :: y_ls, q ∉ sc) (h2 : ∀ r ∈ y_an ++ 13 :: y_la, r ∉ ar) : y_rb w b T S V' := by
  obtain ⟨g1, g2, g3, g4, p, hp, g5, g6⟩ := h
  refine ⟨y_sim_fr g1 f (fun q hq => h1 q (List.mem_append_left _ hq)) (fun r hr => h2 r (List.mem_append_left _ hr)), ⟨(f.1 10 4 (h1 _ (by decide))).trans g2.1, fun i c hc => (congrFun (f.2.1 13 (h2 _ (by decide))) i).trans (g2.2 i c hc)⟩, (f.1 18 6 (h1 _ (by decide))).trans g3, g4, p, hp, g5, y_lay_fr g6 f (h1 _ (by decide)) (fun q hq => h1 q (List.mem_append_right _ (List.mem_cons_of_mem _ (List.mem_cons_of_mem _ (List.mem_cons_of_mem _ hq))))) (fun r hr => h2 r (List.mem_append_right _ (List.mem_cons_of_mem _ hr)))⟩
theorem y_rb_I {r k : Nat} {x : Int32} (h : y_rb w b T S V) (hm : (r, k) ∈ [(0, 9), (0, 10), (0, 11), (0, 12), (0, 14)]) : y_rb w b T (y_sI S r k x) (zsI V r k x) := by
  obtain ⟨g1, g2, g3, ⟨⟨a, ha, a1⟩, a2, a3⟩, p, hp, g5, g6⟩ := h
  have f : y_fr [(r, k)] [] V (zsI V r k x) := y_fr_I y_fr_refl (List.mem_singleton.mpr rfl)
  have key : ∀ q, q ∈ (0, 13) :: (14, 7) :: (10, 4) :: (18, 6) :: (14, 8) :: y_ls → q ∉ [(r, k)] := by
    intro q hq z
    rw [List.mem_singleton] at z
    subst z
    exact (show ∀ z ∈ [(0, 9), (0, 10), (0, 11), (0, 12), (0, 14)], z ∉ (0, 13) :: (14, 7) :: (10, 4) :: (18, 6) :: (14, 8) :: y_ls by decide) _ hm hq
  have e : ∀ r' k', (r', k') ∈ [(0, 13), (14, 7)] → y_I (y_sI S r k x) r' k' = y_I S r' k' := by
    intro r' k' hq
    show (if r' = r ∧ k' = k then x else _) = _
    rw [if_neg]
    · rfl
    · rintro ⟨rfl, rfl⟩
      exact key _ (by
        rcases List.mem_cons.mp hq with z | z
        · rw [z]; decide
        · rw [List.mem_singleton] at z; rw [z]; decide) (List.mem_singleton.mpr rfl)
  refine ⟨y_sim_I g1, ⟨(f.1 10 4 (key _ (by decide))).trans g2.1, g2.2⟩, (f.1 18 6 (key _ (by decide))).trans g3, ⟨⟨a, ha, (e 0 13 (by decide)).trans a1⟩, a2, a3⟩, p, hp, (e 14 7 (by decide)).trans g5, y_lay_fr g6 f (key _ (by decide)) (fun q hq => key q (List.mem_cons_of_mem _ (List.mem_cons_of_mem _ (List.mem_cons_of_mem _ (List.mem_cons_of_mem _ (List.mem_cons_of_mem _ hq)))))) (fun r _ => List.not_mem_nil)⟩
theorem y_rb_A {r i : Nat} {x : Int32} (h : y_rb w b T S V) (hm : r ∈ [1, 6, 7, 8, 9, 11, 12, 20, 21, 23]) : y_rb w b T (y_sR S r i x) (zsA V r (upd (zA V r) i x)) := by
  obtain ⟨g1, g2, g3, ⟨a1, a2, a3⟩, p, hp, g5, g6⟩ := h
  have f : y_fr [] [r] V (zsA V r (upd (zA V r) i x)) := y_fr_A y_fr_refl (List.mem_singleton.mpr rfl)
  have key : ∀ q, q ∈ 13 :: 19 :: 22 :: y_la → q ∉ [r] := by
    intro q hq z
    rw [List.mem_singleton] at z
    subst z
    exact (show ∀ z ∈ [1, 6, 7, 8, 9, 11, 12, 20, 21, 23], z ∉ 13 :: 19 :: 22 :: y_la by decide) _ hm hq
  have e : ∀ q, q ∈ [19, 22] → y_R (y_sR S r i x) q = y_R S q := by
    intro q hq
    show (if q = r then _ else _) = _
    rw [if_neg]
    · rfl
    · rintro rfl
      exact key _ (by
        rcases List.mem_cons.mp hq with z | z
        · rw [z]; decide
        · rw [List.mem_singleton] at z; rw [z]; decide) (List.mem_singleton.mpr rfl)
  refine ⟨y_sim_A g1, ⟨g2.1, fun j c hc => (congrFun (f.2.1 13 (key _ (by decide))) j).trans (g2.2 j c hc)⟩, ?_, ⟨a1, a2, fun m hm => ?_⟩, p, hp, g5, y_lay_fr g6 f List.not_mem_nil (fun q _ => List.not_mem_nil) (fun q hq => key q (List.mem_cons_of_mem _ (List.mem_cons_of_mem _ (List.mem_cons_of_mem _ hq))))⟩
  · rw [y_timed_same (e 19 (by decide))]; exact g3
  · rw [e 22 (by decide)]; exact a3 m hm
theorem y_rb_P {x : Int64} (h : y_rb w b T S V) : y_rb w b T (y_sP S x) (zsL V 0 8 x) := by
  obtain ⟨g1, g2, g3, g4, p, hp, g5, g6⟩ := h
  refine ⟨y_sim_P g1, g2, g3, g4, p, hp, g5, ?_⟩
  cases w with
  | false => exact g6
  | true => exact g6
/-- one more act -/
theorem y_rb_act {a : Nat} (h : y_rb w b T S V) (ha : a < 200) (e : y_I S 0 13 = nI a) : y_rb w b T (y_sI S 0 13 (nI (a + 1))) (zsI V 0 13 (nI (a + 1))) := by
  obtain ⟨g1, g2, g3, ⟨-, a2, a3⟩, p, hp, g5, g6⟩ := h
  have f : y_fr [(0, 13)] [] V (zsI V 0 13 (nI (a + 1))) := y_fr_I y_fr_refl (List.mem_singleton.mpr rfl)
  exact ⟨y_sim_I g1, g2, g3, ⟨⟨a + 1, by omega, rfl⟩, a2, a3⟩, p, hp, g5, y_lay_fr g6 f (by decide) (by decide) (by decide)⟩
theorem y_rb_at {r k : Nat} (h : y_rb w b T S V) (hq : (r, k) ∈ y_sc) : zI V r k = y_I S r k := y_sim_at h.1 hq
theorem y_rb_r {r i : Nat} (h : y_rb w b T S V) (hq : r ∈ y_an) (hi : i < y_al T r) : zA V r i = y_R S r i := y_sim_r h.1 hq hi
theorem y_rb_ac (h : y_rb w b T S V) : ∃ a, a ≤ 200 ∧ y_I S 0 13 = nI a ∧ y_ac S = a := by
  obtain ⟨a, ha, e⟩ := h.2.2.2.1.1
  exact ⟨a, ha, e, by unfold y_ac; rw [e, nI_clamp (by omega)]⟩
/-! modes -/
theorem c_on (hw : y_wm T) {m : Nat} (hm : m < y_many T 7) (h : y_rb w b T S V) : ∃ V', fX4_turnOn F T V (nI m) = some ((if (y_on T S m).1 = true then 1 else 0), V') ∧ y_rb w b T (y_on T S m).2 V' := by
  have hm7 := hw.1.2
  have h1 : y_rb w b T (y_sR S 20 m (zA T 11 m)) (zsA V 20 (upd (zA V 20) m (zA T 11 m))) := y_rb_A h (by decide)
  have h19 : zA V 19 m = y_R S 19 m := y_rb_r h (r := 19) (by decide) (show m < 12 by omega)
  have h21 : zA V 21 m = y_R S 21 m := y_rb_r h (r := 21) (by decide) (show m < 12 by omega)
  unfold fX4_turnOn y_on
  rw [show (7 : Int32) = nI 7 from rfl, c_has (by decide) hw.1.1 (by omega) (by omega), if_pos hm, y_bd, if_neg (by decide), if_pos (show nI m < (12 : Int32) from nI_lt (b := 12) (by omega) (by decide)), y_ck (by omega) (by decide), y_ck (by omega) (by decide), y_let, y_ck (by omega) (by decide)]
  simp only [nI_clamp (show m < 2 ^ 31 by omega)]
  have e0 : zA (zsA V 20 (upd (zA V 20) m (zA T 11 m))) 19 m = zA V 19 m := rfl
  rw [e0, h19]
  by_cases q : y_R S 19 m = 0
  · rw [if_pos q, if_pos q, y_ck (by omega) (by decide), y_let, y_ck (by omega) (by decide), y_ck (by omega) (by decide), y_let, y_ck (by omega) (by decide)]
    have e1 : zA (zsA (zsA V 20 (upd (zA V 20) m (zA T 11 m))) 19 (upd (zA (zsA V 20 (upd (zA V 20) m (zA T 11 m))) 19) m (vp_nar .boolean 1))) 21 m = y_R S 21 m := h21
    rw [e1, y_bool1]
    obtain ⟨g1, g2, g3, ⟨a1, a2, a3⟩, p, hp, g5, g6⟩ := h1
    have s2 := y_sim_A (y_sim_A g1 (r := 19) (i := m) (x := 1)) (r := 21) (i := m) (x := y_R S 21 m + 1)
    have tm := y_timed_up (T := T) (S := S) (S' := y_sR (y_sR (y_sR S 20 m (zA T 11 m)) 19 m 1) 21 m (y_R S 21 m + 1)) hm q (by
      show ¬ (if m = m then (1 : Int32) else _) = 0
      rw [if_pos rfl]; decide) (fun j hj => by
      show (if j = m then (1 : Int32) else _) = _
      rw [if_neg hj]; rfl)
    have fin : ∀ (V' : zV) (d : Nat), V' = zsI (zsA (zsA (zsA V 20 (upd (zA V 20) m (zA T 11 m))) 19 (upd (zA (zsA V 20 (upd (zA V 20) m (zA T 11 m))) 19) m 1)) 21 (upd (zA (zsA (zsA V 20 (upd (zA V 20) m (zA T 11 m))) 19 (upd (zA (zsA V 20 (upd (zA V 20) m (zA T 11 m))) 19) m 1)) 21) m (y_R S 21 m + 1))) 18 6 (zI V 18 6 + nI d) → d = (if 0 < zA T 11 m then 1 else 0) → y_rb w b T (y_sR (y_sR (y_sR S 20 m (zA T 11 m)) 19 m 1) 21 m (y_R S 21 m + 1)) V' := by
      intro V' d e ed
      subst e
      have f : y_fr [(18, 6)] [19, 21] (zsA V 20 (upd (zA V 20) m (zA T 11 m))) (zsI (zsA (zsA (zsA V 20 (upd (zA V 20) m (zA T 11 m))) 19 (upd (zA (zsA V 20 (upd (zA V 20) m (zA T 11 m))) 19) m 1)) 21 (upd (zA (zsA (zsA V 20 (upd (zA V 20) m (zA T 11 m))) 19 (upd (zA (zsA V 20 (upd (zA V 20) m (zA T 11 m))) 19) m 1)) 21) m (y_R S 21 m + 1))) 18 6 (zI V 18 6 + nI d)) := y_fr_I (y_fr_A (y_fr_A y_fr_refl (by decide)) (by decide)) (by decide)
      refine ⟨y_sim_fr s2 (y_fr_I (sc := [(18, 6)]) (ar := []) y_fr_refl (by decide)) (by decide) (by decide), g2, ?_, ⟨a1, a2, a3⟩, p, hp, g5, y_lay_fr g6 f (by decide) (by decide) (by decide)⟩
      refine Eq.trans (b := zI V 18 6 + nI d) rfl ?_
      have g3' : zI V 18 6 = nI (y_timed T S) := h.2.2.1
      rw [g3', tm, nI_add, ed]
    by_cases ht : zA T 11 m ≤ 0
    · have ht' : ¬ 0 < zA T 11 m := Int32.not_lt.mpr ht
      rw [if_pos ht, fX4_turnOn_b89, y_let]
      exact ⟨_, rfl, fin _ 0 rfl (by rw [if_neg ht'])⟩
    · have ht' : 0 < zA T 11 m := Int32.not_le.mp ht
      rw [if_neg ht, fX4_turnOn_b89, y_let]
      exact ⟨_, rfl, fin _ 1 rfl (by rw [if_pos ht'])⟩
  · rw [if_neg q, if_neg q]
    exact ⟨_, rfl, h1⟩
theorem c_isOn {m : Nat} (hm : m < 12) (h : y_rb w b T S V) : fX4_isOn F V (nI m) = some (if y_R S 19 m = 0 then 0 else 1) := by
  unfold fX4_isOn
  rw [if_neg (nI_pos (by omega)), if_neg (show ¬ (12 : Int32) ≤ nI m from nI_ge (b := 12) hm (by decide)), y_ck (by omega) (by decide), nI_clamp (by omega), y_rb_r h (r := 19) (by decide) hm]
  by_cases q : y_R S 19 m = 0
  · rw [if_pos q, if_pos q]
  · rw [if_neg q, if_neg q]
theorem c_off {m : Nat} (hw : y_wm T) (hm : m < y_many T 7) (h : y_rb w b T S V) : ∃ V', fX4_turnOff F T V (nI m) = some ((if (y_off S m).1 = true then 1 else 0), V') ∧ y_rb w (b + 1) T (y_off S m).2 V' := by
  have hm7 := hw.1.2
  have h22 : zA V 22 m = y_R S 22 m := y_rb_r h (r := 22) (by decide) (show m < 12 by omega)
  unfold fX4_turnOff y_off
  rw [c_isOn (by omega) h, y_bd]
  by_cases q : y_R S 19 m = 0
  · rw [if_pos q, if_pos q, if_pos rfl]
    exact ⟨V, rfl, y_rb_mono h (by omega)⟩
  · rw [if_neg q, if_neg q, if_neg (by decide), y_ck (by omega) (by decide), y_let, y_ck (by omega) (by decide), y_let, y_ck (by omega) (by decide), y_ck (by omega) (by decide), y_let, y_ck (by omega) (by decide)]
    simp only [nI_clamp (show m < 2 ^ 31 by omega)]
    have e1 : zA (zsA (zsA V 19 (upd (zA V 19) m (vp_nar .boolean 0))) 20 (upd (zA (zsA V 19 (upd (zA V 19) m (vp_nar .boolean 0))) 20) m 0)) 22 m = y_R S 22 m := h22
    rw [e1, y_bool0]
    obtain ⟨g1, g2, g3, ⟨a1, a2, a3⟩, p, hp, g5, g6⟩ := h
    have s2 := y_sim_A (y_sim_A (y_sim_A g1 (r := 19) (i := m) (x := 0)) (r := 20) (i := m) (x := 0)) (r := 22) (i := m) (x := y_R S 22 m + 1)
    have tm := y_timed_up (T := T) (S' := S) (S := y_sR (y_sR (y_sR S 19 m 0) 20 m 0) 22 m (y_R S 22 m + 1)) hm (by
      show (if m = m then (0 : Int32) else _) = 0
      rw [if_pos rfl]) q (fun j hj => by
      show _ = (if j = m then (0 : Int32) else _)
      rw [if_neg hj]; rfl)
    have fin : ∀ (V' : zV) (d : Nat), V' = zsI (zsA (zsA (zsA V 19 (upd (zA V 19) m 0)) 20 (upd (zA (zsA V 19 (upd (zA V 19) m 0)) 20) m 0)) 22 (upd (zA (zsA (zsA V 19 (upd (zA V 19) m 0)) 20 (upd (zA (zsA V 19 (upd (zA V 19) m 0)) 20) m 0)) 22) m (y_R S 22 m + 1))) 18 6 (zI V 18 6 - nI d) → d = (if 0 < zA T 11 m then 1 else 0) → y_rb w (b + 1) T (y_sR (y_sR (y_sR S 19 m 0) 20 m 0) 22 m (y_R S 22 m + 1)) V' := by
      intro V' d e ed
      subst e
      have f : y_fr [(18, 6)] [19, 20, 22] V (zsI (zsA (zsA (zsA V 19 (upd (zA V 19) m 0)) 20 (upd (zA (zsA V 19 (upd (zA V 19) m 0)) 20) m 0)) 22 (upd (zA (zsA (zsA V 19 (upd (zA V 19) m 0)) 20 (upd (zA (zsA V 19 (upd (zA V 19) m 0)) 20) m 0)) 22) m (y_R S 22 m + 1))) 18 6 (zI V 18 6 - nI d)) := y_fr_I (y_fr_A (y_fr_A (y_fr_A y_fr_refl (by decide)) (by decide)) (by decide)) (by decide)
      refine ⟨y_sim_fr s2 (y_fr_I (sc := [(18, 6)]) (ar := []) y_fr_refl (by decide)) (by decide) (by decide), g2, ?_, ⟨a1, a2, fun j hj => ?_⟩, p, hp, g5, y_lay_mono (y_lay_fr g6 f (by decide) (by decide) (by decide)) (by omega)⟩
      · refine Eq.trans (b := zI V 18 6 - nI d) rfl ?_
        rw [g3, tm, pk_sub (by omega), ed, Nat.add_sub_cancel]
      · show ∃ i, i ≤ b + 1 ∧ (if j = m then y_R S 22 m + 1 else y_R S 22 j) = nI i
        by_cases ej : j = m
        · obtain ⟨i, hi, ei⟩ := a3 m (by omega)
          exact ⟨i + 1, by omega, by rw [if_pos ej, ei, nI_1]⟩
        · obtain ⟨i, hi, ei⟩ := a3 j hj
          exact ⟨i, by omega, by rw [if_neg ej, ei]⟩
    by_cases ht : zA T 11 m ≤ 0
    · have ht' : ¬ 0 < zA T 11 m := Int32.not_lt.mpr ht
      rw [if_pos ht, fX4_turnOff_b56, y_let]
      exact ⟨_, rfl, fin _ 0 rfl (by rw [if_neg ht'])⟩
    · have ht' : 0 < zA T 11 m := Int32.not_le.mp ht
      rw [if_neg ht, fX4_turnOff_b56, y_let]
      exact ⟨_, rfl, fin _ 1 rfl (by rw [if_pos ht'])⟩
end
