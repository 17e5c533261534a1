/-! ===== names by their places: roles, what is told ahead, faults ===== -/
abbrev r_E : Type := List Nat × Nat × Nat
/-- what a NAME at i is for: 20 and a sort: it is told; else the sort that is wanted -/
def r_ro (K : Nat → Nat) (i : Nat) : Nat :=
  if K (i - 1) = 0 ∨ K (i - 1) = 1 ∨ K (i - 1) = 3 ∨ K (i - 1) = 4 ∨ K (i - 1) = 6 ∨ K (i - 1) = 7 then 20 + K (i - 1)
  else if K (i - 1) = 2 ∨ K (i - 1) = 20 then 1
  else if K (i - 1) = 5 then 4
  else if K (i - 1) = 8 ∨ K (i - 1) = 11 then 0
  else if K (i - 1) = 18 then 7
  else if K (i - 1) = 27 then (if K (i - 2) = 3 then 0 else if K (i - 2) = 2 then 1 else if K (i - 2) = 5 then 4 else 6)
  else 6
def r_lk : List r_E → List Nat → Nat → Option Nat
  | [], _, _ => none
  | e :: l, s, t => if e.1 = s ∧ e.2.1 = t then some e.2.2 else r_lk l s t
def r_tol (l : List r_E) (s : List Nat) : Bool := l.any fun e => e.1 = s
/-- the names told ahead of i -/
def r_tl (b : Nat → Nat) (L : Nat) : Nat → List r_E
  | 0 => []
  | i + 1 => if r_tK b L i = 27 ∧ 20 ≤ r_ro (r_tK b L) i ∧ r_tol (r_tl b L i) (r_tW b L i) = false then r_tl b L i ++ [(r_tW b L i, r_tK b L (i - 1), r_cn (r_tK b L) (r_tK b L (i - 1)) (i - 1))] else r_tl b L i
/-- a fault of names at token j, but for those of 'start' -/
def r_fb (b : Nat → Nat) (L j k : Nat) : Prop :=
  (r_tK b L j = 27 ∧ ((k = 3 ∧ 20 ≤ r_ro (r_tK b L) j ∧ r_tol (r_tl b L j) (r_tW b L j) = true) ∨
    (k = 4 ∧ r_ro (r_tK b L) j < 7 ∧ r_lk (r_tl b L j) (r_tW b L j) (r_ro (r_tK b L) j) = none) ∨
    (k = 5 ∧ r_tK b L (j - 1) = 27 ∧ (r_tK b L (j - 2) = 2 ∨ r_tK b L (j - 2) = 5) ∧ r_tW b L j = r_tW b L (j - 1)))) ∨
  (k = 5 ∧ r_tK b L j = 28 ∧ r_tK b L (j - 1) = 9 ∧ r_tV b L j = 0)
/-- the number of a token, of a text whose end is token E -/
def r_nu (b : Nat → Nat) (L E j : Nat) : Nat :=
  if r_tK b L j = 27 then
    (if 20 ≤ r_ro (r_tK b L) j then r_cn (r_tK b L) (r_tK b L (j - 1)) (j - 1)
     else if r_ro (r_tK b L) j = 7 then (r_lk (r_tl b L E) (r_tW b L j) 7).getD 0
     else (r_lk (r_tl b L j) (r_tW b L j) (r_ro (r_tK b L) j)).getD 0)
  else if r_tK b L j = 28 then r_tV b L j else 0
/-! ===== the reference reads: its state ===== -/
def r_hs (r : Nat) : Nat :=
  if r = 8 then 9 else if r = 12 ∨ r = 16 ∨ r = 20 then 16 else if r = 13 ∨ r = 14 ∨ r = 15 then 8 else if r = 17 ∨ r = 18 ∨ r = 19 then 24 else if r = 21 ∨ r = 22 then 12 else if r = 23 then 13
  else if r = 24 then 80 else if r = 25 ∨ r = 26 then 81 else if r = 27 ∨ r = 28 ∨ r = 29 ∨ r = 30 then 400 else if r = 31 ∨ r = 32 ∨ r = 33 ∨ r = 34 then 1000 else 1200
def r_sc : List Nat := [11, 12, 13, 14, 15, 16, 22, 41, 46, 51, 54, 58]
/-- rows with a half for each side; rows without -/
def r_hr : List Nat := [8, 12, 13, 14, 15, 16, 17, 18, 19, 20, 21, 22, 23, 24, 25, 26, 27, 28, 29, 30, 31, 32, 33, 34, 37, 38]
def r_wr : List Nat := [10, 11, 35, 36, 39]
def r_fx (sd : Nat) (V V' : zV) : Prop := (∀ r k, ¬ (r = 0 ∧ k ∈ r_sc) → zI V' r k = zI V r k) ∧ (∀ r, r ∉ r_hr → r ∉ r_wr → zA V' r = zA V r) ∧ (∀ r, r ≠ 9 → zB V' r = zB V r) ∧ (∀ r k, zL V' r k = zL V r k) ∧
  ∀ r ∈ r_hr, ∀ i, (i < sd * r_hs r ∨ sd * r_hs r + r_hs r ≤ i) → zA V' r i = zA V r i
theorem r_fx_refl {sd : Nat} {V : zV} : r_fx sd V V := ⟨fun _ _ _ => rfl, fun _ _ _ => rfl, fun _ _ => rfl, fun _ _ => rfl, fun _ _ _ _ => rfl⟩
theorem r_fx_trans {sd : Nat} {V V' V'' : zV} (h : r_fx sd V V') (g : r_fx sd V' V'') : r_fx sd V V'' :=
  ⟨fun r k m => (g.1 r k m).trans (h.1 r k m), fun r m n => (g.2.1 r m n).trans (h.2.1 r m n), fun r m => (g.2.2.1 r m).trans (h.2.2.1 r m), fun r k => (g.2.2.2.1 r k).trans (h.2.2.2.1 r k), fun r hr i hi => (g.2.2.2.2 r hr i hi).trans (h.2.2.2.2 r hr i hi)⟩
theorem r_fx_I {sd k : Nat} {V V' : zV} {x : Int32} (h : r_fx sd V V') (hk : k ∈ r_sc) : r_fx sd V (zsI V' 0 k x) := by
  refine ⟨fun r k' m => ?_, h.2.1, h.2.2.1, h.2.2.2.1, h.2.2.2.2⟩
  rw [y_get.1, if_neg (fun z => m ⟨z.1, by rw [z.2]; exact hk⟩)]
  exact h.1 r k' m
theorem r_fx_W {sd r : Nat} {V V' : zV} {f : Nat → Int32} (h : r_fx sd V V') (hr : r ∈ r_wr) : r_fx sd V (zsA V' r f) := by
  refine ⟨h.1, fun a m n => ?_, h.2.2.1, h.2.2.2.1, fun a ha i hi => ?_⟩
  · have e : zA (zsA V' r f) a = if a = r then f else zA V' a := rfl
    rw [e, if_neg (fun z => n (by rw [z]; exact hr))]
    exact h.2.1 a m n
  · have e : zA (zsA V' r f) a = if a = r then f else zA V' a := rfl
    rw [e, if_neg (fun z => by subst z; exact absurd hr ((show ∀ a ∈ r_hr, a ∉ r_wr by decide) a ha))]
    exact h.2.2.2.2 a ha i hi
theorem r_fx_B {sd : Nat} {V V' : zV} {f : Nat → Int64} (h : r_fx sd V V') : r_fx sd V (zsB V' 9 f) := by
  refine ⟨h.1, h.2.1, fun a m => ?_, h.2.2.2.1, h.2.2.2.2⟩
  have e : zB (zsB V' 9 f) a = if a = 9 then f else zB V' a := rfl
  rw [e, if_neg m]
  exact h.2.2.1 a m
theorem r_fx_H {sd r k n : Nat} {V V' : zV} {x : Int32} (h : r_fx sd V V') (hr : r ∈ r_hr) (hn : n = sd * r_hs r + k) (hk : k < r_hs r) : r_fx sd V (zsA V' r (upd (zA V' r) n x)) := by
  refine ⟨h.1, fun a m n => ?_, h.2.2.1, h.2.2.2.1, fun a ha i hi => ?_⟩
  · have e : ∀ f, zA (zsA V' r f) a = if a = r then f else zA V' a := fun _ => rfl
    rw [e, if_neg (fun z => m (by rw [z]; exact hr))]
    exact h.2.1 a m n
  · have e : ∀ f, zA (zsA V' r f) a = if a = r then f else zA V' a := fun _ => rfl
    rw [e]
    by_cases q : a = r
    · subst q
      rw [if_pos rfl, y_upd, if_neg (by omega)]
      exact h.2.2.2.2 a ha i hi
    · rw [if_neg q]; exact h.2.2.2.2 a ha i hi
section
variable {F : Nat} {b : Nat → Nat} {L M sd : Nat} {V : zV}
def r_nm (l : List r_E) (V : zV) : Prop := zI V 0 22 = nI l.length ∧ l.length ≤ 76 ∧ ∀ (k : Nat) (e : r_E), l[k]? = some e → zB V 9 k = lN (r_pk 37 r_d37 0 e.1) ∧ zA V 10 k = nI e.2.1 ∧ zA V 11 k = nI e.2.2 ∧ e.2.1 ≤ 7 ∧ r_an e.1 ∧ e.1.length ≤ 8
/-- the worst fault of names is the first of P -/
def r_ws (b : Nat → Nat) (L : Nat) (P : Nat → Nat → Prop) (V : zV) : Prop := (zI V 0 15 = 0 ∧ ∀ j k, ¬ P j k) ∨
  ∃ j k, P j k ∧ j ≤ 1000 ∧ 1 ≤ k ∧ k ≤ 5 ∧ zI V 0 15 = nI k ∧ zI V 0 16 = nI (r_tS b L j) ∧ ∀ j' k', P j' k' → j < j' ∨ (j = j' ∧ k ≤ k')
theorem r_ws_iff {P Q : Nat → Nat → Prop} (h : r_ws b L P V) (e : ∀ j k, P j k ↔ Q j k) : r_ws b L Q V := by
  have : P = Q := funext fun j => funext fun k => propext (e j k)
  rwa [← this]
def r_ms (b : Nat → Nat) (L M sd i : Nat) (l : List r_E) (P : Nat → Nat → Prop) (V : zV) : Prop :=
  (r_rt b L M V ∧ r_rn7 b L M) ∧ (zI V 0 11 = nI i ∧ zI V 0 13 = 0 ∧ r_in (r_tK b L) i) ∧ (zI V 0 19 = nI sd ∧ sd ≤ 1) ∧ r_nm l V ∧ r_ws b L P V
theorem r_ms_lt {i : Nat} {l : List r_E} {P : Nat → Nat → Prop} (h : r_ms b L M sd i l P V) : i < M ∧ i ≤ 1000 ∧ M ≤ 1001 := by
  obtain ⟨⟨-, t1, t2, t3, t4⟩, ⟨-, -, hi⟩, -⟩ := h
  refine ⟨?_, hi.1, t2⟩
  by_cases q : i < M
  · exact q
  · have := hi.2 (M - 1) (by omega)
    rcases t4 with t4 | t4
    · have := hi.1; omega
    · exact absurd t4 this.1
/-- what of the rows the state speaks of -/
theorem r_ms_eq {i i' : Nat} {l : List r_E} {P : Nat → Nat → Prop} {V' : zV} (h : r_ms b L M sd i l P V) (f : r_fx sd V V') (h11 : zI V' 0 11 = nI i') (h13 : zI V' 0 13 = 0) (hi : r_in (r_tK b L) i') (h15 : zI V' 0 15 = zI V 0 15) (h16 : zI V' 0 16 = zI V 0 16) (h22 : zI V' 0 22 = zI V 0 22) (h9 : zB V' 9 = zB V 9) (h10 : zA V' 10 = zA V 10) (h11' : zA V' 11 = zA V 11) : r_ms b L M sd i' l P V' := by
  obtain ⟨⟨⟨r1, r2⟩, rn⟩, -, ⟨s1, s2⟩, ⟨n1, n2, n3⟩, w⟩ := h
  refine ⟨⟨⟨(f.1 0 10 (by decide)).trans r1, fun j hj => ?_⟩, rn⟩, ⟨h11, h13, hi⟩, ⟨(f.1 0 19 (by decide)).trans s1, s2⟩, ⟨h22.trans n1, n2, ?_⟩, ?_⟩
  · rw [f.2.1 3 (by decide) (by decide), f.2.1 4 (by decide) (by decide), f.2.1 5 (by decide) (by decide), f.2.2.1 6 (by decide)]; exact r2 j hj
  · rw [h9, h10, h11']; exact n3
  · unfold r_ws at w ⊢
    rw [h15, h16]; exact w
/-- a fault was found -/
def r_me (b : Nat → Nat) (L sd f j : Nat) (V V' : zV) : Prop := (f = 1 ∨ f = 2) ∧ r_fx sd V V' ∧ zI V' 0 13 = nI f ∧ zI V' 0 14 = nI (r_tS b L j) ∧ ∃ i, i ≤ 1000 ∧ zI V' 0 11 = nI i
def r_mf (sd : Nat) (V : zV) : Prop := (∃ f, (f = 1 ∨ f = 2) ∧ zI V 0 13 = nI f) ∧ (∃ i, i ≤ 1000 ∧ zI V 0 11 = nI i) ∧ zI V 0 19 = nI sd ∧ sd ≤ 1
def r_mx (sd : Nat) (V V' : zV) : Prop := r_fx sd V V' ∧ zI V' 0 13 = zI V 0 13 ∧ zI V' 0 14 = zI V 0 14 ∧ ∃ i, i ≤ 1000 ∧ zI V' 0 11 = nI i
theorem r_mx_self (h : r_mf sd V) : r_mx sd V V := ⟨r_fx_refl, rfl, rfl, h.2.1⟩
theorem r_mx_mf {V' : zV} (h : r_mf sd V) (g : r_mx sd V V') : r_mf sd V' := ⟨by rw [g.2.1]; exact h.1, g.2.2.2, by rw [g.1.1 0 19 (by decide)]; exact h.2.2⟩
theorem r_mx_trans {V' V'' : zV} (h : r_mx sd V V') (g : r_mx sd V' V'') : r_mx sd V V'' := ⟨r_fx_trans h.1 g.1, g.2.1.trans h.2.1, g.2.2.1.trans h.2.2.1, g.2.2.2⟩
theorem r_me_mf {f j : Nat} {V' : zV} (h : r_me b L sd f j V V') (hs : zI V 0 19 = nI sd ∧ sd ≤ 1) : r_mf sd V' := ⟨⟨f, h.1, h.2.2.1⟩, h.2.2.2.2, (h.2.1.1 0 19 (by decide)).trans hs.1, hs.2⟩
theorem r_me_trans {f j : Nat} {V' V'' : zV} (h : r_me b L sd f j V V') (g : r_mx sd V' V'') : r_me b L sd f j V V'' := ⟨h.1, r_fx_trans h.2.1 g.1, g.2.1.trans h.2.2.1, g.2.2.1.trans h.2.2.2.1, g.2.2.2⟩
theorem r_me_pre {f j : Nat} {V' V'' : zV} (h : r_fx sd V V') (g : r_me b L sd f j V' V'') : r_me b L sd f j V V'' := ⟨g.1, r_fx_trans h g.2.1, g.2.2⟩
def r_xg (sd : Nat) (g : zV → Option zV) : Prop := ∀ V, r_mf sd V → ∃ V', g V = some V' ∧ r_mx sd V V'
theorem r_xg_seq {g1 g2 : zV → Option zV} (h1 : r_xg sd g1) (h2 : r_xg sd g2) : r_xg sd (fun V => zbd (g1 V) g2) := by
  intro V h
  obtain ⟨V', a1, a2⟩ := h1 V h
  obtain ⟨V'', d1, d2⟩ := h2 V' (r_mx_mf h a2)
  exact ⟨V'', by dsimp only; rw [a1, y_bd, d1], r_mx_trans a2 d2⟩
theorem r_mf_ne (h : r_mf sd V) : ¬ zI V 0 13 ≤ 0 ∧ ¬ zI V 0 13 = 0 := by
  obtain ⟨⟨f, hf, e⟩, -⟩ := h
  rw [e]
  rcases hf with rfl | rfl <;> decide
theorem m_fail_x (h : r_mf sd V) (x : Int32) : fX12_fail F V x = some V := by
  unfold fX12_fail
  rw [if_neg (r_mf_ne h).1]
theorem m_is_x (h : r_mf sd V) (x : Int32) : fX12_is F V x = some 0 := by
  unfold fX12_is
  rw [if_neg (r_mf_ne h).2]
theorem m_next_x : r_xg sd (fX12_next F) := by
  intro V h
  obtain ⟨-, ⟨i, hi, e⟩, -⟩ := id h
  unfold fX12_next
  by_cases q : i = 1000
  · subst q
    rw [e, if_pos (show nI 1000 = (1000 : Int32) from rfl), m_fail_x h, y_bd]
    exact ⟨V, rfl, r_mx_self h⟩
  · rw [e, if_neg (show ¬ nI i = (1000 : Int32) from fun z => q ((nI_eq (b := 1000) (by omega) (by decide)).mp z)), y_let, nI_1]
    exact ⟨_, rfl, r_fx_I r_fx_refl (by decide), rfl, rfl, i + 1, by omega, rfl⟩
theorem m_must_x (x : Int32) : r_xg sd (fun V => fX12_must F V x) := by
  intro V h
  dsimp only
  unfold fX12_must
  rw [m_is_x h, y_bd, if_pos rfl, m_fail_x h, y_bd]
  exact ⟨V, rfl, r_mx_self h⟩
theorem m_nn_x (x : Int32) (h : r_mf sd V) : ∃ V', fX12_namedNext F V x = some (0, V') ∧ r_mx sd V V' := by
  obtain ⟨V', a1, a2⟩ := m_must_x (F := F) (1 : Int32) V h
  have a1 : fX12_must F V 1 = some V' := a1
  unfold fX12_namedNext
  rw [a1, y_bd, if_neg (r_mf_ne (r_mx_mf h a2)).1]
  exact ⟨V', rfl, a2⟩
/-! in a state without a fault -/
variable {i : Nat} {l : List r_E} {P : Nat → Nat → Prop}
theorem r_rk_eq {a c : Nat} (ha : a ≤ 42) (hc : c ≤ 42) : nI (r_rk a) = nI (r_rk c) ↔ a = c := by
  have h1 := r_rk_le ⟨a, by omega⟩
  have h2 := r_rk_le ⟨c, by omega⟩
  dsimp only at h1 h2
  rw [nI_eq (by omega) (by omega)]
  exact ⟨fun h => by have := r_rk_inj ⟨a, by omega⟩ ⟨c, by omega⟩ h; exact Fin.mk.inj this, fun h => by rw [h]⟩
theorem m_kt (h : r_ms b L M sd i l P V) : zA V 3 i = nI (r_rk (r_tK b L i)) := (h.1.1.2 i (r_ms_lt h).1).1
theorem m_is (h : r_ms b L M sd i l P V) {k : Nat} (hk : k ≤ 42) {x : Int32} (hx : x = nI (r_rk k)) : fX12_is F V x = some (if r_tK b L i = k then 1 else 0) := by
  have lt := r_ms_lt h
  have kt := m_kt h
  obtain ⟨-, ⟨h11, h13, -⟩, -⟩ := h
  unfold fX12_is
  rw [if_pos h13, h11, y_ck (by omega) (by decide), nI_clamp (by omega), kt, hx]
  by_cases q : r_tK b L i = k
  · rw [if_pos (by rw [q]), if_pos q]
  · rw [if_neg (fun z => q ((r_rk_eq (r_tK_le i) hk).mp z)), if_neg q]
theorem m_fail (h : r_ms b L M sd i l P V) {f : Nat} : fX12_fail F V (nI f) = some (zsI (zsI V 0 13 (nI f)) 0 14 (nI (r_tS b L i))) := by
  have lt := r_ms_lt h
  have e4 := (h.1.1.2 i lt.1).2.1
  obtain ⟨-, ⟨h11, h13, -⟩, -⟩ := h
  have g1 : ∀ x, zI (zsI V 0 13 x) 0 11 = nI i := fun _ => h11
  have g2 : ∀ x, zA (zsI V 0 13 x) 4 = zA V 4 := fun _ => rfl
  unfold fX12_fail
  rw [if_pos (show zI V 0 13 ≤ 0 by rw [h13]; decide)]
  simp only [y_let, g1, g2, y_ck (show i < 1003 by omega) (show 1003 < 2 ^ 31 by decide), nI_clamp (show i < 2 ^ 31 by omega), e4]
theorem m_fail_me (h : r_ms b L M sd i l P V) {f : Nat} (hf : f = 1 ∨ f = 2) : r_me b L sd f i V (zsI (zsI V 0 13 (nI f)) 0 14 (nI (r_tS b L i))) :=
  ⟨hf, r_fx_I (r_fx_I r_fx_refl (by decide)) (by decide), rfl, rfl, i, (r_ms_lt h).2.1, h.2.1.1⟩
theorem m_next (h : r_ms b L M sd i l P V) (h1 : ¬ r_tK b L i = 41) (h2 : ¬ r_tK b L i = 42) : match r_pass i with
    | .error (f, j) => ∃ V', fX12_next F V = some V' ∧ r_me b L sd f j V V'
    | .ok j => fX12_next F V = some (zsI V 0 11 (nI j)) ∧ r_ms b L M sd j l P (zsI V 0 11 (nI j)) ∧ r_fx sd V (zsI V 0 11 (nI j)) := by
  have lt := r_ms_lt h
  unfold r_pass fX12_next
  rw [h.2.1.1]
  by_cases q : i < 1000
  · rw [if_pos q, if_neg (show ¬ nI i = (1000 : Int32) from fun z => by have := (nI_eq (b := 1000) (by omega) (by decide)).mp z; omega), y_let, nI_1]
    have f : r_fx sd V (zsI V 0 11 (nI (i + 1))) := r_fx_I r_fx_refl (by decide)
    exact ⟨rfl, r_ms_eq h f rfl h.2.1.2.1 (r_in_pass h.2.1.2.2 h1 h2 q) rfl rfl rfl rfl rfl rfl, f⟩
  · have e : i = 1000 := by omega
    rw [if_neg q, if_pos (show nI i = (1000 : Int32) by rw [e]; rfl), show (2 : Int32) = nI 2 from rfl, m_fail h, y_bd]
    exact ⟨_, rfl, m_fail_me h (Or.inr rfl)⟩
theorem m_must (h : r_ms b L M sd i l P V) {k : Nat} (hk : k ≤ 40) {x : Int32} (hx : x = nI (r_rk k)) : match r_need (r_tK b L) k i with
    | .error (f, j) => ∃ V', fX12_must F V x = some V' ∧ r_me b L sd f j V V'
    | .ok j => fX12_must F V x = some (zsI V 0 11 (nI j)) ∧ r_ms b L M sd j l P (zsI V 0 11 (nI j)) ∧ r_fx sd V (zsI V 0 11 (nI j)) := by
  unfold r_need fX12_must
  rw [m_is h (by omega) hx, y_bd]
  by_cases q : r_tK b L i = k
  · rw [if_pos q, if_pos q, if_neg (by decide)]
    have hn := m_next (F := F) h (by omega) (by omega)
    cases hp : r_pass i with
    | error e =>
      rw [hp] at hn
      obtain ⟨V', a1, a2⟩ := hn
      exact ⟨V', by rw [a1, y_bd], a2⟩
    | ok j =>
      rw [hp] at hn
      exact ⟨by rw [hn.1, y_bd], hn.2⟩
  · rw [if_neg q, if_neg q, if_pos rfl, show (1 : Int32) = nI 1 from rfl, m_fail h, y_bd]
    exact ⟨_, rfl, m_fail_me h (Or.inl rfl)⟩
end
