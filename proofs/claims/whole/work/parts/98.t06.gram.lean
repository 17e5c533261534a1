/-! ===== the grammar: K = the kinds of tokens; where a text goes on, or its fault (SYNTAX 1, ROOM 2) and the token ===== -/
abbrev r_r : Type := Except (Nat × Nat) Nat
def r_b (x : r_r) (f : Nat → r_r) : r_r := match x with
  | .error e => .error e
  | .ok i => f i
/-- how many tokens of a kind there are ahead of i -/
def r_cn (K : Nat → Nat) (w : Nat) : Nat → Nat
  | 0 => 0
  | i + 1 => r_cn K w i + (if K i = w then 1 else 0)
def r_pass (i : Nat) : r_r := if i < 1000 then .ok (i + 1) else .error (2, i)
def r_need (K : Nat → Nat) (k i : Nat) : r_r := if K i = k then r_pass i else .error (1, i)
def r_newo (K : Nat → Nat) (w m i : Nat) : r_r := if r_cn K w i < m then r_pass i else .error (2, i)
def r_room (w : Nat) : Nat := if w = 0 then 16 else if w = 1 then 8 else if w = 2 then 8 else if w = 3 then 16 else if w = 4 then 8 else if w = 5 then 24 else if w = 6 then 16 else 12
def r_part (K : Nat → Nat) (i : Nat) : r_r :=
  r_b (r_newo K (K i) (r_room (K i)) i) fun j => r_b (r_need K 27 j) fun j =>
    if K i = 0 ∨ K i = 1 ∨ K i = 6 then r_b (r_need K 28 j) (r_need K 29)
    else if K i = 2 ∨ K i = 3 then r_b (r_need K 27 j) (r_need K 29)
    else if K i = 5 then r_b (r_need K 27 j) fun j => if K j = 8 then r_b (r_pass j) fun j => r_b (r_need K 27 j) (r_need K 29) else r_need K 29 j
    else r_need K 29 j
def r_mhead (K : Nat → Nat) (i : Nat) : r_r :=
  r_b (r_newo K 7 12 i) fun j => r_b (r_need K 27 j) fun j => r_b (r_need K 28 j) fun j => if K j = 9 then r_b (r_pass j) fun j => r_b (r_need K 28 j) (r_need K 29) else r_need K 29 j
/-- an E: o open brackets, w: a unit is wanted, m: ahead of it may be a minus -/
def r_sum (K : Nat → Nat) : Nat → Nat → Bool → Bool → Nat → r_r
  | 0, _, _, _, i => .ok i
  | n + 1, o, w, m, i =>
    if w = true then
      (if K i = 32 then (if o < 6 then r_b (r_pass i) (r_sum K n (o + 1) true true) else .error (2, i))
       else if K i = 35 ∧ m = true then r_b (r_pass i) (r_sum K n o true false)
       else if K i = 28 ∨ K i = 27 ∨ K i = 25 ∨ K i = 26 then r_b (r_pass i) (r_sum K n o false m)
       else .error (1, i))
    else if K i = 34 ∨ K i = 35 ∨ K i = 36 then r_b (r_pass i) (r_sum K n o true false)
    else if 0 < o then (if K i = 33 then r_b (r_pass i) (r_sum K n (o - 1) false m) else .error (1, i))
    else .ok i
def r_exp (K : Nat → Nat) (i : Nat) : r_r := r_sum K 1001 0 true true i
def r_rel (K : Nat → Nat) (i : Nat) : r_r := r_b (r_exp K i) fun j => if 37 ≤ K j ∧ K j ≤ 40 then r_b (r_pass j) (r_exp K) else .error (1, j)
def r_cnd (K : Nat → Nat) : Nat → Nat → r_r
  | 0, i => .ok i
  | n + 1, i => r_b (r_rel K i) fun j => if K j = 15 then r_b (r_pass j) (r_cnd K n) else .ok j
def r_act (K : Nat → Nat) (i : Nat) : r_r :=
  if 16 ≤ K i ∧ K i ≤ 24 then r_b (r_pass i) fun j =>
    r_b (if K i = 17 ∨ K i = 18 ∨ K i = 20 then r_need K 27 j else .ok j) fun j => if K i = 16 ∨ K i = 17 then r_exp K j else .ok j
  else .error (1, i)
/-- further ACTS behind so many -/
def r_actsS (K : Nat → Nat) : Nat → Nat → Nat → r_r
  | 0, _, i => .ok i
  | n + 1, d, i => if K i = 31 then r_b (r_pass i) fun j => if d = 12 then (if 16 ≤ K j ∧ K j ≤ 24 then .error (2, j) else .error (1, j)) else r_b (r_act K j) (r_actsS K n (d + 1)) else r_need K 29 i
def r_rule (K : Nat → Nat) (i : Nat) : r_r :=
  r_b (r_newo K 11 80 i) fun j => r_b (if K j = 12 ∨ K j = 13 then r_pass j else r_need K 27 j) fun j =>
    r_b (if K j = 14 then r_b (r_pass j) (r_cnd K 1001) else .ok j) fun j => r_b (r_need K 30 j) fun j => r_b (r_act K j) (r_actsS K 13 1)
def r_rules (K : Nat → Nat) : Nat → Nat → r_r
  | 0, i => .ok i
  | n + 1, i => if K i = 11 then r_b (r_rule K i) (r_rules K n) else .ok i
def r_mode (K : Nat → Nat) (i : Nat) : r_r := r_b (r_mhead K i) fun j => r_b (r_rules K 1001 j) (r_need K 10)
def r_modes (K : Nat → Nat) : Nat → Nat → r_r
  | 0, i => .ok i
  | n + 1, i => if K i = 7 then r_b (r_mode K i) (r_modes K n) else if K i = 41 then .ok i else .error (1, i)
def r_parts (K : Nat → Nat) : Nat → Nat → r_r
  | 0, i => .ok i
  | n + 1, i => if K i ≤ 6 then r_b (r_part K i) (r_parts K n) else .ok i
def r_gram (K : Nat → Nat) : r_r := r_b (r_parts K 1001 0) (r_modes K 1001)
theorem r_b_ok {x : r_r} {f : Nat → r_r} {j : Nat} (h : r_b x f = .ok j) : ∃ i, x = .ok i ∧ f i = .ok j := by
  cases x with
  | error e => cases h
  | ok i => exact ⟨i, rfl, h⟩
theorem r_pass_ok {i j : Nat} (h : r_pass i = .ok j) : j = i + 1 ∧ i < 1000 := by
  unfold r_pass at h
  split at h
  · cases h; exact ⟨rfl, by assumption⟩
  · cases h
theorem r_need_ok {K : Nat → Nat} {k i j : Nat} (h : r_need K k i = .ok j) : K i = k ∧ j = i + 1 ∧ i < 1000 := by
  unfold r_need at h
  split at h
  · exact ⟨by assumption, r_pass_ok h⟩
  · cases h
theorem r_newo_ok {K : Nat → Nat} {w m i j : Nat} (h : r_newo K w m i = .ok j) : r_cn K w i < m ∧ j = i + 1 ∧ i < 1000 := by
  unfold r_newo at h
  split at h
  · exact ⟨by assumption, r_pass_ok h⟩
  · cases h
/-- a place that can be reached -/
def r_in (K : Nat → Nat) (i : Nat) : Prop := i ≤ 1000 ∧ ∀ j, j < i → ¬ K j = 41 ∧ ¬ K j = 42
theorem r_in_pass {K : Nat → Nat} {i : Nat} (h : r_in K i) (h1 : ¬ K i = 41) (h2 : ¬ K i = 42) (h3 : i < 1000) : r_in K (i + 1) := by
  refine ⟨by omega, fun j hj => ?_⟩
  by_cases q : j = i
  · subst q; exact ⟨h1, h2⟩
  · exact h.2 j (by omega)
/-! ===== the class's grammar ===== -/
/-- kinds that the class counts -/
def r_trk (w : Nat) : Prop := w ≤ 7 ∨ w = 11
section
variable {F : Nat} {b : Nat → Nat} {L N : Nat} {V1 V2 : zV}
def r_ca (b : Nat → Nat) (L N i : Nat) (V1 V2 : zV) : Prop := r_tn b L N ∧ r_ct b L N V1 ∧ zI V1 0 5 = 0 ∧ zI V2 0 1 = nI i ∧ r_in (r_tK b L) i ∧ ∀ w, r_trk w → zA V2 1 w = nI (r_cn (r_tK b L) w i)
def r_cx (V2 V2' : zV) : Prop := (∃ i, i ≤ 1000 ∧ zI V2' 0 1 = nI i) ∧ r_fq [(0, 1)] [1] [] V2 V2'
def r_blm (b : Nat → Nat) (L f j : Nat) (V1 : zV) : zV := zsI (zsI V1 0 5 (nI f)) 0 6 (nI (r_tS b L j))
def r_co (b : Nat → Nat) (L N : Nat) (V1 V2 : zV) (r : r_r) (V1' V2' : zV) : Prop := match r with
  | .ok i => V1' = V1 ∧ r_ca b L N i V1 V2' ∧ r_fq [(0, 1)] [1] [] V2 V2'
  | .error (f, j) => V1' = r_blm b L f j V1 ∧ (f = 1 ∨ f = 2) ∧ r_in (r_tK b L) j ∧ r_cx V2 V2'
/-- a piece of the class's grammar does as told -/
def r_cg (b : Nat → Nat) (L N : Nat) (P : Nat → Prop) (g : zV → zV → Option (zV × zV)) (s : Nat → r_r) : Prop :=
  (∀ i V1 V2, P i → r_ca b L N i V1 V2 → ∃ V1' V2', g V1 V2 = some (V1', V2') ∧ r_co b L N V1 V2 (s i) V1' V2') ∧
  (∀ V1 V2, ¬ zI V1 0 5 = 0 → r_cx V2 V2 → ∃ V2', g V1 V2 = some (V1, V2') ∧ r_cx V2 V2')
theorem r_cx_trans {V2' V2'' : zV} (h : r_cx V2 V2') (g : r_cx V2' V2'') : r_cx V2 V2'' := ⟨g.1, r_fq_trans h.2 g.2⟩
theorem r_cx_self {V2' : zV} (h : r_cx V2 V2') : r_cx V2' V2' := ⟨h.1, r_fq_refl⟩
theorem r_blm_5 {f j : Nat} (hf : f = 1 ∨ f = 2) : ¬ zI (r_blm b L f j V1) 0 5 = 0 := by
  have : zI (r_blm b L f j V1) 0 5 = nI f := rfl
  rw [this]
  rcases hf with rfl | rfl <;> decide
theorem r_cg_seq {P : Nat → Prop} {g1 g2 : zV → zV → Option (zV × zV)} {s1 s2 : Nat → r_r} (h1 : r_cg b L N P g1 s1) (h2 : r_cg b L N (fun _ => True) g2 s2) : r_cg b L N P (fun V1 V2 => zbd (g1 V1 V2) fun q => g2 q.1 q.2) (fun i => r_b (s1 i) s2) := by
  refine ⟨fun i V1 V2 hP h => ?_, fun V1 V2 h5 hx => ?_⟩
  · obtain ⟨V1', V2', a1, a2⟩ := h1.1 i V1 V2 hP h
    dsimp only
    rw [a1, y_bd]
    cases hs : s1 i with
    | ok j =>
      rw [hs] at a2
      obtain ⟨rfl, c1, c2⟩ := a2
      obtain ⟨V1'', V2'', d1, d2⟩ := h2.1 j V1' V2' trivial c1
      refine ⟨V1'', V2'', d1, ?_⟩
      show r_co b L N V1' V2 (s2 j) V1'' V2''
      cases hs2 : s2 j with
      | ok j2 =>
        rw [hs2] at d2
        exact ⟨d2.1, d2.2.1, r_fq_trans c2 d2.2.2⟩
      | error e =>
        rw [hs2] at d2
        exact ⟨d2.1, d2.2.1, d2.2.2.1, d2.2.2.2.1, r_fq_trans c2 d2.2.2.2.2⟩
    | error e =>
      rw [hs] at a2
      obtain ⟨rfl, hf, hi, hx⟩ := a2
      obtain ⟨V2'', d1, d2⟩ := h2.2 _ V2' (r_blm_5 hf) (r_cx_self hx)
      exact ⟨_, V2'', d1, rfl, hf, hi, r_cx_trans hx d2⟩
  · obtain ⟨V2', a1, a2⟩ := h1.2 V1 V2 h5 hx
    dsimp only
    rw [a1, y_bd]
    obtain ⟨V2'', d1, d2⟩ := h2.2 V1 V2' h5 (r_cx_self a2)
    exact ⟨V2'', d1, r_cx_trans a2 d2⟩
theorem r_cg_some {P : Nat → Prop} {g : zV → zV → Option (zV × zV)} {s : Nat → r_r} (h : r_cg b L N P g s) : r_cg b L N P (fun V1 V2 => zbd (g V1 V2) fun q => some (q.1, q.2)) s := by
  refine ⟨fun i V1 V2 hP h' => ?_, fun V1 V2 h5 hx => ?_⟩
  · obtain ⟨V1', V2', a1, a2⟩ := h.1 i V1 V2 hP h'
    exact ⟨V1', V2', by dsimp only; rw [a1, y_bd], a2⟩
  · obtain ⟨V2', a1, a2⟩ := h.2 V1 V2 h5 hx
    exact ⟨V2', by dsimp only; rw [a1, y_bd], a2⟩
theorem r_cg_ok {P : Nat → Prop} : r_cg b L N P (fun V1 V2 => some (V1, V2)) .ok :=
  ⟨fun i V1 V2 _ h => ⟨V1, V2, rfl, rfl, h, r_fq_refl⟩, fun V1 V2 _ hx => ⟨V2, rfl, hx⟩⟩
theorem r_cg_P {P Q : Nat → Prop} {g : zV → zV → Option (zV × zV)} {s : Nat → r_r} (h : r_cg b L N P g s) (hP : ∀ i, Q i → P i) : r_cg b L N Q g s := ⟨fun i V1 V2 hQ => h.1 i V1 V2 (hP i hQ), h.2⟩
theorem r_cg_s {P : Nat → Prop} {g : zV → zV → Option (zV × zV)} {s s' : Nat → r_r} (h : r_cg b L N P g s) (hs : ∀ i, P i → s i = s' i) : r_cg b L N P g s' := ⟨fun i V1 V2 hP h' => by rw [← hs i hP]; exact h.1 i V1 V2 hP h', h.2⟩
theorem r_cg_or {P Q : Nat → Prop} {g : zV → zV → Option (zV × zV)} {s : Nat → r_r} (h : r_cg b L N P g s) (h2 : r_cg b L N Q g s) : r_cg b L N (fun i => P i ∨ Q i) g s := ⟨fun i V1 V2 hP h' => hP.elim (fun z => h.1 i V1 V2 z h') (fun z => h2.1 i V1 V2 z h'), h.2⟩
theorem r_ca_lt {i : Nat} (h : r_ca b L N i V1 V2) : i < N ∧ N ≤ 1002 := by
  obtain ⟨⟨t1, t2, t3, t4⟩, -, -, -, hi, -⟩ := h
  refine ⟨?_, t2⟩
  by_cases q : i < N
  · exact q
  · have := hi.2 (N - 1) (by omega)
    rcases t4 with t4 | t4 | t4
    · have := hi.1; omega
    · exact absurd t4 this.1
    · exact absurd t4 this.2
theorem c_kat {i : Nat} (h : r_ca b L N i V1 V2) : fX10_kindAt F V1 (zI V2 0 1) = some (nI (r_tK b L i)) := by
  have hl := r_ca_lt h
  obtain ⟨-, hc, -, h1, hi, -⟩ := h
  unfold fX10_kindAt
  rw [h1, hc.1, if_neg (nI_pos (by omega)), if_neg (nI_ge hl.1 (by omega)), y_ck (by omega) (by decide), nI_clamp (by omega), (hc.2 i hl.1).1]
theorem c_kat_x (hx : r_cx V2 V2) : ∃ q, fX10_kindAt F V1 (zI V2 0 1) = some q := by
  obtain ⟨⟨i, hi, e⟩, -⟩ := hx
  unfold fX10_kindAt
  rw [e, if_neg (nI_pos (by omega))]
  split
  · exact ⟨_, rfl⟩
  · rw [y_ck (by omega) (by decide)]; exact ⟨_, rfl⟩
theorem r_tK_le (k : Nat) : r_tK b L k ≤ 42 := r_kd_le _ _ _
theorem c_blame {f : Nat} {i : Nat} (h : r_ca b L N i V1 V2) : fX10_blame F V1 (nI f) (zI V2 0 1) = some (r_blm b L f i V1) := by
  have hl := r_ca_lt h
  obtain ⟨-, hc, h5, h1, hi, -⟩ := h
  have g : ∀ x, zA (zsI V1 0 5 x) 3 i = nI (r_tS b L i) := fun _ => (hc.2 i hl.1).2.1
  unfold fX10_blame
  rw [if_pos h5, h1, hc.1, if_neg (nI_pos (by omega)), if_neg (nI_ge hl.1 (by omega)), y_let, y_ck (by omega) (by decide), y_let, nI_clamp (by omega), g]; rfl
theorem c_blame_x {f x : Int32} (h5 : ¬ zI V1 0 5 = 0) : fX10_blame F V1 f x = some V1 := by
  unfold fX10_blame
  rw [if_neg h5]
theorem r_cg_err {P : Nat → Prop} {f : Nat} (hf : f = 1 ∨ f = 2) : r_cg b L N P (fun V1 V2 => zbd (fX10_blame F V1 (nI f) (zI V2 0 1)) fun q => some (q, V2)) (fun i => .error (f, i)) := by
  refine ⟨fun i V1 V2 _ h => ?_, fun V1 V2 h5 hx => ?_⟩
  · dsimp only
    rw [c_blame h, y_bd]
    exact ⟨_, _, rfl, rfl, hf, h.2.2.2.2.1, ⟨i, h.2.2.2.2.1.1, h.2.2.2.1⟩, r_fq_refl⟩
  · dsimp only
    rw [c_blame_x h5, y_bd]
    exact ⟨V2, rfl, hx⟩
/-- a fault, and what is done behind it -/
theorem r_cg_errk {P : Nat → Prop} {f : Nat} {g : zV → zV → Option (zV × zV)} {s : Nat → r_r} (hf : f = 1 ∨ f = 2) (hg : ∀ V1 V2, ¬ zI V1 0 5 = 0 → r_cx V2 V2 → ∃ V2', g V1 V2 = some (V1, V2') ∧ r_cx V2 V2') (hs : ∀ i, P i → s i = .error (f, i)) : r_cg b L N P (fun V1 V2 => zbd (fX10_blame F V1 (nI f) (zI V2 0 1)) fun q => g q V2) s := by
  refine ⟨fun i V1 V2 hP h => ?_, fun V1 V2 h5 hx => ?_⟩
  · dsimp only
    rw [c_blame h, y_bd, hs i hP]
    obtain ⟨V2', a1, a2⟩ := hg (r_blm b L f i V1) V2 (r_blm_5 hf) ⟨⟨i, h.2.2.2.2.1.1, h.2.2.2.1⟩, r_fq_refl⟩
    exact ⟨_, V2', a1, rfl, hf, h.2.2.2.2.1, a2⟩
  · dsimp only
    rw [c_blame_x h5, y_bd]
    exact hg V1 V2 h5 hx
/-- a look at the kind -/
theorem r_cg_kind {P : Nat → Prop} {g : Int32 → zV → zV → Option (zV × zV)} {s : Nat → r_r} (h : ∀ k, k ≤ 42 → r_cg b L N (fun i => P i ∧ r_tK b L i = k) (g (nI k)) s) (hx : ∀ x V1 V2, ¬ zI V1 0 5 = 0 → r_cx V2 V2 → ∃ V2', g x V1 V2 = some (V1, V2') ∧ r_cx V2 V2') : r_cg b L N P (fun V1 V2 => zbd (fX10_kindAt F V1 (zI V2 0 1)) fun q => g q V1 V2) s := by
  refine ⟨fun i V1 V2 hP h' => ?_, fun V1 V2 h5 hx' => ?_⟩
  · dsimp only
    rw [c_kat h', y_bd]
    exact (h _ (r_tK_le i)).1 i V1 V2 ⟨hP, rfl⟩ h'
  · dsimp only
    obtain ⟨q, e⟩ := c_kat_x (F := F) (V1 := V1) hx'
    rw [e, y_bd]
    exact hx q V1 V2 h5 hx'
theorem r_cg_sees {P : Nat → Prop} {k : Nat} (hk : k ≤ 42) {g1 g2 : zV → zV → Option (zV × zV)} {s : Nat → r_r} (h1 : r_cg b L N (fun i => P i ∧ r_tK b L i = k) g1 s) (h2 : r_cg b L N (fun i => P i ∧ ¬ r_tK b L i = k) g2 s) : r_cg b L N P (fun V1 V2 => zbd (fX2_sees F V1 V2 (nI k)) fun q => if q = 0 then g2 V1 V2 else g1 V1 V2) s := by
  refine ⟨fun i V1 V2 hP h' => ?_, fun V1 V2 h5 hx' => ?_⟩
  · dsimp only
    unfold fX2_sees
    rw [if_pos h'.2.2.1, c_kat h', y_bd]
    have kle := r_tK_le (b := b) (L := L) i
    by_cases q : r_tK b L i = k
    · rw [if_pos (by rw [q]), y_bd, if_neg (by decide)]
      exact h1.1 i V1 V2 ⟨hP, q⟩ h'
    · rw [if_neg (fun z => q ((nI_eq (by omega) (by omega)).mp z)), y_bd, if_pos rfl]
      exact h2.1 i V1 V2 ⟨hP, q⟩ h'
  · dsimp only
    unfold fX2_sees
    rw [if_neg h5, y_bd, if_pos rfl]
    exact h2.2 V1 V2 h5 hx'
theorem r_cn_same {K : Nat → Nat} {w i : Nat} (h : ¬ K i = w) : r_cn K w (i + 1) = r_cn K w i := by rw [r_cn, if_neg h]; rfl
theorem r_cn_succ {K : Nat → Nat} {w i : Nat} (h : K i = w) : r_cn K w (i + 1) = r_cn K w i + 1 := by rw [r_cn, if_pos h]
theorem r_cn_le {K : Nat → Nat} {w : Nat} : ∀ i, r_cn K w i ≤ i := by
  intro i
  induction i with
  | zero => exact Nat.le_refl _
  | succ i ih => rw [r_cn]; split <;> omega
theorem r_cg_pass : r_cg b L N (fun i => ¬ r_trk (r_tK b L i) ∧ ¬ r_tK b L i = 41 ∧ ¬ r_tK b L i = 42) (fX2_pass F) r_pass := by
  refine ⟨fun i V1 V2 hP h => ?_, fun V1 V2 h5 hx => ?_⟩
  · have h' := h
    obtain ⟨t, hc, h5, h1, hi, hn⟩ := h'
    have hi1 := hi.1
    unfold fX2_pass r_pass
    by_cases q : i < 1000
    · rw [h1, if_pos (show nI i < (1000 : Int32) from nI_lt (b := 1000) q (by decide)), y_let, nI_1, if_pos q]
      refine ⟨_, _, rfl, rfl, ⟨t, hc, h5, rfl, r_in_pass hi hP.2.1 hP.2.2 q, fun w hw => ?_⟩, r_fq_I r_fq_refl (by decide)⟩
      have : zA (zsI V2 0 1 (nI (i + 1))) 1 w = zA V2 1 w := rfl
      rw [this, hn w hw, r_cn_same (fun z => hP.1 (by rw [z]; exact hw))]
    · rw [if_neg (show ¬ zI V2 0 1 < (1000 : Int32) by rw [h1]; exact nI_nlt (b := 1000) (by omega) (by omega)), show (2 : Int32) = nI 2 from rfl, c_blame h, y_bd, if_neg q]
      exact ⟨_, _, rfl, rfl, Or.inr rfl, hi, ⟨i, hi1, h1⟩, r_fq_refl⟩
  · obtain ⟨⟨i, hi, e⟩, -⟩ := hx
    unfold fX2_pass
    by_cases q : i < 1000
    · rw [e, if_pos (show nI i < (1000 : Int32) from nI_lt (b := 1000) q (by decide)), y_let, nI_1]
      exact ⟨_, rfl, ⟨i + 1, by omega, rfl⟩, r_fq_I r_fq_refl (by decide)⟩
    · rw [if_neg (by rw [e]; exact nI_nlt (b := 1000) (by omega) (by omega)), c_blame_x h5, y_bd]
      exact ⟨V2, rfl, ⟨i, hi, e⟩, r_fq_refl⟩
theorem r_cg_need {k : Nat} (hk : k ≤ 42) (h1 : ¬ r_trk k) (h2 : ¬ k = 41) (h3 : ¬ k = 42) : r_cg b L N (fun _ => True) (fun V1 V2 => fX2_need F V1 V2 (nI k)) (r_need (r_tK b L) k) := by
  have e : (fun V1 V2 => fX2_need F V1 V2 (nI k)) = fun V1 V2 => zbd (fX2_sees F V1 V2 (nI k)) fun q => if q = 0 then zbd (fX10_blame F V1 (1 : Int32) (zI V2 0 1)) (fun q4 => some (q4, V2)) else zbd (fX2_pass F V1 V2) (fun q6 => some (q6.1, q6.2)) := rfl
  rw [e]
  refine r_cg_sees hk (r_cg_s (r_cg_P (r_cg_some r_cg_pass) fun i hi => by rw [hi.2]; exact ⟨h1, h2, h3⟩) fun i hi => ?_) (r_cg_s (r_cg_err (f := 1) (Or.inl rfl)) fun i hi => ?_)
  · unfold r_need; rw [if_pos hi.2]
  · unfold r_need; rw [if_neg hi.2]
end
