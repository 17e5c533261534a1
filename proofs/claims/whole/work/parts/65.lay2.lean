/-! ===== layouts in the class: whole moves ===== -/
section
variable {F : Nat} {T : zV}
theorem c_mvA {P p j a b : Nat} (hP : P ≤ 8) (hp : p ≤ 3) (hj : j < 2 ^ 31) (ha : a ≤ 8) (hb : b ≤ 8) {B : List Nat} (hB : ∀ c ∈ B, c < 729 ∧ ∀ d, y_mv c a b = some d → y_gd P p d) :
    ∀ (l pre : List Nat) (n : Nat) (A : List Nat) (V : zV), B = pre ++ l → l.length + 1 ≤ n → y_lp P p j A B V →
    ∃ V', fX3_moveAll_l2 F n V (nI a) (nI b) (nI pre.length) = some V' ∧ y_lp P p j (y_mvA l A a b) B V' ∧ y_fr [(14, 5)] y_la V V' := by
  intro l
  induction l with
  | nil =>
    intro pre n A V e hn h
    obtain ⟨n, rfl⟩ : ∃ n', n = n' + 1 := ⟨n - 1, by omega⟩
    have hl := h.2.1.1
    rw [List.append_nil] at e
    subst e
    refine ⟨V, ?_, h, y_fr_refl⟩
    rw [fX3_moveAll_l2, h.2.1.2.1, if_pos (nI_le (Nat.le_refl _) (by omega))]
  | cons c l ih =>
    intro pre n A V e hn h
    obtain ⟨n, rfl⟩ : ∃ n', n = n' + 1 := ⟨n - 1, by omega⟩
    have hl := h.2.1.1
    have hlen : B.length = pre.length + (l.length + 1) := by rw [e, List.length_append]; rfl
    have hc : B[pre.length]? = some c := by rw [e, List.getElem?_append_right (Nat.le_refl _), Nat.sub_self]; rfl
    have hBc := hB c (List.mem_of_getElem? hc)
    have hpn := y_pN h.1
    rw [fX3_moveAll_l2, h.2.1.2.1, if_neg (nI_ge (by omega) (by omega)), zchk_t hpn.2.2.2.2.2.2, hpn.2.1, if_neg (nI_ge (by omega) (by decide)), zchk_t hpn.2.2.2.2.2.2, y_ck (by omega) (by decide), nI_clamp (by omega), h.2.1.2.2 _ _ hc, c_mv hBc.1 ha hb, y_bd]
    obtain ⟨V1, e1, e2, e3⟩ := c_put (F := F) hP hp hj h (c := y_mv c a b) hBc.2
    rw [e1, y_bd, nI_1]
    obtain ⟨V2, g1, g2, g3⟩ := ih (pre ++ [c]) n (y_put A (y_mv c a b)) V1 (by rw [e, List.append_assoc]; rfl) (by simpa using hn) e2
    rw [List.length_append] at g1
    exact ⟨V2, g1, g2, y_fr_trans e3 g3⟩
theorem c_moveAll {P p j a b : Nat} (hF : 2000 ≤ F) (hP : P ≤ 8) (hp : p ≤ 3) (hj : j < 2 ^ 31) (ha : a ≤ 8) (hb : b ≤ 8) {B A : List Nat} {V : zV} (hB : ∀ c ∈ B, c < 729 ∧ ∀ d, y_mv c a b = some d → y_gd P p d) (h : y_lp P p j A B V) :
    ∃ V', fX3_moveAll F V (nI a) (nI b) = some V' ∧ y_lp P p j (y_mvA B A a b) B V' ∧ y_fr [(14, 5)] y_la V V' :=
  c_mvA hP hp hj ha hb hB B [] F A V rfl (by have := h.2.1.1; omega) h
/-- what the table says of ways and places -/
def y_ww (T : zV) : Prop := zA T 1 4 = nI (y_many T 4) ∧ y_many T 4 ≤ 8 ∧ zA T 1 5 = nI (y_many T 5) ∧ y_many T 5 ≤ 24 ∧
  ∀ w, w < y_many T 5 → ∃ f t, f < y_many T 4 ∧ t < y_many T 4 ∧ zA T 6 w = nI f ∧ zA T 7 w = nI t
theorem y_way_at (hw : y_ww T) {w : Nat} (h : w < y_many T 5) : (y_way T w).1 ≤ y_many T 4 ∧ (y_way T w).2 ≤ y_many T 4 ∧ 1 ≤ (y_way T w).1 ∧ 1 ≤ (y_way T w).2 ∧ zA T 6 w + 1 = nI (y_way T w).1 ∧ zA T 7 w + 1 = nI (y_way T w).2 := by
  obtain ⟨f, t, hf, ht, e1, e2⟩ := hw.2.2.2.2 w h
  have := hw.2.1
  unfold y_way
  rw [e1, e2, nI_clamp (by omega), nI_clamp (by omega), nI_1, nI_1]
  exact ⟨by dsimp only; omega, by dsimp only; omega, by dsimp only; omega, by dsimp only; omega, rfl, rfl⟩
theorem y_ge1 {P p c a b d : Nat} (hP : P ≤ 8) (hc : y_gd P p c) (ha : 1 ≤ a) (hb : b ≤ P) (hb1 : 1 ≤ b) (h : y_mv c a b = some d) : y_gd P p d := by
  have := y_mv_gd hP hc hb h
  rw [show p + min b 1 - min a 1 = p by omega] at this
  exact this.1
theorem y_fold_ext (l : List Nat) (f : Nat → Option Nat) : ∀ (A : List Nat) (i c : Nat), A[i]? = some c → (l.foldl (fun L w => y_put L (f w)) A)[i]? = some c := by
  induction l with
  | nil => intro A i c h; exact h
  | cons w l ih =>
    intro A i c h
    refine ih _ i c ?_
    show (y_put A (f w))[i]? = some c
    cases f w with
    | none => exact h
    | some d =>
      by_cases q : d ∈ A
      · rw [y_put_old q]; exact h
      · rw [y_put_new q, List.getElem?_append_left (List.getElem?_eq_some_iff.mp h).1]; exact h
/-- silent ways from one known layout -/
theorem c_spr1 {p j : Nat} (hw : y_ww T) (hp : p ≤ 3) (hj : j < 2 ^ 31) {B : List Nat} {i c : Nat} {k2 : zV → zV → Int32 → Option zV} :
    ∀ (r w n : Nat) (A : List Nat) (V : zV), w + r = y_many T 5 → r + 1 ≤ n → A[i]? = some c → y_lp (y_many T 4) p j A B V →
    ∃ V', fX3_spread_l21 F k2 n T V (nI i) (nI w) = k2 T V' (nI (i + 1)) ∧ y_lp (y_many T 4) p j (((List.range' w r).filter fun w => zA T 8 w = -1).foldl (fun L w => y_put L (y_mv c (y_way T w).1 (y_way T w).2)) A) B V' ∧ y_fr [(14, 5)] y_la V V' := by
  intro r
  have hP := hw.2.1
  have hW := hw.2.2.2.1
  induction r with
  | zero =>
    intro w n A V e hn hc h
    obtain ⟨n, rfl⟩ : ∃ n', n = n' + 1 := ⟨n - 1, by omega⟩
    refine ⟨V, ?_, h, y_fr_refl⟩
    rw [fX3_spread_l21, show ((5 : Int32)).toNatClampNeg = 5 from rfl, hw.2.2.1, if_pos (nI_le (by omega) (by omega)), fX3_spread_b94, nI_1]
  | succ r ih =>
    intro w n A V e hn hc h
    obtain ⟨n, rfl⟩ : ∃ n', n = n' + 1 := ⟨n - 1, by omega⟩
    have hil : i < A.length := (List.getElem?_eq_some_iff.mp hc).1
    have hlen := y_gd_len hP hp h.2.2.1 h.2.2.2
    have hcg := h.2.2.2 c (List.mem_of_getElem? hc)
    have hpn := y_pN h.1
    obtain ⟨w1, w2, w3, w4, w5, w6⟩ := y_way_at hw (w := w) (by omega)
    rw [fX3_spread_l21, show ((5 : Int32)).toNatClampNeg = 5 from rfl, hw.2.2.1, if_neg (nI_ge (by omega) (by omega)), if_neg (show ¬ (24 : Int32) ≤ nI w from nI_ge (b := 24) (by omega) (by decide)), y_ck (by omega) (by decide), List.range'_succ, List.filter_cons]
    simp only [nI_clamp (show w < 2 ^ 31 by omega)]
    by_cases hs : zA T 8 w = -1
    · rw [if_pos hs, if_pos (show decide (zA T 8 w = -1) = true by simpa using hs), zchk_t hpn.2.2.2.2.2.1, hpn.1, y_ck (by omega) (by decide), y_ck (by omega) (by decide), y_ck (by omega) (by decide), nI_clamp (by omega), h.1.2.2.2.2.1 _ _ hc, w5, w6, c_mv hcg.1 (by omega) (by omega), y_bd]
      obtain ⟨V1, e1, e2, e3⟩ := c_put (F := F) hP hp hj h (c := y_mv c (y_way T w).1 (y_way T w).2) (fun d hd => y_ge1 hP hcg w3 w2 w4 hd)
      rw [e1, y_bd, fX3_spread_b88, nI_1]
      obtain ⟨V2, g1, g2, g3⟩ := ih (w + 1) n _ V1 (by omega) (by omega) (y_fold_ext [w] (fun w => y_mv c (y_way T w).1 (y_way T w).2) A i c hc) e2
      exact ⟨V2, g1, g2, y_fr_trans e3 g3⟩
    · rw [if_neg hs, if_neg (show ¬ decide (zA T 8 w = -1) = true by simpa using hs), fX3_spread_b88, nI_1]
      exact ih (w + 1) n A V (by omega) (by omega) hc h
theorem y_silent_eq : y_silent T = (List.range' 0 (y_many T 5)).filter fun w => zA T 8 w = -1 := by
  unfold y_silent
  rw [List.range_eq_range']
theorem c_sprl {p j : Nat} (hF : 2000 ≤ F) (hw : y_ww T) (hp : p ≤ 3) (hj : j < 2 ^ 31) {B : List Nat} :
    ∀ (m i n : Nat) (A : List Nat) (V : zV), m + i = 121 → m + 1 ≤ n → y_lp (y_many T 4) p j A B V →
    ∃ V', fX3_spread_l2 F n T V (nI i) = some V' ∧ y_lp (y_many T 4) p j (y_spr T m i A) B V' ∧ y_fr [(14, 5)] y_la V V' := by
  intro m
  have hP := hw.2.1
  induction m with
  | zero =>
    intro i n A V e hn h
    obtain ⟨n, rfl⟩ : ∃ n', n = n' + 1 := ⟨n - 1, by omega⟩
    have hlen := y_gd_len hP hp h.2.2.1 h.2.2.2
    refine ⟨V, ?_, h, y_fr_refl⟩
    rw [fX3_spread_l2, h.1.2.2.2.1, if_pos (nI_le (by omega) (by omega))]
  | succ m ih =>
    intro i n A V e hn h
    obtain ⟨n, rfl⟩ : ∃ n', n = n' + 1 := ⟨n - 1, by omega⟩
    have hlen := y_gd_len hP hp h.2.2.1 h.2.2.2
    have hpn := y_pN h.1
    rw [fX3_spread_l2, h.1.2.2.2.1, y_spr]
    cases hc : A[i]? with
    | none =>
      have := List.getElem?_eq_none_iff.mp hc
      refine ⟨V, ?_, h, y_fr_refl⟩
      rw [if_pos (nI_le (by omega) (by omega))]
    | some c =>
      have hil : i < A.length := (List.getElem?_eq_some_iff.mp hc).1
      rw [if_neg (nI_ge hil (by omega)), zchk_t hpn.2.2.2.2.2.1, hpn.1, if_neg (nI_ge (by omega) (by decide))]
      dsimp only
      rw [y_silent_eq]
      obtain ⟨V1, e1, e2, e3⟩ := c_spr1 (F := F) (k2 := fX3_spread_l2 F n) hw hp hj (y_many T 5) 0 F A V (by omega) (by have := hw.2.2.2.1; omega) hc h
      obtain ⟨V2, g1, g2, g3⟩ := ih (i + 1) n _ V1 (by omega) (by omega) e2
      exact ⟨V2, e1.trans g1, g2, y_fr_trans e3 g3⟩
theorem c_spread {p j : Nat} (hF : 2000 ≤ F) (hw : y_ww T) (hp : p ≤ 3) (hj : j < 2 ^ 31) {B A : List Nat} {V : zV} (h : y_lp (y_many T 4) p j A B V) :
    ∃ V', fX3_spread F T V = some V' ∧ y_lp (y_many T 4) p j (y_spr T 121 0 A) B V' ∧ y_fr [(14, 5)] y_la V V' := c_sprl hF hw hp hj 121 0 F A V (by omega) (by omega) h
def y_ls : List (Nat × Nat) := [(14, 4), (14, 5), (14, 6), (14, 1), (14, 2)]
/-- the same with nothing said of what the marks mean -/
def y_lz (w : Bool) (k : Nat) (A : List Nat) (V : zV) : Prop := y_PP V ∧ match w with
  | false => zN V 15 = 0 ∧ zN V 16 = 0 ∧ zN V 17 = 0
  | true => A.length ≤ 120 ∧ (zN V 15 = 120 ∧ zN V 16 = 120 ∧ zN V 17 = 729) ∧ zI V 14 4 = nI k ∧ zI V 14 5 = nI A.length ∧ (∀ i c, A[i]? = some c → zA V (zP V 14 1) i = nI c) ∧ ∀ c, c < 729 → ∃ i, i ≤ k ∧ zA V 17 c = nI i
theorem y_lz_of {P p j : Nat} (hP : P ≤ 8) (hp : p ≤ 3) {A : List Nat} {V : zV} (h : y_ly j A V) (hn : A.Nodup) (hg : ∀ c ∈ A, y_gd P p c) : y_lz true j A V := by
  obtain ⟨hpp, hnn, h4, h5, hk, hm⟩ := h
  exact ⟨hpp, y_gd_len hP hp hn hg, hnn, h4, h5, hk, fun c hc => by obtain ⟨i, a, b, -⟩ := hm c hc; exact ⟨i, a, b⟩⟩
theorem c_turn {P j : Nat} {A : List Nat} {V : zV} (hj : j + 1 < 2 ^ 31) (h : y_lz true j A V) :
    ∃ V', fX3_turnOver F V = some V' ∧ (∀ p', y_lp P p' (j + 1) [] A V') ∧ y_fr y_ls [] V V' := by
  obtain ⟨hpp, hlen, hnn, h4, h5, hk, hm⟩ := h
  unfold fX3_turnOver
  simp only [y_let, y_get]
  refine ⟨_, rfl, fun p' => ⟨⟨?_, hnn, ?_, ?_, ?_, ?_⟩, ⟨hlen, ?_, ?_⟩, List.nodup_nil, fun _ q => absurd q List.not_mem_nil⟩, ?_⟩
  · rcases hpp with ⟨p1, p2⟩ | ⟨p1, p2⟩
    · exact Or.inr ⟨p2, p1⟩
    · exact Or.inl ⟨p2, p1⟩
  · show zI V 14 4 + 1 = _
    rw [h4, nI_1]
  · rfl
  · intro i c q; cases q
  · intro c hc
    obtain ⟨i, a1, a2⟩ := hm c hc
    exact ⟨i, by omega, a2, ⟨fun q => by omega, fun q => absurd q List.not_mem_nil⟩⟩
  · exact h5
  · intro i c hc
    exact hk i c hc
  · refine y_fr_I (y_fr_I (y_fr_P (y_fr_I (y_fr_P y_fr_refl ?_) ?_) ?_) ?_) ?_ <;> decide
/-! with layouts (w) or without -/
def y_lay (w : Bool) (k : Nat) (T : zV) (p : Nat) (A : List Nat) (lost : Int32) (V : zV) : Prop := match w with
  | false => y_PP V ∧ zN V 15 = 0 ∧ zN V 16 = 0 ∧ zN V 17 = 0
  | true => (∃ j, j ≤ k ∧ y_ly j A V) ∧ A.Nodup ∧ (∀ c ∈ A, y_gd (y_many T 4) p c) ∧ (y_many T 4 = 0 → A = []) ∧ zI V 14 8 = lost
theorem y_lay0_pn {k p : Nat} {A : List Nat} {lost : Int32} {V : zV} (h : y_lay false k T p A lost V) : (zP V 14 1 = 15 ∨ zP V 14 1 = 16) ∧ (zP V 14 2 = 15 ∨ zP V 14 2 = 16) ∧ zN V (zP V 14 1) = 0 ∧ zN V (zP V 14 2) = 0 := by
  obtain ⟨hp, n1, n2, n3⟩ := h
  rcases hp with ⟨p1, p2⟩ | ⟨p1, p2⟩ <;> rw [p1, p2]
  · exact ⟨Or.inl rfl, Or.inr rfl, n1, n2⟩
  · exact ⟨Or.inr rfl, Or.inl rfl, n2, n1⟩
theorem c_put0 {k p : Nat} {A : List Nat} {lost x : Int32} {V : zV} (h : y_lay false k T p A lost V) : fX3_put F V x = some V := by
  unfold fX3_put
  by_cases q : x < 0
  · rw [if_pos q]
  · obtain ⟨j, hj, rfl⟩ := nI_of q
    rw [if_neg q, h.2.2.2, if_pos (nI_le (Nat.zero_le _) hj)]
theorem c_moveAll0 {k p : Nat} (hF : 2000 ≤ F) {A : List Nat} {lost a b : Int32} {V : zV} (h : y_lay false k T p A lost V) : fX3_moveAll F V a b = some V := by
  obtain ⟨n, rfl⟩ : ∃ n, F = n + 1 := ⟨F - 1, by omega⟩
  obtain ⟨-, h2, -, h4⟩ := y_lay0_pn h
  unfold fX3_moveAll
  rw [fX3_moveAll_l2]
  by_cases q : zI V 14 6 ≤ 0
  · rw [if_pos q]
  · rw [if_neg q, zchk_t h2, h4, if_pos (show nI 0 ≤ (0 : Int32) from nI_le (b := 0) (Nat.le_refl _) (by decide))]
theorem c_spread0 {k p : Nat} (hF : 2000 ≤ F) {A : List Nat} {lost : Int32} {V : zV} (h : y_lay false k T p A lost V) : fX3_spread F T V = some V := by
  obtain ⟨n, rfl⟩ : ∃ n, F = n + 1 := ⟨F - 1, by omega⟩
  obtain ⟨h1, -, h3, -⟩ := y_lay0_pn h
  unfold fX3_spread
  rw [fX3_spread_l2]
  by_cases q : zI V 14 5 ≤ 0
  · rw [if_pos q]
  · rw [if_neg q, zchk_t h1, h3, if_pos (show nI 0 ≤ (0 : Int32) from nI_le (b := 0) (Nat.le_refl _) (by decide))]
theorem c_turn0 {k' p' : Nat} {A' : List Nat} {lost' : Int32} {V : zV} (h : y_PP V ∧ zN V 15 = 0 ∧ zN V 16 = 0 ∧ zN V 17 = 0) : ∃ V', fX3_turnOver F V = some V' ∧ y_lay false k' T p' A' lost' V' ∧ y_fr y_ls [] V V' := by
  obtain ⟨hpp, hnn⟩ := h
  unfold fX3_turnOver
  simp only [y_let, y_get]
  refine ⟨_, rfl, ⟨?_, hnn⟩, ?_⟩
  · rcases hpp with ⟨p1, p2⟩ | ⟨p1, p2⟩
    · exact Or.inr ⟨p2, p1⟩
    · exact Or.inl ⟨p2, p1⟩
  · refine y_fr_I (y_fr_I (y_fr_P (y_fr_I (y_fr_P y_fr_refl ?_) ?_) ?_) ?_) ?_ <;> decide
end
