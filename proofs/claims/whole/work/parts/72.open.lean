/-! ===== a new game in the class ===== -/
theorem y_zext {V V' : zV} (h1 : ∀ r k, zI V r k = zI V' r k) (h2 : ∀ r k, zL V r k = zL V' r k) (h3 : ∀ r, zA V r = zA V' r) (h4 : ∀ r, zB V r = zB V' r) (h5 : ∀ r k, zP V r k = zP V' r k) (h6 : ∀ r, zN V r = zN V' r) : V = V' := by
  refine Prod.ext (funext fun r => funext fun k => h1 r k) (Prod.ext (funext fun r => funext fun k => h2 r k) (Prod.ext (funext fun r => h3 r) (Prod.ext (funext fun r => h4 r) (Prod.ext (funext fun r => funext fun k => h5 r k) (funext fun r => h6 r)))))
theorem y_fill {f : Nat → Int32} {i j : Nat} {x : Int32} (h : j < i → f j = x) (hj : j < i + 1) : upd f i x j = x := by
  rw [y_upd]
  by_cases q : j = i
  · rw [if_pos q]
  · rw [if_neg q]; exact h (by omega)
section
variable {F : Nat} {T : zV} {w : Bool} {b : Nat}
theorem y_new_eq {a h : Int32} {r : Nat → Int32} : y_beg T (y_take T (y_new T a h r)) = y_beg T (y_take T (y_new T 0 0 (fun _ => 0))) := by
  have t : ∀ a h r, y_take T (y_new T a h r) = (zsI (y_new T a h r).1 14 7 1, y_lTake T (y_new T 0 0 (fun _ => 0)).2.1, (y_new T 0 0 (fun _ => 0)).2.2) := by
    intro a h r
    unfold y_take
    have e : y_I (y_new T a h r) 14 7 = 0 := rfl
    rw [e, if_neg (by decide)]; rfl
  rw [t, t]
  unfold y_beg y_rem
  refine Prod.ext (y_zext (fun x y => ?_) (fun x y => rfl) (fun x => ?_) (fun x => rfl) (fun x y => rfl) (fun x => rfl)) rfl
  · show (if x = 0 ∧ y = 14 then (0 : Int32) else if x = 0 ∧ y = 13 then 0 else if x = 14 ∧ y = 7 then 1 else if x = 0 ∧ y = 14 then h else if x = 0 ∧ y = 13 then a else if x = 0 ∧ y = 9 then 1 else 0) = if x = 0 ∧ y = 14 then (0 : Int32) else if x = 0 ∧ y = 13 then 0 else if x = 14 ∧ y = 7 then 1 else if x = 0 ∧ y = 14 then 0 else if x = 0 ∧ y = 13 then 0 else if x = 0 ∧ y = 9 then 1 else 0
    by_cases q1 : x = 0 ∧ y = 14
    · rw [if_pos q1, if_pos q1]
    · by_cases q2 : x = 0 ∧ y = 13
      · simp only [if_neg q1, if_pos q2]
      · simp only [if_neg q1, if_neg q2]
  · by_cases q : x = 23
    · subst q; rfl
    · show (if x = 23 then _ else if x = 23 then r else if x = 1 then zA T 9 else zA z0 x) = (if x = 23 then _ else if x = 23 then (fun _ => 0) else if x = 1 then zA T 9 else zA z0 x)
      rw [if_neg q, if_neg q, if_neg q, if_neg q]
theorem c_opsw : ∀ (r i n : Nat) (V : zV), i + r = 16 → r + 1 ≤ n → (∀ j, j < i → zA V 6 j = 0 ∧ zA V 7 j = 0 ∧ zA V 8 j = 0 ∧ zA V 9 j = 0) →
    ∃ V', fX8_clear_l2 F n V (nI i) = some V' ∧ (∀ j, j < 16 → zA V' 6 j = 0 ∧ zA V' 7 j = 0 ∧ zA V' 8 j = 0 ∧ zA V' 9 j = 0) ∧ y_fr [] [6, 7, 8, 9] V V' := by
  intro r
  induction r with
  | zero =>
    intro i n V e hn h
    obtain ⟨n, rfl⟩ : ∃ n', n = n' + 1 := ⟨n - 1, by omega⟩
    refine ⟨V, ?_, fun j hj => h j (by omega), y_fr_refl⟩
    rw [fX8_clear_l2, if_pos (show (16 : Int32) ≤ nI i from nI_le (a := 16) (by omega) (by omega))]
  | succ r ih =>
    intro i n V e hn h
    obtain ⟨n, rfl⟩ : ∃ n', n = n' + 1 := ⟨n - 1, by omega⟩
    rw [fX8_clear_l2, if_neg (show ¬ (16 : Int32) ≤ nI i from nI_ge (b := 16) (by omega) (by decide)), y_ck (by omega) (by decide), y_let, y_ck (by omega) (by decide), y_let, y_ck (by omega) (by decide), y_let, y_ck (by omega) (by decide), y_let, nI_clamp (by omega), nI_1]
    have key : ∀ W, (∀ j, j < i + 1 → zA W 6 j = 0 ∧ zA W 7 j = 0 ∧ zA W 8 j = 0 ∧ zA W 9 j = 0) → y_fr [] [6, 7, 8, 9] V W → ∃ V', fX8_clear_l2 F n W (nI (i + 1)) = some V' ∧ (∀ j, j < 16 → zA V' 6 j = 0 ∧ zA V' 7 j = 0 ∧ zA V' 8 j = 0 ∧ zA V' 9 j = 0) ∧ y_fr [] [6, 7, 8, 9] V V' := by
      intro W g f
      obtain ⟨V2, g1, g2, g3⟩ := ih (i + 1) n W (by omega) (by omega) g
      exact ⟨V2, g1, g2, y_fr_trans f g3⟩
    refine key _ ?_ ?_
    · exact (fun j hj => ⟨y_fill (fun q => (h j q).1) hj, y_fill (fun q => (h j q).2.1) hj, y_fill (fun q => (h j q).2.2.1) hj, y_fill (fun q => (h j q).2.2.2) hj⟩)
    · exact (y_fr_A (y_fr_A (y_fr_A (y_fr_A y_fr_refl (by decide)) (by decide)) (by decide)) (by decide))
theorem c_opco : ∀ (r i n : Nat) (V : zV), i + r = 8 → r + 1 ≤ n → (∀ j, j < i → zA V 11 j = 0 ∧ zA V 12 j = 0) →
    ∃ V', fX0_clear_l7 F n V (nI i) = some V' ∧ (∀ j, j < 8 → zA V' 11 j = 0 ∧ zA V' 12 j = 0) ∧ y_fr [] [11, 12] V V' := by
  intro r
  induction r with
  | zero =>
    intro i n V e hn h
    obtain ⟨n, rfl⟩ : ∃ n', n = n' + 1 := ⟨n - 1, by omega⟩
    refine ⟨V, ?_, fun j hj => h j (by omega), y_fr_refl⟩
    rw [fX0_clear_l7, if_pos (show (8 : Int32) ≤ nI i from nI_le (a := 8) (by omega) (by omega))]
  | succ r ih =>
    intro i n V e hn h
    obtain ⟨n, rfl⟩ : ∃ n', n = n' + 1 := ⟨n - 1, by omega⟩
    rw [fX0_clear_l7, if_neg (show ¬ (8 : Int32) ≤ nI i from nI_ge (b := 8) (by omega) (by decide)), y_ck (by omega) (by decide), y_let, y_ck (by omega) (by decide), y_let, nI_clamp (by omega), nI_1]
    have key : ∀ W, (∀ j, j < i + 1 → zA W 11 j = 0 ∧ zA W 12 j = 0) → y_fr [] [11, 12] V W → ∃ V', fX0_clear_l7 F n W (nI (i + 1)) = some V' ∧ (∀ j, j < 8 → zA V' 11 j = 0 ∧ zA V' 12 j = 0) ∧ y_fr [] [11, 12] V V' := by
      intro W g f
      obtain ⟨V2, g1, g2, g3⟩ := ih (i + 1) n W (by omega) (by omega) g
      exact ⟨V2, g1, g2, y_fr_trans f g3⟩
    refine key _ ?_ ?_
    · exact (fun j hj => ⟨y_fill (fun q => (h j q).1) hj, y_fill (fun q => (h j q).2) hj⟩)
    · exact (y_fr_A (y_fr_A y_fr_refl (by decide)) (by decide))
theorem c_opmo : ∀ (r i n : Nat) (V : zV), i + r = 12 → r + 1 ≤ n → (∀ j, j < i → zA V 19 j = 0 ∧ zA V 20 j = 0 ∧ zA V 21 j = 0 ∧ zA V 22 j = 0) →
    ∃ V', fX4_clear_l7 F n V (nI i) = some V' ∧ (∀ j, j < 12 → zA V' 19 j = 0 ∧ zA V' 20 j = 0 ∧ zA V' 21 j = 0 ∧ zA V' 22 j = 0) ∧ y_fr [] [19, 20, 21, 22] V V' := by
  intro r
  induction r with
  | zero =>
    intro i n V e hn h
    obtain ⟨n, rfl⟩ : ∃ n', n = n' + 1 := ⟨n - 1, by omega⟩
    refine ⟨V, ?_, fun j hj => h j (by omega), y_fr_refl⟩
    rw [fX4_clear_l7, if_pos (show (12 : Int32) ≤ nI i from nI_le (a := 12) (by omega) (by omega))]
  | succ r ih =>
    intro i n V e hn h
    obtain ⟨n, rfl⟩ : ∃ n', n = n' + 1 := ⟨n - 1, by omega⟩
    rw [fX4_clear_l7, if_neg (show ¬ (12 : Int32) ≤ nI i from nI_ge (b := 12) (by omega) (by decide)), y_ck (by omega) (by decide), y_let, y_ck (by omega) (by decide), y_let, y_ck (by omega) (by decide), y_let, y_ck (by omega) (by decide), y_let, nI_clamp (by omega), nI_1, y_bool0]
    have key : ∀ W, (∀ j, j < i + 1 → zA W 19 j = 0 ∧ zA W 20 j = 0 ∧ zA W 21 j = 0 ∧ zA W 22 j = 0) → y_fr [] [19, 20, 21, 22] V W → ∃ V', fX4_clear_l7 F n W (nI (i + 1)) = some V' ∧ (∀ j, j < 12 → zA V' 19 j = 0 ∧ zA V' 20 j = 0 ∧ zA V' 21 j = 0 ∧ zA V' 22 j = 0) ∧ y_fr [] [19, 20, 21, 22] V V' := by
      intro W g f
      obtain ⟨V2, g1, g2, g3⟩ := ih (i + 1) n W (by omega) (by omega) g
      exact ⟨V2, g1, g2, y_fr_trans f g3⟩
    refine key _ ?_ ?_
    · exact (fun j hj => ⟨y_fill (fun q => (h j q).1) hj, y_fill (fun q => (h j q).2.1) hj, y_fill (fun q => (h j q).2.2.1) hj, y_fill (fun q => (h j q).2.2.2) hj⟩)
    · exact (y_fr_A (y_fr_A (y_fr_A (y_fr_A y_fr_refl (by decide)) (by decide)) (by decide)) (by decide))
theorem c_opva : ∀ (r i n : Nat) (V : zV), i + r = 16 → r + 1 ≤ n → (∀ j, j < i → zA V 1 j = zA T 9 j) →
    ∃ V' n', fX1_open_l23 F n T V (nI i) = fX1_open_l23 F (n' + 1) T V' (nI 16) ∧ (∀ j, j < 16 → zA V' 1 j = zA T 9 j) ∧ y_fr [] [1] V V' := by
  intro r
  induction r with
  | zero =>
    intro i n V e hn h
    obtain ⟨n, rfl⟩ : ∃ n', n = n' + 1 := ⟨n - 1, by omega⟩
    have : i = 16 := by omega
    subst this
    exact ⟨V, n, rfl, fun j hj => h j (by omega), y_fr_refl⟩
  | succ r ih =>
    intro i n V e hn h
    obtain ⟨n, rfl⟩ : ∃ n', n = n' + 1 := ⟨n - 1, by omega⟩
    rw [fX1_open_l23, if_neg (show ¬ (16 : Int32) ≤ nI i from nI_ge (b := 16) (by omega) (by decide)), y_ck (by omega) (by decide), y_ck (by omega) (by decide), y_let, nI_clamp (by omega), nI_1]
    obtain ⟨V2, n2, g1, g2, g3⟩ := ih (i + 1) n (zsA V 1 (upd (zA V 1) i (zA T 9 i))) (by omega) (by omega) (fun j hj => by
      show upd (zA V 1) i (zA T 9 i) j = _
      rw [y_upd]
      by_cases q : j = i
      · rw [if_pos q, q]
      · rw [if_neg q]; exact h j (by omega))
    exact ⟨V2, n2, g1, g2, y_fr_trans (y_fr_A y_fr_refl (by decide)) g3⟩
/-- a game begins, whatever stood there -/
theorem c_open (hF : 2000 ≤ F) (hT : y_T T) (hb : b + 8000 < 2 ^ 31) {L : List Nat} {V : zV} {a : Nat} (ha : a ≤ 200) (h13 : zI V 0 13 = nI a) (h : y_lz w b L V) :
    ∃ V', fX1_open F T V = some V' ∧ y_rb w (b + 2430) T (y_open T) V' := by
  have h7 := hT.2.1.1
  obtain ⟨V1, a1, a2, a3⟩ := c_opsw (F := F) 16 0 F V (by omega) (by omega) (fun j hj => by omega)
  obtain ⟨V2, b1, b2, b3⟩ := c_opco (F := F) 8 0 F (zsI V1 10 4 0) (by omega) (by omega) (fun j hj => by omega)
  have b3' : y_fr [(10, 4)] [11, 12] V1 V2 := y_fr_trans (y_fr_I y_fr_refl (by decide)) (y_fr_mono b3 (by decide) (by decide))
  have hz2 : y_lz w b L V2 := y_lz_fr (y_lz_fr h a3 (by decide) (by decide)) b3' (by decide) (by decide)
  obtain ⟨V3, c1, c2, c3, c4⟩ := c_clear (F := F) hT.2.2.1 (by omega) hz2
  obtain ⟨V4, n4, d1, d2, d3⟩ := c_opva (F := F) (T := T) 16 0 F V3 (by omega) (by omega) (fun j hj => by omega)
  obtain ⟨V5, e1, e2, e3⟩ := c_opmo (F := F) 12 0 F (zsI V4 18 6 0) (by omega) (by omega) (fun j hj => by omega)
  have e3' : y_fr [(18, 6)] [19, 20, 21, 22] V4 V5 := y_fr_trans (y_fr_I y_fr_refl (by decide)) (y_fr_mono e3 (by decide) (by decide))
  have d1' : fX1_open_l23 F F T V3 0 = fX1_open_l23 F (n4 + 1) T V4 (nI 16) := d1
  have a1' : fX8_clear_l2 F F V 0 = some V1 := a1
  have b1' : fX0_clear_l7 F F (zsI V1 10 4 0) 0 = some V2 := b1
  have e1' : fX4_clear_l7 F F (zsI V4 18 6 0) 0 = some V5 := e1
  -- the numbers
  have V6 : ∃ V6, V6 = zsI (zsI (zsI (zsI (zsL V5 0 8 0) 0 9 1) 0 10 0) 0 11 0) 0 12 0 := ⟨_, rfl⟩
  obtain ⟨V6, hV6⟩ := V6
  have f6 : (∀ r k, (r, k) ∉ [(0, 9), (0, 10), (0, 11), (0, 12)] → zI V6 r k = zI V5 r k) ∧ (∀ r, zA V6 r = zA V5 r) := by
    subst hV6
    refine ⟨fun r k hm => ?_, fun r => rfl⟩
    have g : ∀ x y : Nat, (x, y) ∈ [(0, 9), (0, 10), (0, 11), (0, 12)] → ¬ (r = x ∧ k = y) := by
      intro x y hxy
      rintro ⟨rfl, rfl⟩
      exact hm hxy
    show (if r = 0 ∧ k = 12 then (0 : Int32) else if r = 0 ∧ k = 11 then 0 else if r = 0 ∧ k = 10 then 0 else if r = 0 ∧ k = 9 then 1 else zI V5 r k) = zI V5 r k
    rw [if_neg (g 0 12 (by decide)), if_neg (g 0 11 (by decide)), if_neg (g 0 10 (by decide)), if_neg (g 0 9 (by decide))]
  have hI : ∀ r k, (r, k) ∉ (18, 6) :: (10, 4) :: y_l7 → (r, k) ∉ [(0, 9), (0, 10), (0, 11), (0, 12)] → zI V6 r k = zI V r k := by
    intro r k m1 m2
    rw [f6.1 r k m2, e3'.1 r k (fun z => m1 (by rw [List.mem_singleton] at z; rw [z]; decide)), d3.1 r k List.not_mem_nil, c4.1 r k (fun z => m1 (List.mem_cons_of_mem _ (List.mem_cons_of_mem _ z))), b3'.1 r k (fun z => m1 (by rw [List.mem_singleton] at z; rw [z]; decide)), a3.1 r k List.not_mem_nil]
  have h0 : y_rb w (b + 1) T (y_new T (zI V 0 13) (zI V 0 14) (zA V 23)) V6 := by
    refine ⟨⟨fun q hq => ?_, fun r hr i hi => ?_, ?_⟩, ⟨?_, fun i c hc => by cases hc⟩, ?_, ⟨⟨a, ha, h13⟩, ⟨List.nodup_nil, fun c hc => absurd hc List.not_mem_nil⟩, fun m _ => ⟨0, by omega, rfl⟩⟩, 0, by omega, rfl, ?_⟩
    · have hq' : q = (0, 9) ∨ q = (0, 10) ∨ q = (0, 11) ∨ q = (0, 12) ∨ q = (0, 13) ∨ q = (0, 14) ∨ q = (14, 7) := by
        have : q ∈ [(0, 9), (0, 10), (0, 11), (0, 12), (0, 13), (0, 14), (14, 7)] := hq
        simpa using this
      rcases hq' with rfl | rfl | rfl | rfl | rfl | rfl | rfl
      · subst hV6; rfl
      · subst hV6; rfl
      · subst hV6; rfl
      · subst hV6; rfl
      · exact hI 0 13 (by decide) (by decide)
      · exact hI 0 14 (by decide) (by decide)
      · show zI V6 14 7 = 0
        rw [f6.1 14 7 (by decide), e3'.1 14 7 (by decide), d3.1 14 7 List.not_mem_nil, c2]; rfl
    · have hr' : r = 1 ∨ r = 6 ∨ r = 7 ∨ r = 8 ∨ r = 9 ∨ r = 11 ∨ r = 12 ∨ r = 19 ∨ r = 20 ∨ r = 21 ∨ r = 22 ∨ r = 23 := by
        have : r ∈ [1, 6, 7, 8, 9, 11, 12, 19, 20, 21, 22, 23] := hr
        simpa using this
      rw [f6.2 r]
      rcases hr' with rfl | rfl | rfl | rfl | rfl | rfl | rfl | rfl | rfl | rfl | rfl | rfl
      · rw [e3'.2.1 1 (by decide)]; exact d2 i hi
      · rw [e3'.2.1 6 (by decide), d3.2.1 6 (by decide), c4.2.1 6 (by decide), b3'.2.1 6 (by decide)]; exact (a2 i hi).1
      · rw [e3'.2.1 7 (by decide), d3.2.1 7 (by decide), c4.2.1 7 (by decide), b3'.2.1 7 (by decide)]; exact (a2 i hi).2.1
      · rw [e3'.2.1 8 (by decide), d3.2.1 8 (by decide), c4.2.1 8 (by decide), b3'.2.1 8 (by decide)]; exact (a2 i hi).2.2.1
      · rw [e3'.2.1 9 (by decide), d3.2.1 9 (by decide), c4.2.1 9 (by decide), b3'.2.1 9 (by decide)]; exact (a2 i hi).2.2.2
      · rw [e3'.2.1 11 (by decide), d3.2.1 11 (by decide), c4.2.1 11 (by decide)]; exact (b2 i hi).1
      · rw [e3'.2.1 12 (by decide), d3.2.1 12 (by decide), c4.2.1 12 (by decide)]; exact (b2 i hi).2
      · exact (e2 i hi).1
      · exact (e2 i hi).2.1
      · exact (e2 i hi).2.2.1
      · exact (e2 i hi).2.2.2
      · rw [e3'.2.1 23 (by decide), d3.2.1 23 (by decide), c4.2.1 23 (by decide), b3'.2.1 23 (by decide), a3.2.1 23 (by decide)]; rfl
    · subst hV6; rfl
    · rw [f6.1 10 4 (by decide), e3'.1 10 4 (by decide), d3.1 10 4 List.not_mem_nil, c4.1 10 4 (by decide), b3.1 10 4 List.not_mem_nil]; rfl
    · rw [f6.1 18 6 (by decide), e3.1 18 6 List.not_mem_nil]
      have : y_timed T (y_new T (zI V 0 13) (zI V 0 14) (zA V 23)) = 0 := by
        unfold y_timed
        rw [List.length_eq_zero_iff, List.filter_eq_nil_iff]
        intro m _
        simp only [decide_eq_true_eq]
        exact fun z => z.1 rfl
      rw [this]; rfl
    · have g5 := y_lay_fr (y_lay_fr c3 d3 (by decide) (fun q _ => List.not_mem_nil) (by decide)) e3' (by decide) (by decide) (by decide)
      subst hV6
      cases w with
      | false => exact g5
      | true => exact g5
  obtain ⟨V7, g1, g2⟩ := c_take' (F := F) hF hT.2.2.1 (by omega) h0
  obtain ⟨V8, i1, i2, i3⟩ := c_beg (F := F) hF hT g2
  rw [y_new_eq] at i2 i3
  rw [fX1_open, fX8_clear, a1', y_bd, fX0_clear, y_let, b1', y_bd, c1, y_bd, d1', fX1_open_l23, if_pos (show (16 : Int32) ≤ nI 16 from nI_le (a := 16) (Nat.le_refl _) (by decide)), fX4_clear, y_let, e1', y_bd, y_let, y_let, y_let, y_let, y_let, ← hV6, g1, y_bd, i1, y_bd]
  have fin : ∀ (S : y_S) (V : zV), y_rb w (b + 2 + 12 * y_ac S) T S V → ∃ V', fX1_open_b114 F T V = some V' ∧ y_rb w (b + 2430) T (y_end T S) V' := by
    intro S V h
    have := y_ac_le h
    obtain ⟨V1, e1, e2⟩ := c_end (F := F) hF hT (by omega) h
    rw [fX1_open_b114, e1, y_bd]
    exact ⟨V1, rfl, y_rb_mono e2 (by omega)⟩
  have i2' : y_rb w (b + 2 + 12 * y_ac (y_beg T (y_take T (y_new T 0 0 (fun _ => 0))))) T (y_beg T (y_take T (y_new T 0 0 (fun _ => 0)))) V8 := by
    rw [i3]; exact i2
  unfold y_open
  dsimp only
  generalize y_beg T (y_take T (y_new T 0 0 (fun _ => 0))) = S8 at i2' ⊢
  by_cases q : y_many T 7 = 0
  · have hh : fX9_has F T 7 (nI 0) = some 0 := (c_has (k := 7) (by decide) h7.1 (by omega) (by omega)).trans (by rw [if_neg (by omega)])
    have hh' : fX9_has F T 7 0 = some 0 := hh
    rw [fX4_turnOn, hh', y_bd, if_pos rfl, y_bd, if_pos (show (0 : Int32) = 0 from rfl), if_pos q]
    exact fin S8 V8 i2'
  · rw [if_neg q]
    obtain ⟨V9, k1, k2⟩ := c_on (F := F) (m := 0) hT.2.1 (by omega) i2'
    have k1' : fX4_turnOn F T V8 0 = some ((if (y_on T S8 0).1 = true then 1 else 0), V9) := k1
    have k2' : y_rb w (b + 2 + 12 * y_ac (y_on T S8 0).2) T (y_on T S8 0).2 V9 := by
      have : y_ac (y_on T S8 0).2 = y_ac S8 := by unfold y_ac; rw [y_on_I]
      rw [this]; exact k2
    rw [k1', y_bd]
    dsimp only
    by_cases q2 : (y_on T S8 0).1 = true
    · rw [if_pos q2, if_pos q2, if_neg (show ¬ (1 : Int32) = 0 by decide)]
      obtain ⟨V10, l1, l2⟩ := c_rules (F := F) hF hT (k := b + 2) (l := 8) (m := 0) (ev := -1) (d := 1) (top := false) (by omega) (by omega) rfl rfl (by omega) k2'
      have l1' : fX1_doRules F T V9 0 (-1) 1 = some V10 := l1
      rw [l1', y_bd]
      exact fin _ _ l2
    · rw [if_neg q2, if_neg q2, if_pos rfl]
      exact fin _ _ k2'
end
