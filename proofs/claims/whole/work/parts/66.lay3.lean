/-! ===== layouts in the class: serve, drain, a press's ways, none ===== -/
def y_l7 : List (Nat × Nat) := [(14, 4), (14, 5), (14, 6), (14, 1), (14, 2), (14, 7), (14, 8)]
section
variable {F : Nat} {T : zV}
theorem y_ly_fr {sc : List (Nat × Nat)} {ar : List Nat} {j : Nat} {A : List Nat} {V V' : zV} (h : y_ly j A V) (f : y_fr sc ar V V') (h1 : ∀ q ∈ y_ls, q ∉ sc) (h2 : ∀ r ∈ y_la, r ∉ ar) : y_ly j A V' := by
  have hpn := y_pN h
  obtain ⟨hp, ⟨n1, n2, n3⟩, a4, a5, hk, hm⟩ := h
  have e1 : zP V' 14 1 = zP V 14 1 := f.2.2.2.2.2 14 1 (h1 _ (by decide))
  have e2 : zP V' 14 2 = zP V 14 2 := f.2.2.2.2.2 14 2 (h1 _ (by decide))
  refine ⟨by unfold y_PP; rw [e1, e2]; exact hp, ⟨(f.2.2.2.2.1 _).trans n1, (f.2.2.2.2.1 _).trans n2, (f.2.2.2.2.1 _).trans n3⟩, (f.1 14 4 (h1 _ (by decide))).trans a4, (f.1 14 5 (h1 _ (by decide))).trans a5, fun i c hc => ?_, fun c hc => ?_⟩
  · rw [e1, f.2.1 (zP V 14 1) (h2 _ (by rcases hpn.2.2.2.2.2.1 with q | q <;> rw [q] <;> decide))]
    exact hk i c hc
  · rw [f.2.1 17 (h2 _ (by decide))]
    exact hm c hc
theorem y_lay_fr {w : Bool} {k p : Nat} {lost : Int32} {sc : List (Nat × Nat)} {ar : List Nat} {A : List Nat} {V V' : zV} (h : y_lay w k T p A lost V) (f : y_fr sc ar V V') (h0 : (14, 8) ∉ sc) (h1 : ∀ q ∈ y_ls, q ∉ sc) (h2 : ∀ r ∈ y_la, r ∉ ar) : y_lay w k T p A lost V' := by
  cases w with
  | false =>
    obtain ⟨hp, n1, n2, n3⟩ := h
    have e1 : zP V' 14 1 = zP V 14 1 := f.2.2.2.2.2 14 1 (h1 _ (by decide))
    have e2 : zP V' 14 2 = zP V 14 2 := f.2.2.2.2.2 14 2 (h1 _ (by decide))
    exact ⟨by unfold y_PP; rw [e1, e2]; exact hp, (f.2.2.2.2.1 _).trans n1, (f.2.2.2.2.1 _).trans n2, (f.2.2.2.2.1 _).trans n3⟩
  | true =>
    obtain ⟨⟨j, hj, hy⟩, h3, h4, h5, h6⟩ := h
    exact ⟨⟨j, hj, y_ly_fr hy f h1 h2⟩, h3, h4, h5, (f.1 14 8 h0).trans h6⟩
theorem y_lay_mono {w : Bool} {k k' p : Nat} {lost : Int32} {A : List Nat} {V : zV} (h : y_lay w k T p A lost V) (hk : k ≤ k') : y_lay w k' T p A lost V := by
  cases w with
  | false => exact h
  | true => obtain ⟨⟨j, hj, hy⟩, h3⟩ := h; exact ⟨⟨j, by omega, hy⟩, h3⟩
theorem c_take {w : Bool} {k p : Nat} {L : List Nat} {lost : Int32} {V : zV} (hF : 2000 ≤ F) (hw : y_ww T) (hk : k + 1 < 2 ^ 31) (hp : p ≤ 3) (h7 : zI V 14 7 = nI p) (h : y_lay w k T p L lost V) :
    ∃ V', fX3_takeBall F T V = some V' ∧ zI V' 14 7 = nI (if p = 3 then 3 else p + 1) ∧ y_lay w (k + 1) T (if p = 3 then 3 else p + 1) (if p = 3 then L else y_lTake T L) lost V' ∧ y_fr y_l7 y_la V V' := by
  unfold fX3_takeBall
  by_cases h3 : p = 3
  · subst h3
    rw [if_pos rfl, if_pos rfl, h7, if_pos (show (3 : Int32) ≤ nI 3 from nI_le (a := 3) (Nat.le_refl _) (by decide))]
    exact ⟨V, rfl, h7, y_lay_mono h (by omega), y_fr_refl⟩
  rw [if_neg h3, if_neg h3, h7, if_neg (show ¬ (3 : Int32) ≤ nI p from nI_ge (b := 3) (by omega) (by decide)), y_let, nI_1]
  have f0 : y_fr [(14, 7)] [] V (zsI V 14 7 (nI (p + 1))) := y_fr_I y_fr_refl (by decide)
  have h0 := y_lay_fr h f0 (by decide) (by decide) (by decide)
  have f0' : y_fr y_l7 y_la V (zsI V 14 7 (nI (p + 1))) := y_fr_mono f0 (by decide) (by decide)
  cases w with
  | false =>
    obtain ⟨V1, e1, e2, e3⟩ := c_turn0 (F := F) (k' := k + 1) (p' := p + 1) (A' := y_lTake T L) (lost' := lost) h0
    rw [e1, y_bd, c_moveAll0 hF e2, y_bd, c_spread0 hF e2, y_bd]
    refine ⟨V1, rfl, ?_, e2, y_fr_trans f0' (y_fr_mono e3 (by decide) (by decide))⟩
    rw [e3.1 14 7 (by decide)]; rfl
  | true =>
    obtain ⟨⟨j, hj, hy⟩, hn, hg, hz, hl⟩ := h0
    have hP := hw.2.1
    obtain ⟨V1, e1, e2, e3⟩ := c_turn (F := F) (P := y_many T 4) (by omega) (y_lz_of hP hp hy hn hg)
    obtain ⟨V2, b1, b2, b3⟩ := c_moveAll (F := F) (a := 0) (b := 1) hF hP (show p + 1 ≤ 3 by omega) (by omega) (by omega) (by omega) (fun c hc => ⟨(hg c hc).1, fun d hd => by
      have hP1 : 1 ≤ y_many T 4 := by
        rcases Nat.eq_zero_or_pos (y_many T 4) with q | q
        · rw [hz q] at hc; cases hc
        · exact q
      exact (y_mv_gd hP (hg c hc) hP1 hd).1⟩) (e2 (p + 1))
    obtain ⟨V3, c1, c2, c3⟩ := c_spread (F := F) hF hw (show p + 1 ≤ 3 by omega) (by omega) b2
    rw [e1, y_bd, show (0 : Int32) = nI 0 from rfl, show (1 : Int32) = nI 1 from rfl, b1, y_bd, c1, y_bd]
    have f3 := y_fr_trans (y_fr_trans f0' (y_fr_mono e3 (by decide) (by decide))) (y_fr_trans (y_fr_mono b3 (sc' := y_l7) (ar' := y_la) (by decide) (by decide)) (y_fr_mono c3 (sc' := y_l7) (ar' := y_la) (by decide) (by decide)))
    refine ⟨V3, rfl, ?_, ⟨⟨j + 1, by omega, c2.1⟩, c2.2.2.1, c2.2.2.2, fun q => ?_, ?_⟩, f3⟩
    · rw [c3.1 14 7 (by decide), b3.1 14 7 (by decide), e3.1 14 7 (by decide)]; rfl
    · rw [hz q]; rfl
    · rw [c3.1 14 8 (by decide), b3.1 14 8 (by decide), e3.1 14 8 (by decide)]; exact hl
theorem c_dropl {p j : Nat} (hF : 2000 ≤ F) (hw : y_ww T) (hp : p + 1 ≤ 3) (hj : j < 2 ^ 31) {L : List Nat} (hg : ∀ c ∈ L, y_gd (y_many T 4) (p + 1) c) :
    ∀ (r i n : Nat) (A : List Nat) (V : zV), i + r = y_many T 4 → r + 1 ≤ n → y_lp (y_many T 4) p j A L V →
    ∃ V', fX3_dropBall_l23 F n T V (nI (i + 1)) = some V' ∧ y_lp (y_many T 4) p j ((List.range' i r).foldl (fun A q => y_mvA L A (q + 1) 0) A) L V' ∧ y_fr [(14, 5)] y_la V V' := by
  intro r
  have hP := hw.2.1
  induction r with
  | zero =>
    intro i n A V e hn h
    obtain ⟨n, rfl⟩ : ∃ n', n = n' + 1 := ⟨n - 1, by omega⟩
    refine ⟨V, ?_, h, y_fr_refl⟩
    rw [fX3_dropBall_l23, show ((4 : Int32)).toNatClampNeg = 4 from rfl, hw.1, if_pos (nI_lt (by omega) (by omega))]
  | succ r ih =>
    intro i n A V e hn h
    obtain ⟨n, rfl⟩ : ∃ n', n = n' + 1 := ⟨n - 1, by omega⟩
    obtain ⟨V1, e1, e2, e3⟩ := c_moveAll (F := F) (a := i + 1) (b := 0) hF hP (show p ≤ 3 by omega) hj (by omega) (by omega) (fun c hc => ⟨(hg c hc).1, fun d hd => by
      have := (y_mv_gd hP (hg c hc) (Nat.zero_le _) hd).1
      rw [show p + 1 + min 0 1 - min (i + 1) 1 = p by omega] at this
      exact this⟩) h
    rw [fX3_dropBall_l23, show ((4 : Int32)).toNatClampNeg = 4 from rfl, hw.1, if_neg (nI_nlt (by omega) (by omega)), show (0 : Int32) = nI 0 from rfl, e1, y_bd, nI_1, List.range'_succ]
    obtain ⟨V2, g1, g2, g3⟩ := ih (i + 1) n _ V1 (by omega) (by omega) e2
    exact ⟨V2, g1, g2, y_fr_trans e3 g3⟩
theorem c_drop {w : Bool} {k p : Nat} {L : List Nat} {lost : Int32} {V : zV} (hF : 2000 ≤ F) (hw : y_ww T) (hk : k + 1 < 2 ^ 31) (hp : p ≤ 3) (h7 : zI V 14 7 = nI p) (h : y_lay w k T p L lost V) :
    ∃ V', fX3_dropBall F T V = some V' ∧ zI V' 14 7 = nI (p - 1) ∧ y_lay w (k + 1) T (p - 1) (if p = 0 then L else y_lDrop T L) lost V' ∧ y_fr y_l7 y_la V V' := by
  unfold fX3_dropBall
  cases p with
  | zero =>
    rw [if_pos rfl, h7, if_pos (show nI 0 ≤ (0 : Int32) from nI_le (b := 0) (Nat.le_refl _) (by decide))]
    exact ⟨V, rfl, h7, y_lay_mono h (by omega), y_fr_refl⟩
  | succ p =>
    rw [if_neg (show ¬ p + 1 = 0 by omega), h7, if_neg (nI_nle (by omega) (by omega)), y_let, nI_pred]
    have f0 : y_fr [(14, 7)] [] V (zsI V 14 7 (nI p)) := y_fr_I y_fr_refl (by decide)
    have h0 := y_lay_fr h f0 (by decide) (by decide) (by decide)
    have f0' : y_fr y_l7 y_la V (zsI V 14 7 (nI p)) := y_fr_mono f0 (by decide) (by decide)
    cases w with
    | false =>
      obtain ⟨V1, e1, e2, e3⟩ := c_turn0 (F := F) (k' := k + 1) (p' := p) (A' := y_lDrop T L) (lost' := lost) h0
      rw [e1, y_bd]
      have hl : ∀ (r i n : Nat), i + r = y_many T 4 → r + 1 ≤ n → fX3_dropBall_l23 F n T V1 (nI (i + 1)) = some V1 := by
        intro r
        have hP := hw.2.1
        induction r with
        | zero =>
          intro i n e hn
          obtain ⟨n, rfl⟩ : ∃ n', n = n' + 1 := ⟨n - 1, by omega⟩
          rw [fX3_dropBall_l23, show ((4 : Int32)).toNatClampNeg = 4 from rfl, hw.1, if_pos (nI_lt (by omega) (by omega))]
        | succ r ih =>
          intro i n e hn
          obtain ⟨n, rfl⟩ : ∃ n', n = n' + 1 := ⟨n - 1, by omega⟩
          rw [fX3_dropBall_l23, show ((4 : Int32)).toNatClampNeg = 4 from rfl, hw.1, if_neg (nI_nlt (by omega) (by omega)), c_moveAll0 hF e2, y_bd, nI_1]
          exact ih (i + 1) n (by omega) (by omega)
      refine ⟨V1, hl (y_many T 4) 0 F (by omega) (by have := hw.2.1; omega), ?_, e2, y_fr_trans f0' (y_fr_mono e3 (by decide) (by decide))⟩
      rw [e3.1 14 7 (by decide)]; rfl
    | true =>
      obtain ⟨⟨j, hj, hy⟩, hn, hg, hz, hl⟩ := h0
      have hP := hw.2.1
      obtain ⟨V1, e1, e2, e3⟩ := c_turn (F := F) (P := y_many T 4) (by omega) (y_lz_of hP hp hy hn hg)
      obtain ⟨V2, b1, b2, b3⟩ := c_dropl (F := F) hF hw hp (by omega) hg (y_many T 4) 0 F [] V1 (by omega) (by omega) (e2 p)
      rw [e1, y_bd]
      have f3 := y_fr_trans (y_fr_trans f0' (y_fr_mono e3 (by decide) (by decide))) (y_fr_mono b3 (sc' := y_l7) (ar' := y_la) (by decide) (by decide))
      rw [← List.range_eq_range'] at b2
      refine ⟨V2, b1, ?_, ⟨⟨j + 1, by omega, b2.1⟩, b2.2.2.1, b2.2.2.2, fun q => ?_, ?_⟩, f3⟩
      · rw [b3.1 14 7 (by decide), e3.1 14 7 (by decide)]; rfl
      · unfold y_lDrop; rw [q]; rfl
      · rw [b3.1 14 8 (by decide), e3.1 14 8 (by decide)]; exact hl
theorem c_by1 {p j s : Nat} (hF : 2000 ≤ F) (hw : y_ww T) (hp : p ≤ 3) (hj : j < 2 ^ 31) {L : List Nat} (hg : ∀ c ∈ L, y_gd (y_many T 4) p c) :
    ∀ (r w n : Nat) (A : List Nat) (V : zV), w + r = y_many T 5 → r + 1 ≤ n → y_lp (y_many T 4) p j A L V →
    ∃ V', fX3_moveBallBy_l13 F n T V (nI s) 1 (nI w) = fX3_moveBallBy_b87 F T V' 1 ∧ y_lp (y_many T 4) p j (((List.range' w r).filter fun w => zA T 8 w = nI s).foldl (fun A w => y_mvA L A (y_way T w).1 (y_way T w).2) A) L V' ∧ y_fr [(14, 5)] y_la V V' := by
  intro r
  have hP := hw.2.1
  have hW := hw.2.2.2.1
  induction r with
  | zero =>
    intro w n A V e hn h
    obtain ⟨n, rfl⟩ : ∃ n', n = n' + 1 := ⟨n - 1, by omega⟩
    refine ⟨V, ?_, h, y_fr_refl⟩
    rw [fX3_moveBallBy_l13, show ((5 : Int32)).toNatClampNeg = 5 from rfl, hw.2.2.1, if_pos (nI_le (by omega) (by omega))]
  | succ r ih =>
    intro w n A V e hn h
    obtain ⟨n, rfl⟩ : ∃ n', n = n' + 1 := ⟨n - 1, by omega⟩
    obtain ⟨w1, w2, w3, w4, w5, w6⟩ := y_way_at hw (w := w) (by omega)
    rw [fX3_moveBallBy_l13, show ((5 : Int32)).toNatClampNeg = 5 from rfl, hw.2.2.1, if_neg (nI_ge (by omega) (by omega)), if_neg (show ¬ (24 : Int32) ≤ nI w from nI_ge (b := 24) (by omega) (by decide)), y_ck (by omega) (by decide), List.range'_succ, List.filter_cons]
    simp only [nI_clamp (show w < 2 ^ 31 by omega)]
    by_cases hs : zA T 8 w = nI s
    · obtain ⟨V1, e1, e2, e3⟩ := c_moveAll (F := F) (a := (y_way T w).1) (b := (y_way T w).2) hF hP hp hj (by omega) (by omega) (fun c hc => ⟨(hg c hc).1, fun d hd => y_ge1 hP (hg c hc) w3 w2 w4 hd⟩) h
      rw [if_pos hs, if_pos (show decide (zA T 8 w = nI s) = true by simpa using hs), if_neg (show ¬ (1 : Int32) = 0 by decide), fX3_moveBallBy_b53, y_ck (by omega) (by decide), y_ck (by omega) (by decide), nI_clamp (by omega), w5, w6, e1, y_bd, fX3_moveBallBy_b81, nI_1]
      obtain ⟨V2, g1, g2, g3⟩ := ih (w + 1) n _ V1 (by omega) (by omega) e2
      exact ⟨V2, g1, g2, y_fr_trans e3 g3⟩
    · rw [if_neg hs, if_neg (show ¬ decide (zA T 8 w = nI s) = true by simpa using hs), fX3_moveBallBy_b81, nI_1]
      exact ih (w + 1) n A V (by omega) (by omega) h
theorem c_by0 {p j s : Nat} (hF : 2000 ≤ F) (hw : y_ww T) (hp : p ≤ 3) (hj : j + 1 < 2 ^ 31) {L : List Nat} (hn0 : L.Nodup) (hg : ∀ c ∈ L, y_gd (y_many T 4) p c) {V : zV} (h : y_ly j L V) :
    ∀ (r w n : Nat), w + r = y_many T 5 → r + 1 ≤ n →
    (((List.range' w r).filter fun w => zA T 8 w = nI s) = [] ∧ fX3_moveBallBy_l13 F n T V (nI s) 0 (nI w) = some V) ∨
    (¬ ((List.range' w r).filter fun w => zA T 8 w = nI s) = [] ∧ ∃ V', fX3_moveBallBy_l13 F n T V (nI s) 0 (nI w) = fX3_moveBallBy_b87 F T V' 1 ∧ y_lp (y_many T 4) p (j + 1) (((List.range' w r).filter fun w => zA T 8 w = nI s).foldl (fun A w => y_mvA L A (y_way T w).1 (y_way T w).2) []) L V' ∧ y_fr y_ls y_la V V') := by
  intro r
  have hP := hw.2.1
  have hW := hw.2.2.2.1
  induction r with
  | zero =>
    intro w n e hn
    obtain ⟨n, rfl⟩ : ∃ n', n = n' + 1 := ⟨n - 1, by omega⟩
    refine Or.inl ⟨rfl, ?_⟩
    rw [fX3_moveBallBy_l13, show ((5 : Int32)).toNatClampNeg = 5 from rfl, hw.2.2.1, if_pos (nI_le (by omega) (by omega)), fX3_moveBallBy_b87, if_pos rfl, fX3_moveBallBy_b115, if_pos rfl]
  | succ r ih =>
    intro w n e hn
    obtain ⟨n, rfl⟩ : ∃ n', n = n' + 1 := ⟨n - 1, by omega⟩
    obtain ⟨w1, w2, w3, w4, w5, w6⟩ := y_way_at hw (w := w) (by omega)
    rw [fX3_moveBallBy_l13, show ((5 : Int32)).toNatClampNeg = 5 from rfl, hw.2.2.1, if_neg (nI_ge (by omega) (by omega)), if_neg (show ¬ (24 : Int32) ≤ nI w from nI_ge (b := 24) (by omega) (by decide)), y_ck (by omega) (by decide), List.range'_succ, List.filter_cons]
    simp only [nI_clamp (show w < 2 ^ 31 by omega)]
    by_cases hs : zA T 8 w = nI s
    · right
      rw [if_pos hs, if_pos (show decide (zA T 8 w = nI s) = true by simpa using hs), if_pos trivial]
      refine ⟨by simp, ?_⟩
      obtain ⟨V0, d1, d2, d3⟩ := c_turn (F := F) (P := y_many T 4) hj (y_lz_of hP hp h hn0 hg)
      obtain ⟨V1, e1, e2, e3⟩ := c_moveAll (F := F) (a := (y_way T w).1) (b := (y_way T w).2) hF hP hp hj (by omega) (by omega) (fun c hc => ⟨(hg c hc).1, fun d hd => y_ge1 hP (hg c hc) w3 w2 w4 hd⟩) (d2 p)
      rw [d1, y_bd, fX3_moveBallBy_b53, y_ck (by omega) (by decide), y_ck (by omega) (by decide), nI_clamp (by omega), w5, w6, e1, y_bd, fX3_moveBallBy_b81, nI_1]
      obtain ⟨V2, g1, g2, g3⟩ := c_by1 (F := F) (s := s) hF hw hp hj hg r (w + 1) n _ V1 (by omega) (by omega) e2
      exact ⟨V2, g1, g2, y_fr_trans (y_fr_mono d3 (by decide) (by decide)) (y_fr_trans (y_fr_mono e3 (by decide) (by decide)) (y_fr_mono g3 (by decide) (by decide)))⟩
    · rw [if_neg hs, if_neg (show ¬ decide (zA T 8 w = nI s) = true by simpa using hs), fX3_moveBallBy_b81, nI_1]
      exact ih (w + 1) n (by omega) (by omega)
theorem c_all {p j : Nat} (hF : 2000 ≤ F) (hw : y_ww T) (hp : p ≤ 3) (hj : j < 2 ^ 31) {L : List Nat} :
    ∀ (r x n : Nat) (A : List Nat) (V : zV), x + r = 729 → r + 1 ≤ n → (∀ c ∈ A, c < x) → zI V 14 7 = nI p → y_lp (y_many T 4) p j A L V →
    ∃ V', fX3_putAll_l2 F n T V (nI x) = some V' ∧ y_lp (y_many T 4) p j (A ++ (List.range' x r).filter fun c => c / 81 ≤ y_many T 4 ∧ c / 9 % 9 ≤ c / 81 ∧ c % 9 ≤ c / 9 % 9 ∧ y_cnt c = p) L V' ∧ y_fr [(14, 5)] y_la V V' := by
  intro r
  have hP := hw.2.1
  have l9 : (9 : Int32) = nI 9 := rfl
  have l81 : (81 : Int32) = nI 81 := rfl
  induction r with
  | zero =>
    intro x n A V e hn _ _ h
    obtain ⟨n, rfl⟩ : ∃ n', n = n' + 1 := ⟨n - 1, by omega⟩
    refine ⟨V, ?_, ?_, y_fr_refl⟩
    · rw [fX3_putAll_l2, if_pos (show (729 : Int32) ≤ nI x from nI_le (a := 729) (by omega) (by omega))]
    · rw [show (List.range' x 0).filter _ = [] from rfl, List.append_nil]; exact h
  | succ r ih =>
    intro x n A V e hn hlt h7 h
    obtain ⟨n, rfl⟩ : ∃ n', n = n' + 1 := ⟨n - 1, by omega⟩
    have one : ∀ a : Nat, a ≤ 8 → ∀ (f : Int32 → Option zV), (if nI a ≤ 0 then f 0 else f 1) = f (nI (min a 1)) := by
      intro a ha f
      by_cases q : a = 0
      · subst q; rw [if_pos (show nI 0 ≤ (0 : Int32) from nI_le (b := 0) (Nat.le_refl _) (by decide))]; rfl
      · rw [if_neg (nI_nle (by omega) (by omega)), show min a 1 = 1 by omega]; rfl
    have step : ∀ (k2 : zV → zV → Int32 → Option zV) (t : Int32), t = nI (y_cnt x) → ∀ s0 s1 : Int32, s0 + s1 = t → fX3_putAll_b57 F k2 T V (nI x) (nI (x / 81)) (nI (x / 9 % 9)) (nI (x % 9)) s0 s1 = if x / 81 ≤ y_many T 4 ∧ x / 9 % 9 ≤ x / 81 ∧ x % 9 ≤ x / 9 % 9 ∧ y_cnt x = p then zbd (fX3_put F V (nI x)) fun q5 => fX3_putAll_b98 F k2 T q5 (nI x) else fX3_putAll_b98 F k2 T V (nI x) := by
      intro k2 t ht s0 s1 hs
      have hcl : y_cnt x ≤ 3 := by unfold y_cnt; omega
      unfold fX3_putAll_b57
      rw [show ((4 : Int32)).toNatClampNeg = 4 from rfl, hw.1, hs, ht, h7]
      by_cases q1 : x / 81 ≤ y_many T 4
      · rw [if_neg (nI_nlt (by omega) (by omega))]
        by_cases q2 : x / 9 % 9 ≤ x / 81
        · rw [if_neg (nI_nlt (by omega) (by omega))]
          by_cases q3 : x % 9 ≤ x / 9 % 9
          · rw [if_neg (nI_nlt (by omega) (by omega))]
            by_cases q4 : y_cnt x = p
            · rw [if_pos (by rw [q4]), if_pos ⟨q1, q2, q3, q4⟩]
            · rw [if_neg (by rw [nI_eq (by omega) (by omega)]; exact q4), if_neg (fun z => q4 z.2.2.2)]
          · rw [if_pos (nI_lt (by omega) (by omega)), if_neg (fun z => q3 z.2.2.1)]
        · rw [if_pos (nI_lt (by omega) (by omega)), if_neg (fun z => q2 z.2.1)]
      · rw [if_pos (nI_lt (by omega) (by omega)), if_neg (fun z => q1 z.1)]
    rw [fX3_putAll_l2, if_neg (show ¬ (729 : Int32) ≤ nI x from nI_ge (b := 729) (by omega) (by decide)), y_let, y_let, y_let, l9, l81, pk_div (by omega) (by decide) (by decide), pk_rem (by omega) (by decide) (by decide), pk_div (by omega) (by decide) (by decide), pk_rem (by omega) (by decide) (by decide)]
    rw [one (x / 81) (by omega) (fun z => fX3_putAll_b37 F (fX3_putAll_l2 F n) T V (nI x) (nI (x / 81)) (nI (x / 9 % 9)) (nI (x % 9)) z), fX3_putAll_b37, one (x / 9 % 9) (by omega) (fun z => fX3_putAll_b46 F (fX3_putAll_l2 F n) T V (nI x) (nI (x / 81)) (nI (x / 9 % 9)) (nI (x % 9)) (nI (min (x / 81) 1)) z), fX3_putAll_b46, one (x % 9) (by omega) (fun z => fX3_putAll_b57 F (fX3_putAll_l2 F n) T V (nI x) (nI (x / 81)) (nI (x / 9 % 9)) (nI (x % 9)) (nI (min (x / 81) 1) + nI (min (x / 9 % 9) 1)) z)]
    rw [step _ (nI (y_cnt x)) rfl _ _ (by rw [nI_add, nI_add]; rfl), List.range'_succ, List.filter_cons]
    by_cases q : x / 81 ≤ y_many T 4 ∧ x / 9 % 9 ≤ x / 81 ∧ x % 9 ≤ x / 9 % 9 ∧ y_cnt x = p
    · rw [if_pos q, if_pos (by simpa using q)]
      have hxA : ¬ x ∈ A := fun z => by have := hlt x z; omega
      obtain ⟨V1, e1, e2, e3⟩ := c_put (F := F) hP hp hj h (c := some x) (fun d hd => by cases hd; exact ⟨by omega, q⟩)
      rw [show nI x = y_o (some x) from rfl, e1, y_bd, fX3_putAll_b98, show y_o (some x) + 1 = nI (x + 1) from nI_1 x]
      rw [y_put_new hxA] at e2
      obtain ⟨V2, g1, g2, g3⟩ := ih (x + 1) n _ V1 (by omega) (by omega) (fun c hc => by
        rcases List.mem_append.mp hc with z | z
        · have := hlt c z; omega
        · rw [List.mem_singleton] at z; omega) (by rw [e3.1 14 7 (by decide)]; exact h7) e2
      rw [List.append_assoc] at g2
      exact ⟨V2, g1, g2, y_fr_trans e3 g3⟩
    · rw [if_neg q, if_neg (by simpa using q), fX3_putAll_b98, nI_1]
      exact ih (x + 1) n A V (by omega) (by omega) (fun c hc => by have := hlt c hc; omega) h7 h
theorem c_move {w : Bool} {k p s : Nat} {L : List Nat} {lost : Int32} {V : zV} (hF : 2000 ≤ F) (hw : y_ww T) (hk : k + 1 < 2 ^ 31) (hp : p ≤ 3) (h7 : zI V 14 7 = nI p) (h : y_lay w k T p L lost V) :
    ∃ V', fX3_moveBallBy F T V (nI s) = some V' ∧ zI V' 14 7 = nI p ∧ y_lay w (k + 1) T p (if y_by T s = [] then L else if y_lBy T L s = [] then y_all (y_many T 4) p else y_spr T 121 0 (y_lBy T L s)) (if y_by T s = [] then lost else if y_lBy T L s = [] then lost + 1 else lost) V' ∧ y_fr y_l7 y_la V V' := by
  unfold fX3_moveBallBy
  cases w with
  | false =>
    obtain ⟨h1, h2, h3, h4⟩ := y_lay0_pn h
    rw [zchk_t h1, h3, if_pos (show nI 0 = (0 : Int32) from rfl)]
    exact ⟨V, rfl, h7, h, y_fr_refl⟩
  | true =>
    obtain ⟨⟨j, hj, hy⟩, hn, hg, hz, hl⟩ := h
    have hpn := y_pN hy
    have hP := hw.2.1
    have hW := hw.2.2.2.1
    have eb : y_by T s = (List.range' 0 (y_many T 5)).filter fun w => zA T 8 w = nI s := by unfold y_by; rw [List.range_eq_range']
    rw [zchk_t hpn.2.2.2.2.2.1, hpn.1, if_neg (by decide)]
    rcases c_by0 (F := F) (s := s) hF hw hp (by omega) hn hg hy (y_many T 5) 0 F (by omega) (by omega) with ⟨q1, q2⟩ | ⟨q1, V1, q2, q3, q4⟩
    · rw [← eb] at q1
      rw [if_pos q1, if_pos q1]
      exact ⟨V, q2, h7, ⟨⟨j, by omega, hy⟩, hn, hg, hz, hl⟩, y_fr_refl⟩
    · rw [← eb] at q1 q3
      rw [if_neg q1, if_neg q1]
      have h71 : zI V1 14 7 = nI p := by rw [q4.1 14 7 (by decide)]; exact h7
      have h81 : zI V1 14 8 = lost := by rw [q4.1 14 8 (by decide)]; exact hl
      have hP1 : ¬ y_many T 4 = 0 := by
        intro z
        apply q1
        rw [eb]
        have : y_many T 5 = 0 := by
          rcases Nat.eq_zero_or_pos (y_many T 5) with a | a
          · exact a
          · obtain ⟨f, t, hf, -⟩ := hw.2.2.2.2 0 a; omega
        rw [this]; rfl
      have q2' : fX3_moveBallBy_l13 F F T V (nI s) 0 0 = fX3_moveBallBy_b87 F T V1 1 := q2
      rw [q2', fX3_moveBallBy_b87, if_neg (by decide), q3.1.2.2.2.1]
      by_cases qe : y_lBy T L s = []
      · have qe' : (y_by T s).foldl (fun A w => y_mvA L A (y_way T w).1 (y_way T w).2) [] = [] := qe
        rw [qe'] at q3
        rw [if_pos qe, if_pos qe, qe', if_pos (show nI ([] : List Nat).length = 0 from rfl), y_let, h81]
        have f1 : y_fr [(14, 8)] [] V1 (zsI V1 14 8 (lost + 1)) := y_fr_I y_fr_refl (by decide)
        have q3' : y_lp (y_many T 4) p (j + 1) [] L (zsI V1 14 8 (lost + 1)) := ⟨y_ly_fr q3.1 f1 (by decide) (by decide), q3.2⟩
        obtain ⟨V2, g1, g2, g3⟩ := c_all (F := F) hF hw hp (by omega) 729 0 F [] _ (by omega) (by omega) (fun c hc => absurd hc List.not_mem_nil) (by rw [f1.1 14 7 (by decide)]; exact h71) q3'
        rw [fX3_putAll, show (0 : Int32) = nI 0 from rfl, g1, y_bd]
        rw [List.nil_append, ← List.range_eq_range'] at g2
        refine ⟨V2, rfl, ?_, ⟨⟨j + 1, by omega, g2.1⟩, g2.2.2.1, g2.2.2.2, fun z => absurd z hP1, ?_⟩, ?_⟩
        · rw [g3.1 14 7 (by decide), f1.1 14 7 (by decide)]; exact h71
        · rw [g3.1 14 8 (by decide)]; rfl
        · exact y_fr_trans (y_fr_mono q4 (by decide) (by decide)) (y_fr_trans (y_fr_mono f1 (by decide) (by decide)) (y_fr_mono g3 (by decide) (by decide)))
      · rw [if_neg qe, if_neg qe, if_neg (fun z => qe (by
          have h1 := y_gd_len hP hp q3.2.2.1 q3.2.2.2
          have h2 := (nI_eq (b := 0) (by omega) (by decide)).mp z
          exact List.length_eq_zero_iff.mp h2)), fX3_moveBallBy_b115, if_neg (by decide)]
        obtain ⟨V2, g1, g2, g3⟩ := c_spread (F := F) hF hw hp (by omega) q3
        rw [g1, y_bd]
        refine ⟨V2, rfl, ?_, ⟨⟨j + 1, by omega, g2.1⟩, g2.2.2.1, g2.2.2.2, fun z => absurd z hP1, ?_⟩, ?_⟩
        · rw [g3.1 14 7 (by decide)]; exact h71
        · rw [g3.1 14 8 (by decide)]; exact h81
        · exact y_fr_trans (y_fr_mono q4 (by decide) (by decide)) (y_fr_mono g3 (by decide) (by decide))
theorem y_lz_fr {w : Bool} {k : Nat} {sc : List (Nat × Nat)} {ar : List Nat} {A : List Nat} {V V' : zV} (h : y_lz w k A V) (f : y_fr sc ar V V') (h1 : ∀ q ∈ y_ls, q ∉ sc) (h2 : ∀ r ∈ y_la, r ∉ ar) : y_lz w k A V' := by
  obtain ⟨hp, h⟩ := h
  have e1 : zP V' 14 1 = zP V 14 1 := f.2.2.2.2.2 14 1 (h1 _ (by decide))
  have e2 : zP V' 14 2 = zP V 14 2 := f.2.2.2.2.2 14 2 (h1 _ (by decide))
  have hp1 : zP V 14 1 = 15 ∨ zP V 14 1 = 16 := by rcases hp with q | q <;> simp [q.1]
  refine ⟨by unfold y_PP; rw [e1, e2]; exact hp, ?_⟩
  cases w with
  | false => exact ⟨(f.2.2.2.2.1 _).trans h.1, (f.2.2.2.2.1 _).trans h.2.1, (f.2.2.2.2.1 _).trans h.2.2⟩
  | true =>
    obtain ⟨hl, ⟨n1, n2, n3⟩, a4, a5, hk, hm⟩ := h
    refine ⟨hl, ⟨(f.2.2.2.2.1 _).trans n1, (f.2.2.2.2.1 _).trans n2, (f.2.2.2.2.1 _).trans n3⟩, (f.1 14 4 (h1 _ (by decide))).trans a4, (f.1 14 5 (h1 _ (by decide))).trans a5, fun i c hc => ?_, fun c hc => ?_⟩
    · rw [e1, f.2.1 (zP V 14 1) (h2 _ (by rcases hp1 with q | q <;> rw [q] <;> decide))]
      exact hk i c hc
    · rw [f.2.1 17 (h2 _ (by decide))]
      exact hm c hc
theorem y_lay_lz {w : Bool} {b p : Nat} {A : List Nat} {lost : Int32} {V : zV} (hw : y_ww T) (hp : p ≤ 3) (h : y_lay w b T p A lost V) : ∃ k, k ≤ b ∧ y_lz w k A V := by
  cases w with
  | false => exact ⟨b, Nat.le_refl _, h.1, h.2⟩
  | true =>
    obtain ⟨⟨j, hj, hy⟩, hn, hg, -⟩ := h
    exact ⟨j, hj, y_lz_of hw.2.1 hp hy hn hg⟩
theorem c_clear {w : Bool} {k : Nat} {L : List Nat} {V : zV} (hw : y_ww T) (hk : k + 1 < 2 ^ 31) (h : y_lz w k L V) :
    ∃ V', fX3_clear F T V = some V' ∧ zI V' 14 7 = nI 0 ∧ y_lay w (k + 1) T 0 (if y_many T 4 = 0 then [] else [0]) 0 V' ∧ y_fr y_l7 y_la V V' := by
  have hP := hw.2.1
  unfold fX3_clear
  rw [y_let, y_let]
  have f0 : y_fr [(14, 7), (14, 8)] [] V (zsI (zsI V 14 7 0) 14 8 0) := y_fr_I (y_fr_I y_fr_refl (by decide)) (by decide)
  have f1' : y_fr y_l7 y_la V (zsI (zsI V 14 7 0) 14 8 0) := y_fr_mono f0 (by decide) (by decide)
  have h0 := y_lz_fr h f0 (by decide) (by decide)
  cases w with
  | false =>
    obtain ⟨V1, e1, e2, e3⟩ := c_turn0 (F := F) (T := T) (k' := k + 1) (p' := 0) (A' := if y_many T 4 = 0 then [] else [0]) (lost' := 0) ⟨h0.1, h0.2⟩
    rw [e1, y_bd, show ((4 : Int32)).toNatClampNeg = 4 from rfl, hw.1]
    refine ⟨V1, ?_, ?_, e2, y_fr_trans f1' (y_fr_mono e3 (by decide) (by decide))⟩
    · by_cases q : nI (y_many T 4) ≤ 0
      · rw [if_pos q]
      · rw [if_neg q, c_put0 e2, y_bd]
    · rw [e3.1 14 7 (by decide)]; rfl
  | true =>
    obtain ⟨V1, e1, e2, e3⟩ := c_turn (F := F) (P := y_many T 4) hk h0
    have e70 : zI V1 14 7 = nI 0 := by rw [e3.1 14 7 (by decide)]; rfl
    have e80 : zI V1 14 8 = 0 := by rw [e3.1 14 8 (by decide)]; rfl
    rw [e1, y_bd, show ((4 : Int32)).toNatClampNeg = 4 from rfl, hw.1]
    by_cases q : y_many T 4 = 0
    · rw [if_pos q, q, if_pos (show nI 0 ≤ (0 : Int32) from nI_le (b := 0) (Nat.le_refl _) (by decide))]
      exact ⟨V1, rfl, e70, ⟨⟨k + 1, by omega, (e2 0).1⟩, List.nodup_nil, fun _ z => absurd z List.not_mem_nil, fun _ => rfl, e80⟩, y_fr_trans f1' (y_fr_mono e3 (by decide) (by decide))⟩
    · rw [if_neg q, if_neg (nI_nle (by omega) (by omega))]
      obtain ⟨V2, g1, g2, g3⟩ := c_put (F := F) hP (show 0 ≤ 3 by omega) (by omega) (e2 0) (c := some 0) (fun d hd => by cases hd; exact ⟨by decide, Nat.zero_le _, by decide, by decide, by decide⟩)
      have g1' : fX3_put F V1 0 = some V2 := g1
      rw [g1', y_bd]
      refine ⟨V2, rfl, ?_, ⟨⟨k + 1, by omega, g2.1⟩, g2.2.2.1, g2.2.2.2, fun z => absurd z q, ?_⟩, y_fr_trans (y_fr_trans f1' (y_fr_mono e3 (by decide) (by decide))) (y_fr_mono g3 (by decide) (by decide))⟩
      · rw [g3.1 14 7 (by decide)]; exact e70
      · rw [g3.1 14 8 (by decide)]; exact e80
end
