/-! ===== the class's acts and rules ===== -/
section
variable {F : Nat} {T : zV} {w : Bool} {b : Nat} {S : y_S} {V : zV}
theorem c_offsl (hw : y_wm T) : ∀ (r i n b : Nat) (S : y_S) (V : zV), i + r = y_many T 7 → r + 1 ≤ n → y_rb w b T S V →
    ∃ V', fX4_turnOffAllButFirst_l2 F n T V (nI i) = some V' ∧ y_rb w (b + r) T ((List.range' i r).foldl (fun S m => (y_off S m).2) S) V' := by
  intro r
  have h7 := hw.1.2
  induction r with
  | zero =>
    intro i n b S V e hn h
    obtain ⟨n, rfl⟩ : ∃ n', n = n' + 1 := ⟨n - 1, by omega⟩
    refine ⟨V, ?_, h⟩
    rw [fX4_turnOffAllButFirst_l2, show ((7 : Int32)).toNatClampNeg = 7 from rfl, hw.1.1, if_pos (nI_le (by omega) (by omega))]
  | succ r ih =>
    intro i n b S V e hn h
    obtain ⟨n, rfl⟩ : ∃ n', n = n' + 1 := ⟨n - 1, by omega⟩
    obtain ⟨V1, e1, e2⟩ := c_off (F := F) (m := i) hw (by omega) h
    obtain ⟨V2, g1, g2⟩ := ih (i + 1) n (b + 1) _ V1 (by omega) (by omega) e2
    rw [fX4_turnOffAllButFirst_l2, show ((7 : Int32)).toNatClampNeg = 7 from rfl, hw.1.1, if_neg (nI_ge (by omega) (by omega)), e1, y_bd, nI_1, List.range'_succ]
    exact ⟨V2, g1, y_rb_mono g2 (by omega)⟩
theorem c_offs (hF : 2000 ≤ F) (hw : y_wm T) (h : y_rb w b T S V) : ∃ V', fX4_turnOffAllButFirst F T V = some V' ∧ y_rb w (b + 12) T (y_offs T S) V' := by
  have h7 := hw.1.2
  unfold fX4_turnOffAllButFirst y_offs
  rcases Nat.eq_zero_or_pos (y_many T 7) with q | q
  · obtain ⟨n, rfl⟩ : ∃ n', F = n' + 1 := ⟨F - 1, by omega⟩
    refine ⟨V, ?_, ?_⟩
    · rw [fX4_turnOffAllButFirst_l2, show ((7 : Int32)).toNatClampNeg = 7 from rfl, hw.1.1, q, if_pos (by decide)]
    · rw [q]; exact y_rb_mono h (by omega)
  · obtain ⟨V1, e1, e2⟩ := c_offsl (F := F) hw (y_many T 7 - 1) 1 F b S V (by omega) (by omega) h
    exact ⟨V1, e1, y_rb_mono e2 (by omega)⟩
theorem c_placel (h : y_rb w b T S V) (hl : S.2.2.2.length ≤ 8) {c : Nat} (hc : c < 2 ^ 31) (hs : ∀ d ∈ S.2.2.2, d < 2 ^ 31) : ∀ (l pre : List Nat) (n : Nat), S.2.2.2 = pre ++ l → l.length + 1 ≤ n → ¬ c ∈ pre →
    fX0_placeInRow_l2 F n V (nI c) (nI pre.length) = some (if c ∈ S.2.2.2 then nI (S.2.2.2.idxOf c) else -1) := by
  intro l
  induction l with
  | nil =>
    intro pre n e hn hp
    obtain ⟨n, rfl⟩ : ∃ n', n = n' + 1 := ⟨n - 1, by omega⟩
    rw [List.append_nil] at e
    rw [fX0_placeInRow_l2, h.2.1.1, e, if_pos (nI_le (Nat.le_refl _) (by rw [← e]; omega)), if_neg hp]
  | cons d l ih =>
    intro pre n e hn hp
    obtain ⟨n, rfl⟩ : ∃ n', n = n' + 1 := ⟨n - 1, by omega⟩
    have hlen : S.2.2.2.length = pre.length + (l.length + 1) := by rw [e, List.length_append]; rfl
    have hd : S.2.2.2[pre.length]? = some d := by rw [e, List.getElem?_append_right (Nat.le_refl _), Nat.sub_self]; rfl
    have hd31 := hs d (List.mem_of_getElem? hd)
    rw [fX0_placeInRow_l2, h.2.1.1, if_neg (nI_ge (by omega) (by omega)), if_neg (show ¬ (8 : Int32) ≤ nI pre.length from nI_ge (b := 8) (by omega) (by decide)), y_ck (by omega) (by decide), nI_clamp (by omega), h.2.1.2 _ _ hd]
    by_cases q : d = c
    · subst q
      rw [if_pos rfl, if_pos (List.mem_of_getElem? hd)]
      congr 2
      rw [e, List.idxOf_append, if_neg hp, List.idxOf_cons_self]; omega
    · rw [if_neg (by rw [nI_eq hd31 hc]; exact q), nI_1]
      have := ih (pre ++ [d]) n (by rw [e, List.append_assoc]; rfl) (by simpa using hn) (by
        rw [List.mem_append, List.mem_singleton]
        rintro (z | z)
        · exact hp z
        · exact q z.symm)
      rw [List.length_append] at this
      exact this
theorem c_place (hF : 2000 ≤ F) (h : y_rb w b T S V) (hl : S.2.2.2.length ≤ 8) {c : Nat} (hc : c < 2 ^ 31) (hs : ∀ d ∈ S.2.2.2, d < 2 ^ 31) : fX0_placeInRow F V (nI c) = some (if c ∈ S.2.2.2 then nI (S.2.2.2.idxOf c) else -1) :=
  c_placel h hl hc hs S.2.2.2 [] F rfl (by omega) List.not_mem_nil
theorem y_row_len (hw : y_wm T) (h : y_rb w b T S V) : S.2.2.2.length ≤ y_many T 1 := by
  have h1 := h.2.2.2.1.2.1
  have := y_sub_len S.2.2.2 (List.range (y_many T 1)) h1.1 fun x hx => List.mem_range.mpr (h1.2 x hx)
  rw [List.length_range] at this
  exact this
theorem c_await (hF : 2000 ≤ F) (hw : y_wm T) {c : Nat} (hc : c < y_many T 1) (h : y_rb w b T S V) : ∃ V', fX0_await F T V (nI c) = some V' ∧ y_rb w b T (y_await S c) V' := by
  have h8 := hw.2.1.2
  have hlen := y_row_len hw h
  have hrow := h.2.2.2.1.2.1
  unfold fX0_await y_await
  have hh : fX9_has F T 1 (nI c) = some 1 := (c_has (k := 1) (by decide) hw.2.1.1 (by omega) (by omega)).trans (by rw [if_pos hc])
  rw [hh, y_bd, if_neg (show ¬ (1 : Int32) = 0 by decide), h.2.1.1]
  by_cases q8 : 8 ≤ S.2.2.2.length
  · rw [if_pos (show (8 : Int32) ≤ nI S.2.2.2.length from nI_le (a := 8) q8 (by omega)), if_pos q8]
    exact ⟨V, rfl, h⟩
  · rw [if_neg (show ¬ (8 : Int32) ≤ nI S.2.2.2.length from nI_ge (b := 8) (by omega) (by decide)), if_neg q8, c_place hF h (by omega) (by omega) (fun d hd => by have := hrow.2 d hd; omega), y_bd]
    by_cases qm : c ∈ S.2.2.2
    · have : S.2.2.2.idxOf c < S.2.2.2.length := List.idxOf_lt_length_of_mem qm
      rw [if_pos qm, if_pos qm, if_neg (fun z => by
        have g := nI_pos (n := S.2.2.2.idxOf c) (by omega)
        rw [z] at g
        exact g (by decide))]
      exact ⟨V, rfl, h⟩
    · rw [if_neg qm, if_neg qm, if_pos rfl, y_ck (by omega) (by decide), y_let, y_let, nI_clamp (by omega)]
      obtain ⟨g1, g2, g3, ⟨a1, a2, a3⟩, p, hp, g5, g6⟩ := h
      have f : y_fr [(10, 4)] [13] V (zsI (zsA V 13 (upd (zA V 13) S.2.2.2.length (nI c))) 10 4 (zI (zsA V 13 (upd (zA V 13) S.2.2.2.length (nI c))) 10 4 + 1)) := y_fr_I (y_fr_A y_fr_refl (by decide)) (by decide)
      refine ⟨_, rfl, y_sim_1 (y_sim_fr g1 f (by decide) (by decide)) rfl, ⟨?_, fun i d hd => ?_⟩, (f.1 18 6 (by decide)).trans g3, ⟨a1, ⟨?_, fun d hd => ?_⟩, a3⟩, p, hp, g5, y_lay_fr g6 f (by decide) (by decide) (by decide)⟩
      · show zI V 10 4 + 1 = nI (S.2.2.2 ++ [c]).length
        rw [g2.1, nI_1, List.length_append]; rfl
      · show upd (zA V 13) S.2.2.2.length (nI c) i = nI d
        have hd' : (S.2.2.2 ++ [c])[i]? = some d := hd
        rw [y_upd]
        by_cases q : i = S.2.2.2.length
        · subst q
          rw [List.getElem?_append_right (Nat.le_refl _), Nat.sub_self] at hd'
          cases hd'
          rw [if_pos rfl]
        · have : i < (S.2.2.2 ++ [c]).length := (List.getElem?_eq_some_iff.mp hd').1
          rw [List.length_append] at this
          have : i < S.2.2.2.length := by
            have : i < S.2.2.2.length + 1 := this
            omega
          rw [List.getElem?_append_left this] at hd'
          rw [if_neg q]
          exact g2.2 i d hd'
      · show (S.2.2.2 ++ [c]).Nodup
        rw [List.nodup_append]
        refine ⟨a2.1, List.nodup_cons.mpr ⟨List.not_mem_nil, List.nodup_nil⟩, ?_⟩
        intro x hx y hy
        rw [List.mem_singleton] at hy
        subst hy
        rintro rfl
        exact qm hx
      · rcases List.mem_append.mp hd with z | z
        · exact a2.2 d z
        · rw [List.mem_singleton] at z; rw [z]; exact hc
theorem c_gain {x : Int32} (h : y_rb w b T S V) : ∃ V', fX1_gain F V x = some V' ∧ y_rb w b T (y_gain S x) V' := by
  unfold fX1_gain y_gain
  rw [y_rb_at h (r := 0) (k := 12) (by decide), show zL V 0 8 = y_P S from h.1.2.2]
  by_cases q : y_I S 0 12 = 0
  · rw [if_pos q, if_pos q, y_let]
    exact ⟨_, rfl, y_rb_P h⟩
  · rw [if_neg q, if_neg q]
    exact ⟨V, rfl, h⟩
theorem c_assign {v : Nat} {x : Int32} (hv : v < 16) (h : y_rb w b T S V) : ∃ V', fX1_assign F V (nI v) x = some V' ∧ y_rb w b T (y_sR S 1 v x) V' := by
  unfold fX1_assign
  rw [if_neg (nI_pos (by omega)), if_neg (show ¬ (16 : Int32) ≤ nI v from nI_ge (b := 16) hv (by decide)), y_ck hv (by decide), y_let, nI_clamp (by omega)]
  exact ⟨_, rfl, y_rb_A h (by decide)⟩
/-- behind a change of layouts -/
theorem y_rb_lay {p p' : Nat} {V' : zV} {L' : List Nat} {lost' : Int32} (h : y_rb w b T S V) (hp : y_I S 14 7 = nI p) (hp' : p' ≤ 3) (e7 : zI V' 14 7 = nI p') (hl : y_lay w (b + 1) T p' L' lost' V') (f : y_fr y_l7 y_la V V') :
    y_rb w (b + 1) T (zsI S.1 14 7 (nI p'), L', lost', S.2.2.2) V' := by
  obtain ⟨g1, g2, g3, ⟨a1, a2, a3⟩, q, hq, g5, g6⟩ := h
  refine ⟨⟨fun z hz => ?_, fun r hr i hi => ?_, ?_⟩, ⟨(f.1 10 4 (by decide)).trans g2.1, fun i c hc => (congrFun (f.2.1 13 (by decide)) i).trans (g2.2 i c hc)⟩, (f.1 18 6 (by decide)).trans g3, ⟨a1, a2, fun m hm => ?_⟩, p', hp', rfl, hl⟩
  · show zI V' z.1 z.2 = if z.1 = 14 ∧ z.2 = 7 then nI p' else zI S.1 z.1 z.2
    by_cases e : z.1 = 14 ∧ z.2 = 7
    · rw [if_pos e, e.1, e.2]; exact e7
    · rw [if_neg e, f.1 z.1 z.2]
      · exact g1.1 z hz
      · intro hm
        exact (show ∀ z ∈ y_sc, ¬ (z.1 = 14 ∧ z.2 = 7) → z ∉ y_l7 by decide) z hz e hm
  · rw [f.2.1 r ((show ∀ r ∈ y_an, r ∉ y_la by decide) r hr)]
    exact g1.2.1 r hr i hi
  · exact (f.2.2.1 0 8).trans g1.2.2
  · obtain ⟨j, hj, e⟩ := a3 m hm
    exact ⟨j, by omega, e⟩
theorem y_set7 {p : Nat} (h : y_I S 14 7 = nI p) : ((zsI S.1 14 7 (nI p), S.2) : y_S).1 = S.1 := by
  show (_, _) = S.1
  have : (fun a b => if a = 14 ∧ b = 7 then nI p else S.1.1 a b) = S.1.1 := by
    funext a b
    by_cases e : a = 14 ∧ b = 7
    · rw [if_pos e, e.1, e.2]; exact h.symm
    · rw [if_neg e]
  rw [this]
theorem c_take' (hF : 2000 ≤ F) (hw : y_ww T) (hb : b + 1 < 2 ^ 31) (h : y_rb w b T S V) : ∃ V', fX3_takeBall F T V = some V' ∧ y_rb w (b + 1) T (y_take T S) V' := by
  obtain ⟨p, hp, hip, hlay⟩ := h.2.2.2.2
  obtain ⟨V1, e1, e2, e3, e4⟩ := c_take (F := F) hF hw hb hp ((y_rb_at h (r := 14) (k := 7) (by decide)).trans hip) hlay
  refine ⟨V1, e1, ?_⟩
  have g := y_rb_lay h hip (p' := if p = 3 then 3 else p + 1) (by split <;> omega) e2 e3 e4
  unfold y_take
  rw [hip]
  by_cases q : p = 3
  · subst q
    rw [if_pos rfl, if_pos rfl] at g
    rw [if_pos (show (3 : Int32) ≤ nI 3 from nI_le (a := 3) (Nat.le_refl _) (by decide))]
    have e := y_set7 hip
    rw [show ((zsI S.1 14 7 (nI 3), S.2.1, S.2.2.1, S.2.2.2) : y_S) = S from Prod.ext e rfl] at g
    exact g
  · rw [if_neg q, if_neg q] at g
    rw [if_neg (show ¬ (3 : Int32) ≤ nI p from nI_ge (b := 3) (by omega) (by decide)), nI_1]
    exact g
theorem c_drop' (hF : 2000 ≤ F) (hw : y_ww T) (hb : b + 1 < 2 ^ 31) (h : y_rb w b T S V) : ∃ V', fX3_dropBall F T V = some V' ∧ y_rb w (b + 1) T (y_drop T S) V' := by
  obtain ⟨p, hp, hip, hlay⟩ := h.2.2.2.2
  obtain ⟨V1, e1, e2, e3, e4⟩ := c_drop (F := F) hF hw hb hp ((y_rb_at h (r := 14) (k := 7) (by decide)).trans hip) hlay
  refine ⟨V1, e1, ?_⟩
  have g := y_rb_lay h hip (p' := p - 1) (by omega) e2 e3 e4
  unfold y_drop
  rw [hip]
  cases p with
  | zero =>
    rw [if_pos rfl] at g
    rw [if_pos (show nI 0 ≤ (0 : Int32) from nI_le (b := 0) (Nat.le_refl _) (by decide))]
    have e := y_set7 hip
    rw [show ((zsI S.1 14 7 (nI (0 - 1)), S.2.1, S.2.2.1, S.2.2.2) : y_S) = S from Prod.ext e rfl] at g
    exact g
  | succ p =>
    rw [if_neg (by omega)] at g
    rw [if_neg (nI_nle (by omega) (by omega)), nI_pred]
    exact g
theorem c_move' {s : Nat} (hF : 2000 ≤ F) (hw : y_ww T) (hb : b + 1 < 2 ^ 31) (h : y_rb w b T S V) : ∃ V', fX3_moveBallBy F T V (nI s) = some V' ∧ y_rb w (b + 1) T (y_move T S s) V' := by
  obtain ⟨p, hp, hip, hlay⟩ := h.2.2.2.2
  obtain ⟨V1, e1, e2, e3, e4⟩ := c_move (F := F) (s := s) hF hw hb hp ((y_rb_at h (r := 14) (k := 7) (by decide)).trans hip) hlay
  refine ⟨V1, e1, ?_⟩
  have g := y_rb_lay h hip hp e2 e3 e4
  have e := y_set7 hip
  have e' : zsI S.1 14 7 (nI p) = S.1 := e
  rw [e'] at g
  unfold y_move
  by_cases q1 : y_by T s = []
  · rw [if_pos q1, if_pos q1] at g
    rw [if_pos q1]; exact g
  · rw [if_neg q1, if_neg q1] at g
    rw [if_neg q1]
    cases q2 : y_lBy T S.2.1 s with
    | nil =>
      rw [q2, if_pos rfl, if_pos rfl] at g
      dsimp only
      rw [hip, nI_clamp (by omega)]
      exact g
    | cons c l =>
      rw [q2, if_neg (by simp), if_neg (by simp)] at g
      exact g
end
