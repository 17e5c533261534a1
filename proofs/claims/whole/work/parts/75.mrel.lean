/-! ===== the reference's table and game, and a state ===== -/
/-- the acts' words: the class's 16 to 24 are the reference's 35 to 43 -/
def y_ma (T : zV) (V : zV) (a : Nat) (x : y_A) : Prop := zA V 31 a = nI (x.1 + 19) ∧ 16 ≤ x.1 ∧ x.1 ≤ 24 ∧
  ((x.1 = 17 ∨ x.1 = 18 ∨ x.1 = 20) → zA V 32 a = nI x.2.1) ∧
  ((x.1 = 16 ∨ x.1 = 17) → ∃ lo hi : Nat, lo ≤ hi ∧ hi ≤ 2400 ∧ zA V 33 a = nI lo ∧ zA V 34 a = nI hi ∧ ∀ vars left ip, y_mE V vars left ip lo hi = some (x.2.2 vars left ip)) ∧
  ((x.1 = 17 → x.2.1 < 16) ∧ ((x.1 = 16 ∨ x.1 = 17) → ∀ vars vars' left ip, (∀ j, j < y_many T 6 → vars j = vars' j) → x.2.2 vars left ip = x.2.2 vars' left ip))
def y_mru (T : zV) (lv : Nat) (V : zV) (r : Nat) : Prop := zA V 24 (80 * lv + r) = zA T 17 r ∧
  (∃ lo hi : Nat, lo ≤ hi ∧ hi ≤ 800 ∧ zA V 25 (81 * lv + r) = nI lo ∧ zA V 25 (81 * lv + r + 1) = nI hi ∧ (∀ j, lo ≤ j → j < hi → y_mk V j) ∧ (∀ vars left ip, y_mC V vars left ip (hi - lo) lo = y_cond T r vars left ip) ∧ ∀ vars vars' left ip, (∀ j, j < y_many T 6 → vars j = vars' j) → y_cond T r vars left ip = y_cond T r vars' left ip) ∧
  (∃ lo hi : Nat, lo ≤ hi ∧ hi ≤ 2000 ∧ zA V 26 (81 * lv + r) = nI lo ∧ zA V 26 (81 * lv + r + 1) = nI hi ∧ hi - lo = (y_ra T r).length ∧ ∀ i x, (y_ra T r)[i]? = some x → y_ma T V (lo + i) x)
def y_mt (T : zV) (lv : Nat) (V : zV) : Prop := (lv ≤ 1 ∧ zI V 0 18 = nI lv) ∧
  ((∀ k, k < 8 → zA V 8 (9 * lv + k) = zA T 1 k) ∧ zA V 8 (9 * lv + 8) = zI T 13 3) ∧
  (∀ m, m < y_many T 7 → zA V 21 (12 * lv + m) = zA T 10 m ∧ zA V 22 (12 * lv + m) = zA T 11 m) ∧
  (∀ m, m ≤ y_many T 7 ∧ 0 < y_many T 7 → zA V 23 (13 * lv + m) = zA T 16 m) ∧
  (∀ R, zI T 13 3 = nI R → R ≤ 80 → ∀ r, r < R → y_mru T lv V r) ∧
  ((∀ s, s < y_many T 0 → zA V 12 (16 * lv + s) = zA T 2 s) ∧ (∀ c, c < y_many T 1 → zA V 13 (8 * lv + c) = zA T 3 c) ∧ (∀ l, l < y_many T 3 → zA V 16 (16 * lv + l) = zA T 5 l) ∧ (∀ v, v < 16 → v < y_many T 6 → zA V 20 (16 * lv + v) = zA T 9 v)) ∧
  (∀ x, x < y_many T 5 → zA V 17 (24 * lv + x) = zA T 6 x ∧ zA V 18 (24 * lv + x) = zA T 7 x ∧ zA V 19 (24 * lv + x) = zA T 8 x) ∧
  ((∃ A, A ≤ 8 ∧ zA T 1 2 = nI A ∧ (∀ a, a < A → ∃ c d, c < y_many T 1 ∧ d < y_many T 1 ∧ zA V 14 (8 * lv + a) = nI c ∧ zA V 15 (8 * lv + a) = nI d) ∧
    ∀ c d, c < y_many T 1 → d < y_many T 1 → (y_apart T c d = true ↔ ∃ a, a < A ∧ ((zA V 14 (8 * lv + a) = nI c ∧ zA V 15 (8 * lv + a) = nI d) ∨ (zA V 14 (8 * lv + a) = nI d ∧ zA V 15 (8 * lv + a) = nI c)))))
def y_st : List Nat := [8, 12, 13, 14, 15, 16, 17, 18, 19, 20, 21, 22, 23, 24, 25, 26, 27, 28, 29, 30, 31, 32, 33, 34, 37, 38]
theorem y_mE_eq {V V' : zV} (h : ∀ r ∈ y_st, zA V' r = zA V r) {vars : Nat → Int32} {left ip : Int32} {lo hi : Nat} : y_mE V' vars left ip lo hi = y_mE V vars left ip lo hi := by
  unfold y_mE
  rw [h 37 (by decide), h 38 (by decide)]
theorem y_mC_eq {V V' : zV} (h : ∀ r ∈ y_st, zA V' r = zA V r) {vars : Nat → Int32} {left ip : Int32} : ∀ n k, y_mC V' vars left ip n k = y_mC V vars left ip n k := by
  intro n
  induction n with
  | zero => intro k; rfl
  | succ n ih =>
    intro k
    rw [y_mC, y_mC, ih]
    simp only [y_mE_eq h]
    rw [h 27 (by decide), h 28 (by decide), h 29 (by decide), h 30 (by decide)]
theorem y_ma_eq {T V V' : zV} (h : ∀ r ∈ y_st, zA V' r = zA V r) {a : Nat} {x : y_A} (g : y_ma T V a x) : y_ma T V' a x := by
  unfold y_ma at *
  simp only [y_mE_eq h]
  rw [h 31 (by decide), h 32 (by decide), h 33 (by decide), h 34 (by decide)]
  exact g
theorem y_mru_eq {T : zV} {lv : Nat} {V V' : zV} (h : ∀ r ∈ y_st, zA V' r = zA V r) {r : Nat} (g : y_mru T lv V r) : y_mru T lv V' r := by
  obtain ⟨g1, ⟨lo, hi, a1, a2, a3, a4, a5, a6⟩, ⟨lo2, hi2, b1, b2, b3, b4, b5, b6⟩⟩ := g
  refine ⟨by rw [h 24 (by decide)]; exact g1, ⟨lo, hi, a1, a2, by rw [h 25 (by decide)]; exact a3, by rw [h 25 (by decide)]; exact a4, fun j h1 h2 => ?_, ⟨fun vars left ip => (y_mC_eq h _ _).trans (a6.1 vars left ip), a6.2⟩⟩, ⟨lo2, hi2, b1, b2, by rw [h 26 (by decide)]; exact b3, by rw [h 26 (by decide)]; exact b4, b5, fun i x hx => y_ma_eq h (b6 i x hx)⟩⟩
  have := a5 j h1 h2
  unfold y_mk at *
  rw [h 27 (by decide), h 28 (by decide), h 29 (by decide), h 30 (by decide)]
  exact this
theorem y_mt_eq {T : zV} {lv : Nat} {V V' : zV} (g : y_mt T lv V) (h18 : zI V' 0 18 = zI V 0 18) (h : ∀ r ∈ y_st, zA V' r = zA V r) : y_mt T lv V' := by
  obtain ⟨g1, g2, g3, g4, g5, g6, g7, g8⟩ := g
  refine ⟨⟨g1.1, h18.trans g1.2⟩, by rw [h 8 (by decide)]; exact g2, by rw [h 21 (by decide), h 22 (by decide)]; exact g3, by rw [h 23 (by decide)]; exact g4, fun R hR hR2 r hr => y_mru_eq h (g5 R hR hR2 r hr), by rw [h 12 (by decide), h 13 (by decide), h 16 (by decide), h 20 (by decide)]; exact g6, by rw [h 17 (by decide), h 18 (by decide), h 19 (by decide)]; exact g7, by rw [h 14 (by decide), h 15 (by decide)]; exact g8⟩
theorem y_mt_fr {T : zV} {lv : Nat} {V V' : zV} {sc : List (Nat × Nat)} {ar : List Nat} (g : y_mt T lv V) (f : y_fr sc ar V V') (h1 : (0, 18) ∉ sc) (h2 : ∀ r ∈ y_st, r ∉ ar) : y_mt T lv V' := y_mt_eq g (f.1 0 18 h1) fun r hr => f.2.1 r (h2 r hr)
/-! layouts: two bits a place -/
def y_p4 (x : Nat) : Nat := if x = 0 then 0 else 4 ^ (x - 1)
def y_enc (c : Nat) : Nat := y_p4 (c / 81) + y_p4 (c / 9 % 9) + y_p4 (c % 9)
/-- closed under the silent ways -/
def y_cl (T : zV) (Q : Nat → Prop) : Prop := ∀ c, Q c → ∀ w ∈ y_silent T, ∀ d, y_mv c (y_way T w).1 (y_way T w).2 = some d → Q d
/-- the reference's known layouts, as codes C, against the state's L -/
def y_ml (T : zV) (p : Nat) (L : List Nat) (V : zV) : Prop :=
  (∃ C : List Nat, C.Nodup ∧ (∀ c, c ∈ C ↔ c ∈ L) ∧ zI V 0 59 = nI C.length ∧ ∀ i c, C[i]? = some c → zA V 40 i = nI (y_enc c)) ∧
  zI V 0 61 = 0 ∧ (∀ l, l < 65536 → zA V 42 l = 0) ∧ L.Nodup ∧ (∀ c ∈ L, y_gd (y_many T 4) p c) ∧ (y_many T 4 = 0 → L = []) ∧ y_cl T (fun c => c ∈ L)
def y_mrow : List (Nat × Nat × Nat) := [(1, 43, 16), (6, 44, 16), (7, 45, 16), (9, 48, 16), (11, 53, 8), (19, 49, 12), (20, 50, 12), (21, 51, 12), (22, 52, 12)]
def y_mnum : List (Nat × Nat × Nat) := [(0, 9, 66), (0, 10, 68), (0, 11, 70), (0, 12, 71), (14, 7, 67)]
/-- how many places of a row count: of variables as many as there are -/
def y_rn (T : zV) (q : Nat × Nat × Nat) : Nat := if q.1 = 1 then y_many T 6 else q.2.2
def y_mg (T : zV) (S : y_S) (V : zV) : Prop :=
  (∀ q ∈ y_mnum, zI V 0 q.2.2 = y_I S q.1 q.2.1) ∧ (∀ q ∈ y_mrow, ∀ i, i < y_rn T q → zA V q.2.1 i = y_R S q.1 i) ∧
  (∀ s, s < 16 → zA V 46 s = if y_R S 6 s = 0 then -1 else y_R S 8 s) ∧ (∀ c, c < 8 → zA V 54 c = if y_R S 11 c = 0 then -1 else y_R S 12 c) ∧
  zL V 0 65 = y_P S ∧ zI V 0 69 = S.2.2.1 ∧ (zI V 0 85 = nI S.2.2.2.length ∧ ∀ i c, S.2.2.2[i]? = some c → zA V 55 i = nI c) ∧ (∀ m, m < 12 → y_R S 19 m = 0 ∨ y_R S 19 m = 1) ∧ ∃ p, p ≤ 3 ∧ y_I S 14 7 = nI p ∧ y_ml T p S.2.1 V
/-- numbers and rows of the reference that show a state -/
def y_gs : List (Nat × Nat) := [(0, 66), (0, 68), (0, 70), (0, 71), (0, 67), (0, 69), (0, 85), (0, 59), (0, 61)]
def y_gr : List Nat := [43, 44, 45, 48, 53, 49, 50, 51, 52, 46, 54, 55, 40, 42]
section
variable {F : Nat} {T : zV} {lv : Nat} {S : y_S} {V V' : zV}
theorem y_ml_fr {sc : List (Nat × Nat)} {ar : List Nat} {p : Nat} {L : List Nat} (h : y_ml T p L V) (f : y_fr sc ar V V') (h1 : (0, 59) ∉ sc) (h2 : (0, 61) ∉ sc) (h3 : 40 ∉ ar) (h4 : 42 ∉ ar) : y_ml T p L V' := by
  obtain ⟨⟨M, a1, a2, a3, a4⟩, a6, a7, a8⟩ := h
  exact ⟨⟨M, a1, a2, (f.1 0 59 h1).trans a3, fun i l hl => (congrFun (f.2.1 40 h3) i).trans (a4 i l hl)⟩, (f.1 0 61 h2).trans a6, fun l hl => (congrFun (f.2.1 42 h4) l).trans (a7 l hl), a8⟩
theorem y_mg_fr {sc : List (Nat × Nat)} {ar : List Nat} (h : y_mg T S V) (f : y_fr sc ar V V') (h1 : ∀ q ∈ y_gs, q ∉ sc) (h2 : ∀ r ∈ y_gr, r ∉ ar) : y_mg T S V' := by
  obtain ⟨g1, g2, g3, g4, g5, g6, g7, gb, p, hp, g8, g9⟩ := h
  refine ⟨fun q hq => (f.1 0 q.2.2 (h1 _ ?_)).trans (g1 q hq), fun q hq i hi => (congrFun (f.2.1 q.2.1 (h2 _ ?_)) i).trans (g2 q hq i hi), fun s hs => (congrFun (f.2.1 46 (h2 _ (by decide))) s).trans (g3 s hs), fun c hc => (congrFun (f.2.1 54 (h2 _ (by decide))) c).trans (g4 c hc), (f.2.2.1 0 65).trans g5, (f.1 0 69 (h1 _ (by decide))).trans g6, ⟨(f.1 0 85 (h1 _ (by decide))).trans g7.1, fun i c hc => (congrFun (f.2.1 55 (h2 _ (by decide))) i).trans (g7.2 i c hc)⟩, gb, p, hp, g8, y_ml_fr g9 f (h1 _ (by decide)) (h1 _ (by decide)) (h2 _ (by decide)) (h2 _ (by decide))⟩
  · exact (show ∀ q ∈ y_mnum, ((0, q.2.2) : Nat × Nat) ∈ y_gs by decide) q hq
  · exact (show ∀ q ∈ y_mrow, q.2.1 ∈ y_gr by decide) q hq
theorem y_mg_I {r k k7 : Nat} {x : Int32} (h : y_mg T S V) (hm : (r, k, k7) ∈ [(0, 9, 66), (0, 10, 68), (0, 11, 70), (0, 12, 71)]) : y_mg T (y_sI S r k x) (zsI V 0 k7 x) := by
  obtain ⟨g1, g2, g3, g4, g5, g6, g7, gb, p, hp, g8, g9⟩ := h
  have f : y_fr [(0, k7)] [] V (zsI V 0 k7 x) := y_fr_I y_fr_refl (List.mem_singleton.mpr rfl)
  have hk : k7 = 66 ∨ k7 = 68 ∨ k7 = 70 ∨ k7 = 71 := by simp at hm; omega
  have hrk : ¬ (14 = r ∧ 7 = k) := by simp at hm; omega
  refine ⟨fun q hq => ?_, g2, g3, g4, g5, ?_, ⟨?_, g7.2⟩, gb, p, hp, ?_, y_ml_fr g9 f ?_ ?_ List.not_mem_nil List.not_mem_nil⟩
  · have key : ∀ q ∈ y_mnum, ∀ z ∈ [(0, 9, 66), (0, 10, 68), (0, 11, 70), (0, 12, 71)], (0 = 0 ∧ q.2.2 = z.2.2) ↔ (q.1 = z.1 ∧ q.2.1 = z.2.1) := by decide
    have := key q hq _ hm
    dsimp only at this
    show (if 0 = 0 ∧ q.2.2 = k7 then x else zI V 0 q.2.2) = if q.1 = r ∧ q.2.1 = k then x else zI S.1 q.1 q.2.1
    by_cases e : q.1 = r ∧ q.2.1 = k
    · rw [if_pos e, if_pos (this.mpr e)]
    · rw [if_neg e, if_neg (fun z => e (this.mp z))]; exact g1 q hq
  · rw [f.1 0 69 (by rcases hk with rfl | rfl | rfl | rfl <;> decide)]; exact g6
  · rw [f.1 0 85 (by rcases hk with rfl | rfl | rfl | rfl <;> decide)]; exact g7.1
  · show (if 14 = r ∧ 7 = k then x else zI S.1 14 7) = nI p
    rw [if_neg hrk]; exact g8
  · rcases hk with rfl | rfl | rfl | rfl <;> decide
  · rcases hk with rfl | rfl | rfl | rfl <;> decide
theorem y_mg_A {r r7 i : Nat} {x : Int32} (h : y_mg T S V) (hm : (r, r7) ∈ [(1, 43), (7, 45), (9, 48), (19, 49), (20, 50), (21, 51), (22, 52)]) (hx : r = 19 → x = 0 ∨ x = 1) : y_mg T (y_sR S r i x) (zsA V r7 (upd (zA V r7) i x)) := by
  obtain ⟨g1, g2, g3, g4, g5, g6, g7, gb, p, hp, g8, g9⟩ := h
  have f : y_fr [] [r7] V (zsA V r7 (upd (zA V r7) i x)) := y_fr_A y_fr_refl (List.mem_singleton.mpr rfl)
  have hk : r7 = 43 ∨ r7 = 45 ∨ r7 = 48 ∨ r7 = 49 ∨ r7 = 50 ∨ r7 = 51 ∨ r7 = 52 := by simp at hm; omega
  have hr : ¬ 6 = r ∧ ¬ 8 = r ∧ ¬ 11 = r ∧ ¬ 12 = r := by simp at hm; omega
  have o : ∀ z, ¬ z = r → y_R (y_sR S r i x) z = y_R S z := by
    intro z hz
    show (if z = r then _ else zA S.1 z) = zA S.1 z
    rw [if_neg hz]
  refine ⟨g1, fun q hq j hj => ?_, fun s hs => ?_, fun c hc => ?_, g5, g6, ⟨g7.1, fun j c hc => ?_⟩, fun m hm12 => ?_, p, hp, g8, y_ml_fr g9 f List.not_mem_nil List.not_mem_nil ?_ ?_⟩
  · have key : ∀ q ∈ y_mrow, ∀ z ∈ [(1, 43), (7, 45), (9, 48), (19, 49), (20, 50), (21, 51), (22, 52)], (q.2.1 = z.2) ↔ (q.1 = z.1) := by decide
    have := key q hq _ hm
    dsimp only at this
    show (if q.2.1 = r7 then upd (zA V r7) i x else zA V q.2.1) j = (if q.1 = r then upd (zA S.1 r) i x else zA S.1 q.1) j
    by_cases e : q.1 = r
    · rw [if_pos e, if_pos (this.mpr e), y_upd, y_upd]
      by_cases e2 : j = i
      · rw [if_pos e2, if_pos e2]
      · rw [if_neg e2, if_neg e2]
        have e3 := (key q hq _ hm).mpr e
        dsimp only at e3
        rw [← e3, ← e]; exact g2 q hq j hj
    · rw [if_neg e, if_neg (fun z => e (this.mp z))]; exact g2 q hq j hj
  · rw [o 6 hr.1, o 8 hr.2.1, f.2.1 46 (by rcases hk with rfl | rfl | rfl | rfl | rfl | rfl | rfl <;> decide)]; exact g3 s hs
  · rw [o 11 hr.2.2.1, o 12 hr.2.2.2, f.2.1 54 (by rcases hk with rfl | rfl | rfl | rfl | rfl | rfl | rfl <;> decide)]; exact g4 c hc
  · rw [f.2.1 55 (by rcases hk with rfl | rfl | rfl | rfl | rfl | rfl | rfl <;> decide)]; exact g7.2 j c hc
  · by_cases e : 19 = r
    · subst e
      show upd (zA S.1 19) i x m = 0 ∨ upd (zA S.1 19) i x m = 1
      rw [y_upd]
      by_cases e2 : m = i
      · rw [if_pos e2]; exact hx rfl
      · rw [if_neg e2]; exact gb m hm12
    · rw [o 19 e]; exact gb m hm12
  · rcases hk with rfl | rfl | rfl | rfl | rfl | rfl | rfl <;> decide
  · rcases hk with rfl | rfl | rfl | rfl | rfl | rfl | rfl <;> decide
theorem y_mg_P {x : Int64} (h : y_mg T S V) : y_mg T (y_sP S x) (zsL V 0 65 x) := by
  obtain ⟨g1, g2, g3, g4, g5, g6, g7, gb, p, hp, g8, g9⟩ := h
  exact ⟨g1, g2, g3, g4, rfl, g6, g7, gb, p, hp, g8, g9⟩
theorem y_mg_at (h : y_mg T S V) {r k k7 : Nat} (hq : (r, k, k7) ∈ y_mnum) : zI V 0 k7 = y_I S r k := h.1 (r, k, k7) hq
theorem y_mg_r (h : y_mg T S V) {r r7 n i : Nat} (hq : (r, r7, n) ∈ y_mrow) (hi : i < n) (hr : ¬ r = 1 := by decide) : zA V r7 i = y_R S r i := h.2.1 (r, r7, n) hq i (by unfold y_rn; rw [if_neg hr]; exact hi)
theorem y_mg_v (h : y_mg T S V) {i : Nat} (hi : i < y_many T 6) : zA V 43 i = y_R S 1 i := h.2.1 (1, 43, 16) (by decide) i hi
theorem m_sort (hT : y_mt T lv V) {k : Nat} (hk : k < 8) : fX12_sort F V (nI k) = some (zA T 1 k) := by
  obtain ⟨⟨h1, h2⟩, ⟨h3, -⟩, -⟩ := hT
  unfold fX12_sort
  rw [h2, show (9 : Int32) = nI 9 from rfl, pk_mul, nI_add, y_ck (by omega) (by decide), nI_clamp (by omega), h3 k hk]
end
