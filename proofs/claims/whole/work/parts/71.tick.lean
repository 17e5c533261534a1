/-! ===== the class's coils, ticks and begin ===== -/
/-- bits below 8 as a list of coils -/
def y_bits (n : Nat) (f : List Nat) : Prop := n < 256 ∧ f.Nodup ∧ (∀ d ∈ f, d < 8) ∧ ∀ d, d < 8 → (n.testBit d = true ↔ d ∈ f)
section
variable {F : Nat} {T : zV} {w : Bool} {b : Nat} {S : y_S} {V : zV}
theorem y_bits_or : ∀ n : Fin 256, ∀ c : Fin 8, nI n.1 ||| ((1 : Int32) <<< (nI c.1 &&& 31)) = nI (n.1 ||| 2 ^ c.1) := by decide +kernel
theorem y_bits_lt : ∀ n : Fin 256, ∀ c : Fin 8, n.1 ||| 2 ^ c.1 < 256 := by decide +kernel
theorem y_bits_tb : ∀ n : Fin 256, ∀ c : Fin 8, ∀ d : Fin 8, (n.1 ||| 2 ^ c.1).testBit d.1 = (n.1.testBit d.1 || decide (d.1 = c.1)) := by decide +kernel
theorem y_bits_cnt : ∀ n : Fin 256, fJ6_bitCount_0f7a4 0 (nI n.1) = some (nI ((List.range 8).filter fun d => n.1.testBit d).length) := by decide +kernel
theorem y_bits_add {n c : Nat} {f : List Nat} (h : y_bits n f) (hc : c < 8) (hf : ¬ c ∈ f) : y_bits (n ||| 2 ^ c) (f ++ [c]) ∧ nI n ||| ((1 : Int32) <<< (nI c &&& 31)) = nI (n ||| 2 ^ c) := by
  obtain ⟨h1, h2, h3, h4⟩ := h
  refine ⟨⟨y_bits_lt ⟨n, h1⟩ ⟨c, hc⟩, ?_, fun d hd => ?_, fun d hd => ?_⟩, y_bits_or ⟨n, h1⟩ ⟨c, hc⟩⟩
  · rw [List.nodup_append]
    refine ⟨h2, List.nodup_cons.mpr ⟨List.not_mem_nil, List.nodup_nil⟩, ?_⟩
    intro x hx y hy
    rw [List.mem_singleton] at hy
    subst hy
    rintro rfl
    exact hf hx
  · rcases List.mem_append.mp hd with z | z
    · exact h3 d z
    · rw [List.mem_singleton] at z; omega
  · have e := y_bits_tb ⟨n, h1⟩ ⟨c, hc⟩ ⟨d, hd⟩
    dsimp only at e
    rw [e, Bool.or_eq_true, h4 d hd, decide_eq_true_eq, List.mem_append, List.mem_singleton]
theorem y_bits_len {n : Nat} {f : List Nat} (h : y_bits n f) : fJ6_bitCount_0f7a4 F (nI n) = some (nI f.length) := by
  obtain ⟨h1, h2, h3, h4⟩ := h
  have e : fJ6_bitCount_0f7a4 F (nI n) = fJ6_bitCount_0f7a4 0 (nI n) := rfl
  rw [e, y_bits_cnt ⟨n, h1⟩]
  congr 2
  have a := y_sub_len f ((List.range 8).filter fun d => n.testBit d) h2 fun x hx => List.mem_filter.mpr ⟨List.mem_range.mpr (h3 x hx), (h4 x (h3 x hx)).mpr hx⟩
  have b := y_sub_len ((List.range 8).filter fun d => n.testBit d) f (List.Pairwise.filter _ List.nodup_range) fun x hx => by
    have hx := List.mem_filter.mp hx
    exact (h4 x (List.mem_range.mp hx.1)).mp hx.2
  exact Nat.le_antisymm b a
theorem y_bits_and {n : Nat} {f : List Nat} {x : Int32} (h : y_bits n f) : x &&& nI n = 0 ↔ f.all (fun d => !x.toBitVec.getLsbD d) = true := by
  obtain ⟨h1, h2, h3, h4⟩ := h
  have key : ∀ d, d < 32 → (nI n).toBitVec.getLsbD d = n.testBit d := by
    intro d hd
    show (BitVec.ofNat 32 n).getLsbD d = _
    rw [BitVec.getLsbD_ofNat]
    simp [hd]
  rw [List.all_eq_true]
  constructor
  · intro e d hd
    have hd8 := h3 d hd
    have e2 : (x &&& nI n).toBitVec.getLsbD d = false := by rw [e]; exact (show (0 : Int32).toBitVec.getLsbD d = false from BitVec.getLsbD_zero)
    rw [Int32.toBitVec_and, BitVec.getLsbD_and, key d (by omega), (h4 d hd8).mpr hd, Bool.and_true] at e2
    rw [e2]; rfl
  · intro e
    apply Int32.toBitVec_inj.mp
    rw [Int32.toBitVec_and]
    apply BitVec.eq_of_getLsbD_eq
    intro d hd
    rw [BitVec.getLsbD_and, key d hd, show (0 : Int32).toBitVec.getLsbD d = false from BitVec.getLsbD_zero]
    by_cases q : d < 8
    · cases ht : n.testBit d with
      | false => rw [Bool.and_false]
      | true =>
        have := e d ((h4 d q).mp ht)
        rw [Bool.not_eq_true'] at this
        rw [this]; rfl
    · rw [Nat.testBit_lt_two_pow (Nat.lt_of_lt_of_le h1 (by
        have := Nat.pow_le_pow_right (show 0 < 2 by decide) (show 8 ≤ d by omega)
        exact this)), Bool.and_false]
/-- a state but for its row of coils -/
def y_rx (w : Bool) (b : Nat) (T : zV) (S : y_S) (V : zV) : Prop :=
  y_sim T S V ∧ zI V 18 6 = nI (y_timed T S) ∧ (∃ a, a ≤ 200 ∧ y_I S 0 13 = nI a) ∧ (∀ m, m < 12 → ∃ j, j ≤ b ∧ y_R S 22 m = nI j) ∧ ∃ p, p ≤ 3 ∧ y_I S 14 7 = nI p ∧ y_lay w b T p S.2.1 S.2.2.1 V
theorem y_rx_of (h : y_rb w b T S V) : y_rx w b T S V := ⟨h.1, h.2.2.1, h.2.2.2.1.1, h.2.2.2.1.2.2, h.2.2.2.2⟩
theorem y_rx_fr {sc : List (Nat × Nat)} {ar : List Nat} {V' : zV} (h : y_rx w b T S V) (f : y_fr sc ar V V') (h1 : ∀ q ∈ y_sc ++ (18, 6) :: (14, 8) :: y_ls, q ∉ sc) (h2 : ∀ r ∈ y_an ++ y_la, r ∉ ar) : y_rx w b T S V' := by
  obtain ⟨g1, g3, g4, g4', p, hp, g5, g6⟩ := h
  exact ⟨y_sim_fr g1 f (fun q hq => h1 q (List.mem_append_left _ hq)) (fun r hr => h2 r (List.mem_append_left _ hr)), (f.1 18 6 (h1 _ (by decide))).trans g3, g4, g4', p, hp, g5, y_lay_fr g6 f (h1 _ (by decide)) (fun q hq => h1 q (List.mem_append_right _ (List.mem_cons_of_mem _ (List.mem_cons_of_mem _ hq)))) (fun r hr => h2 r (List.mem_append_right _ hr))⟩
theorem y_rx_A {r i : Nat} {x : Int32} (h : y_rx w b T S V) (hm : r ∈ [11, 12]) : y_rx w b T (y_sR S r i x) (zsA V r (upd (zA V r) i x)) := by
  obtain ⟨g1, g3, g4, g4', p, hp, g5, g6⟩ := h
  have f : y_fr [] [r] V (zsA V r (upd (zA V r) i x)) := y_fr_A y_fr_refl (List.mem_singleton.mpr rfl)
  have hr : r = 11 ∨ r = 12 := by
    rcases List.mem_cons.mp hm with z | z
    · exact Or.inl z
    · rw [List.mem_singleton] at z; exact Or.inr z
  refine ⟨y_sim_A g1, ?_, g4, ?_, p, hp, g5, y_lay_fr g6 f List.not_mem_nil (fun q _ => List.not_mem_nil) (by rcases hr with rfl | rfl <;> decide)⟩
  · rw [y_timed_same (S := S) (by rcases hr with rfl | rfl <;> rfl)]; exact g3
  · have : y_R (y_sR S r i x) 22 = y_R S 22 := by rcases hr with rfl | rfl <;> rfl
    rw [this]; exact g4'
theorem c_firel (hT : y_T T) (L0 : List Nat) (hL : L0.length ≤ 8) (hLn : L0.Nodup) (hLc : ∀ c ∈ L0, c < y_many T 1) :
    ∀ (l pre f k : List Nat) (n N : Nat) (S : y_S) (V : zV), L0 = pre ++ l → l.length + 1 ≤ N → y_bits n f → (∀ d ∈ f, d ∈ pre) → k.length ≤ pre.length → (∀ d ∈ k, d ∈ pre) → k.Nodup → y_rx w b T S V → zI V 10 4 = nI L0.length →
    (∀ i c, k[i]? = some c → zA V 13 i = nI c) → (∀ i c, pre.length ≤ i → L0[i]? = some c → zA V 13 i = nI c) →
    ∃ V', fX0_fireAt_l7 F N T V (y_I S 0 10) (nI n) (nI k.length) (nI pre.length) = some (nI (y_fl T l f k S).1, V') ∧ y_rb w b T (y_fl T l f k S).2 V' := by
  have h1 := hT.2.1.2.1
  intro l
  induction l with
  | nil =>
    intro pre f k n N S V e hN hb hf hk hkp hkn h h10 hkr hrow
    obtain ⟨N, rfl⟩ : ∃ N', N = N' + 1 := ⟨N - 1, by omega⟩
    rw [List.append_nil] at e
    rw [fX0_fireAt_l7, h10, e, if_pos (nI_le (Nat.le_refl _) (by rw [← e]; omega)), fX0_fireAt_b153, y_let, y_bits_len hb, y_bd]
    obtain ⟨g1, g3, g4, g4', p, hp, g5, g6⟩ := h
    have f0 : y_fr [(10, 4)] [] V (zsI V 10 4 (nI k.length)) := y_fr_I y_fr_refl (by decide)
    exact ⟨_, rfl, y_sim_1 (y_sim_fr g1 f0 (by decide) (by decide)) rfl, ⟨rfl, hkr⟩, g3, ⟨g4, ⟨hkn, fun c hc => hLc c (by rw [e]; exact hkp c hc)⟩, g4'⟩, p, hp, g5, y_lay_fr g6 f0 (by decide) (by decide) (by decide)⟩
  | cons c l ih =>
    intro pre f k n N S V e hN hb hf hk hkp hkn h h10 hkr hrow
    obtain ⟨N, rfl⟩ : ∃ N', N = N' + 1 := ⟨N - 1, by omega⟩
    have hlen : L0.length = pre.length + (l.length + 1) := by rw [e, List.length_append]; rfl
    have hc : L0[pre.length]? = some c := by rw [e, List.getElem?_append_right (Nat.le_refl _), Nat.sub_self]; rfl
    have hcm := hLc c (List.mem_of_getElem? hc)
    have hcp : ¬ c ∈ pre := by
      intro z
      rw [e, List.nodup_append] at hLn
      exact hLn.2.2 c z c List.mem_cons_self rfl
    have r11 : zA V 11 c = y_R S 11 c := y_sim_r h.1 (r := 11) (by decide) (show c < 8 by omega)
    have r12 : zA V 12 c = y_R S 12 c := y_sim_r h.1 (r := 12) (by decide) (show c < 8 by omega)
    have e' : L0 = (pre ++ [c]) ++ l := by rw [e, List.append_assoc]; rfl
    -- it goes on waiting
    have wait : ∃ V', fX0_fireAt_b136 F (fX0_fireAt_l7 F N) T V (y_I S 0 10) (nI n) (nI k.length) (nI pre.length) (nI c) = some (nI (y_fl T l f (k ++ [c]) S).1, V') ∧ y_rb w b T (y_fl T l f (k ++ [c]) S).2 V' := by
      rw [fX0_fireAt_b136, y_ck (by omega) (by decide), y_let, fX0_fireAt_b147, nI_clamp (by omega), nI_1, nI_1]
      have f0 : y_fr [] [13] V (zsA V 13 (upd (zA V 13) k.length (nI c))) := y_fr_A y_fr_refl (by decide)
      have g := ih (pre ++ [c]) f (k ++ [c]) n N S (zsA V 13 (upd (zA V 13) k.length (nI c))) e' (by simpa using hN) hb (fun d hd => List.mem_append_left _ (hf d hd)) (by rw [List.length_append, List.length_append]; exact Nat.succ_le_succ hk) (fun d hd => by
        rcases List.mem_append.mp hd with z | z
        · exact List.mem_append_left _ (hkp d z)
        · exact List.mem_append_right _ z) (by
        rw [List.nodup_append]
        refine ⟨hkn, List.nodup_cons.mpr ⟨List.not_mem_nil, List.nodup_nil⟩, ?_⟩
        intro x hx y hy
        rw [List.mem_singleton] at hy
        subst hy
        rintro rfl
        exact hcp (hkp _ hx)) (y_rx_fr h f0 (by decide) (by decide)) h10 (fun i d hd => by
        show upd (zA V 13) k.length (nI c) i = nI d
        rw [y_upd]
        by_cases q : i = k.length
        · subst q
          rw [List.getElem?_append_right (Nat.le_refl _), Nat.sub_self] at hd
          cases hd
          rw [if_pos rfl]
        · have : i < (k ++ [c]).length := (List.getElem?_eq_some_iff.mp hd).1
          rw [List.length_append] at this
          have : i < k.length := by
            have : i < k.length + 1 := this
            omega
          rw [List.getElem?_append_left this] at hd
          rw [if_neg q]
          exact hkr i d hd) (fun i d hi hd => by
        show upd (zA V 13) k.length (nI c) i = nI d
        rw [List.length_append] at hi
        have hi : pre.length + 1 ≤ i := hi
        rw [y_upd, if_neg (by omega)]
        exact hrow i d (by omega) hd)
      rw [List.length_append, List.length_append] at g
      exact g
    have go : ∃ V', fX0_fireAt_b85 F (fX0_fireAt_l7 F N) T V (y_I S 0 10) (nI n) (nI k.length) (nI pre.length) (nI c) 1 = some (nI (if f.all (fun d => !y_apart T c d) = true then y_fl T l (f ++ [c]) k (y_sR (y_sR S 11 c (y_R S 11 c + 1)) 12 c (y_I S 0 10)) else y_fl T l f (k ++ [c]) S).1, V') ∧ y_rb w b T (if f.all (fun d => !y_apart T c d) = true then y_fl T l (f ++ [c]) k (y_sR (y_sR S 11 c (y_R S 11 c + 1)) 12 c (y_I S 0 10)) else y_fl T l f (k ++ [c]) S).2 V' := by
      rw [fX0_fireAt_b85, if_neg (show ¬ (1 : Int32) = 0 by decide), y_ck (by omega) (by decide)]
      by_cases q : f.all (fun d => !y_apart T c d) = true
      · rw [if_pos q, if_pos (by rw [nI_clamp (by omega)]; exact (y_bits_and hb).mpr q), y_ck (by omega) (by decide), y_ck (by omega) (by decide), y_let, y_ck (by omega) (by decide), y_let, y_let, fX0_fireAt_b147, nI_clamp (by omega), nI_1, r11]
        obtain ⟨hb', eb⟩ := y_bits_add hb (show c < 8 by omega) (fun z => hcp (hf c z))
        rw [eb]
        have h' := y_rx_A (y_rx_A h (r := 11) (i := c) (x := y_R S 11 c + 1) (by decide)) (r := 12) (i := c) (x := y_I S 0 10) (by decide)
        have g := ih (pre ++ [c]) (f ++ [c]) k (n ||| 2 ^ c) N _ _ e' (by simpa using hN) hb' (fun d hd => by
          rcases List.mem_append.mp hd with z | z
          · exact List.mem_append_left _ (hf d z)
          · exact List.mem_append_right _ z) (by rw [List.length_append]; omega) (fun d hd => List.mem_append_left _ (hkp d hd)) hkn h' h10 hkr (fun i d hi hd => hrow i d (by rw [List.length_append] at hi; omega) hd)
        rw [List.length_append] at g
        exact g
      · rw [if_neg q, if_neg (by rw [nI_clamp (by omega)]; exact fun z => q ((y_bits_and hb).mp z))]
        exact wait
    have hh : fX9_has F T 1 (nI c) = some 1 := (c_has (k := 1) (by decide) h1.1 (by omega) (by omega)).trans (by rw [if_pos hcm])
    rw [fX0_fireAt_l7, h10, if_neg (nI_ge (by omega) (by omega)), if_neg (show ¬ (8 : Int32) ≤ nI pre.length from nI_ge (b := 8) (by omega) (by decide)), y_ck (by omega) (by decide), y_let, nI_clamp (by omega), hrow _ _ (Nat.le_refl _) hc, hh, y_bd, if_neg (show ¬ (1 : Int32) = 0 by decide), y_ck (by omega) (by decide), y_fl]
    by_cases q1 : y_R S 11 c = 0
    · rw [if_pos (by rw [nI_clamp (by omega), r11]; exact q1), fX0_fireAt_b80]
      by_cases q : f.all (fun d => !y_apart T c d) = true
      · rw [if_pos q] at go; rw [if_pos ⟨Or.inl q1, q⟩]; exact go
      · rw [if_neg q] at go; rw [if_neg (fun z => q z.2)]; exact go
    rw [if_neg (by rw [nI_clamp (by omega), r11]; exact q1), y_ck (by omega) (by decide), y_ck (by omega) (by decide)]
    by_cases q2 : zA T 3 c ≤ y_I S 0 10 - y_R S 12 c
    · rw [if_neg (by rw [nI_clamp (by omega), r12]; exact Int32.not_lt.mpr q2), fX0_fireAt_b80]
      by_cases q : f.all (fun d => !y_apart T c d) = true
      · rw [if_pos q] at go; rw [if_pos ⟨Or.inr q2, q⟩]; exact go
      · rw [if_neg q] at go; rw [if_neg (fun z => q z.2)]; exact go
    · rw [if_pos (by rw [nI_clamp (by omega), r12]; exact Int32.not_le.mp q2), fX0_fireAt_b84, fX0_fireAt_b85, if_pos rfl, if_neg (fun z => z.1.elim q1 q2)]
      exact wait
theorem c_fire (hF : 2000 ≤ F) (hT : y_T T) (h : y_rb w b T S V) : ∃ V', fX0_fireAt F T V (y_I S 0 10) = some (nI (y_fl T S.2.2.2 [] [] S).1, V') ∧ y_rb w b T (y_fl T S.2.2.2 [] [] S).2 V' := by
  have hlen := y_row_len hT.2.1 h
  have h8 := hT.2.1.2.1.2
  have hrow := h.2.2.2.1.2.1
  exact c_firel (F := F) hT S.2.2.2 (by omega) hrow.1 hrow.2 S.2.2.2 [] [] [] 0 F S V rfl (by omega) ⟨by decide, List.nodup_nil, fun _ z => absurd z List.not_mem_nil, fun d _ => ⟨fun z => by simp at z, fun z => absurd z List.not_mem_nil⟩⟩ (fun _ z => absurd z List.not_mem_nil) (Nat.le_refl _) (fun _ z => absurd z List.not_mem_nil) List.nodup_nil (y_rx_of h) h.2.1.1 (fun i c z => by cases z) (fun i c _ z => h.2.1.2 i c z)
end
section
variable {F : Nat} {T : zV} {w : Bool} {b : Nat} {S : y_S} {V : zV}
theorem c_tickl (hF : 2000 ≤ F) (hT : y_T T) : ∀ (r i n k : Nat) (S : y_S) (V : zV), k + r + 5500 < 2 ^ 31 → i + r = y_many T 7 → r + 1 ≤ n → y_rb w (k + 12 * y_ac S) T S V →
    ∃ V', fX1_passTick_l33 F n T V (nI i) = fX1_passTick_b96 F T V' ∧ y_rb w (k + r + 2413) T (y_end T (y_tl T ((List.range' i r).map fun i => (zA T 12 i).toNatClampNeg) S)) V' := by
  intro r
  have h7 := hT.2.1.1
  induction r with
  | zero =>
    intro i n k S V hk e hn h
    obtain ⟨n, rfl⟩ : ∃ n', n = n' + 1 := ⟨n - 1, by omega⟩
    have := y_ac_le h
    obtain ⟨V1, e1, e2⟩ := c_end (F := F) hF hT (by omega) h
    rw [fX1_passTick_l33, show ((7 : Int32)).toNatClampNeg = 7 from rfl, h7.1, if_pos (nI_le (by omega) (by omega)), e1, y_bd]
    exact ⟨V1, rfl, y_rb_mono e2 (by omega)⟩
  | succ r ih =>
    intro i n k S V hk e hn h
    obtain ⟨n, rfl⟩ : ∃ n', n = n' + 1 := ⟨n - 1, by omega⟩
    have next : ∀ (S : y_S) (V : zV), y_rb w (k + 1 + 12 * y_ac S) T S V → ∃ V', fX1_passTick_b86 F (fX1_passTick_l33 F n) T V (nI i) = fX1_passTick_b96 F T V' ∧ y_rb w (k + (r + 1) + 2413) T (y_end T (y_tl T ((List.range' (i + 1) r).map fun i => (zA T 12 i).toNatClampNeg) S)) V' := by
      intro S V h
      rw [fX1_passTick_b86, nI_1]
      obtain ⟨V1, e1, e2⟩ := ih (i + 1) n (k + 1) S V (by omega) (by omega) (by omega) h
      exact ⟨V1, e1, y_rb_mono e2 (by omega)⟩
    obtain ⟨m, hm, e1, e2⟩ := c_inOrder (F := F) hT (i := i) (by omega)
    rw [fX1_passTick_l33, show ((7 : Int32)).toNatClampNeg = 7 from rfl, h7.1, if_neg (nI_ge (by omega) (by omega)), e1, y_bd, fX4_passTimeOf, c_since hT hm h, y_bd, List.range'_succ, List.map_cons, e2, y_tl]
    by_cases q1 : y_R S 23 m = y_R S 22 m
    rotate_left
    · rw [if_neg q1, if_pos rfl, y_bd, if_pos (show (0 : Int32) = 0 from rfl), if_neg (fun z => q1 z.1)]
      exact next S V (y_rb_mono h (by omega))
    rw [if_pos q1, if_neg (show ¬ (1 : Int32) = 0 by decide), y_ck (by omega) (by decide)]
    by_cases q2 : 0 < zA T 11 m
    rotate_left
    · rw [if_neg (by rw [nI_clamp (by omega)]; exact q2), y_bd, if_pos (show (0 : Int32) = 0 from rfl), if_neg (fun z => q2 z.2)]
      exact next S V (y_rb_mono h (by omega))
    have r20 : zA V 20 m = y_R S 20 m := y_rb_r h (r := 20) (by decide) (show m < 12 by omega)
    have h1 : y_rb w (k + 12 * y_ac S) T (y_sR S 20 m (y_R S 20 m - 1)) (zsA V 20 (upd (zA V 20) m (y_R S 20 m - 1))) := y_rb_A h (by decide)
    have e20 : zA (zsA V 20 (upd (zA V 20) m (y_R S 20 m - 1))) 20 m = y_R S 20 m - 1 := by
      show upd (zA V 20) m (y_R S 20 m - 1) m = _
      rw [y_upd, if_pos rfl]
    rw [if_pos (by rw [nI_clamp (by omega)]; exact q2), y_ck (by omega) (by decide), y_ck (by omega) (by decide), y_let, y_ck (by omega) (by decide), nI_clamp (by omega), r20, e20, if_pos (show y_R S 23 m = y_R S 22 m ∧ 0 < zA T 11 m from ⟨q1, q2⟩)]
    by_cases q3 : 0 < y_R S 20 m - 1
    · rw [if_pos q3, if_pos q3, y_bd, if_pos (show (0 : Int32) = 0 from rfl)]
      exact next _ _ (y_rb_mono h1 (by show k + 12 * y_ac S ≤ k + 1 + 12 * y_ac S; omega))
    rw [if_neg q3, if_neg q3, y_bd, if_neg (show ¬ (1 : Int32) = 0 by decide)]
    obtain ⟨V2, a1, a2⟩ := c_off (F := F) hT.2.1 hm h1
    have a2' : y_rb w (k + 1 + 12 * y_ac (y_off (y_sR S 20 m (y_R S 20 m - 1)) m).2) T (y_off (y_sR S 20 m (y_R S 20 m - 1)) m).2 V2 := by
      have : y_ac (y_off (y_sR S 20 m (y_R S 20 m - 1)) m).2 = y_ac S := by unfold y_ac; rw [y_off_I]; rfl
      rw [this]
      exact y_rb_mono a2 (by omega)
    rw [a1, y_bd]
    dsimp only
    by_cases q4 : (y_off (y_sR S 20 m (y_R S 20 m - 1)) m).1 = true
    · rw [if_pos q4, if_pos q4, if_neg (show ¬ (1 : Int32) = 0 by decide)]
      obtain ⟨V3, b1, b2⟩ := c_rules (F := F) hF hT (k := k + 1) (l := 8) (m := m) (ev := -2) (d := 1) (top := false) (by omega) (by omega) rfl rfl hm a2'
      rw [b1, y_bd]
      exact next _ _ b2
    · rw [if_neg q4, if_neg q4, if_pos rfl]
      exact next _ _ a2'
theorem y_tick_eq : y_tick T S = y_fl T (if ¬ y_I S 0 9 = 0 ∧ 0 < y_timed T S then y_end T (y_tl T (y_ord T) (y_beg T (y_sI S 0 10 (y_I S 0 10 + 1)))) else y_sI S 0 10 (y_I S 0 10 + 1)).2.2.2 [] [] (if ¬ y_I S 0 9 = 0 ∧ 0 < y_timed T S then y_end T (y_tl T (y_ord T) (y_beg T (y_sI S 0 10 (y_I S 0 10 + 1)))) else y_sI S 0 10 (y_I S 0 10 + 1)) := rfl
/-- one tick -/
theorem c_tick (hF : 2000 ≤ F) (hT : y_T T) (hb : b + 8000 < 2 ^ 31) (h : y_rb w b T S V) :
    ∃ V', fX1_passTick F T V = some (nI (y_tick T S).1, V') ∧ y_rb w (b + 2430) T (y_tick T S).2 V' := by
  have h7 := hT.2.1.1
  have h1 : y_rb w b T (y_sI S 0 10 (y_I S 0 10 + 1)) (zsI V 0 10 (y_I S 0 10 + 1)) := y_rb_I h (by decide)
  have fin : ∀ (S2 : y_S) (V2 : zV), y_rb w (b + 2430) T S2 V2 → ∃ V', fX1_passTick_b96 F T V2 = some (nI (y_fl T S2.2.2.2 [] [] S2).1, V') ∧ y_rb w (b + 2430) T (y_fl T S2.2.2.2 [] [] S2).2 V' := by
    intro S2 V2 h2
    obtain ⟨V3, e1, e2⟩ := c_fire (F := F) hF hT h2
    rw [fX1_passTick_b96, y_rb_at h2 (r := 0) (k := 10) (by decide), e1, y_bd]
    exact ⟨V3, rfl, e2⟩
  have e9 : zI (zsI V 0 10 (y_I S 0 10 + 1)) 0 9 = y_I S 0 9 := by
    have := y_rb_at h1 (r := 0) (k := 9) (by decide)
    exact this
  have e6 : zI (zsI V 0 10 (y_I S 0 10 + 1)) 18 6 = nI (y_timed T S) := h1.2.2.1
  have ht : y_timed T S ≤ 12 := by
    unfold y_timed
    refine Nat.le_trans (List.length_filter_le _ _) ?_
    rw [List.length_range]
    omega
  rw [y_tick_eq, fX1_passTick, y_let, y_rb_at h (r := 0) (k := 10) (by decide), e9, e6]
  by_cases q1 : y_I S 0 9 = 0
  · rw [if_pos q1, if_neg (show ¬ (¬ y_I S 0 9 = 0 ∧ 0 < y_timed T S) from fun z => z.1 q1)]
    exact fin _ _ (y_rb_mono h1 (by omega))
  rw [if_neg q1]
  by_cases q2 : 0 < y_timed T S
  rotate_left
  · rw [if_pos (show nI (y_timed T S) ≤ 0 from nI_le (b := 0) (by omega) (by decide)), if_neg (show ¬ (¬ y_I S 0 9 = 0 ∧ 0 < y_timed T S) from fun z => q2 z.2)]
    exact fin _ _ (y_rb_mono h1 (by omega))
  rw [if_neg (nI_nle q2 (by omega)), if_pos (show ¬ y_I S 0 9 = 0 ∧ 0 < y_timed T S from ⟨q1, q2⟩)]
  obtain ⟨V2, a1, a2, a3⟩ := c_beg (F := F) hF hT h1
  obtain ⟨V3, b1, b2⟩ := c_tickl (F := F) hF hT (y_many T 7) 0 F b _ V2 (by omega) (by omega) (by omega) (by rw [a3]; exact a2)
  rw [← y_ord_eq] at b2
  have b1' : fX1_passTick_l33 F F T V2 0 = fX1_passTick_b96 F T V3 := b1
  rw [a1, y_bd, b1']
  exact fin _ _ (y_rb_mono b2 (by omega))
end
