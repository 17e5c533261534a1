/-! ===== layouts as numbers of two bits a place ===== -/
def y_sd (c : Nat) : Bool := c % 9 ≤ c / 9 % 9 && c / 9 % 9 ≤ c / 81
def y_big (l : Nat) : Nat := if 16384 ≤ l then 8 else if 4096 ≤ l then 7 else if 1024 ≤ l then 6 else if 256 ≤ l then 5 else if 64 ≤ l then 4 else if 16 ≤ l then 3 else if 4 ≤ l then 2 else if 1 ≤ l then 1 else 0
def y_dec (l : Nat) : Nat :=
  let x := y_big l
  let y := y_big (l - y_p4 x)
  let z := y_big (l - y_p4 x - y_p4 y)
  (x * 9 + y) * 9 + z
theorem y_dec_enc0 : ∀ c : Fin 729, y_sd c.1 = true → y_dec (y_enc c.1) = c.1 := by decide +kernel
theorem y_enc_lt0 : ∀ c : Fin 729, y_enc c.1 < 65536 := by decide +kernel
theorem y_bit0 : ∀ c : Fin 729, y_sd c.1 = true → ∀ a : Fin 8, decide (0 < y_enc c.1 / 4 ^ a.1 % 4) = (y_mv c.1 (a.1 + 1) 0).isSome := by decide +kernel
theorem y_sd_of {P p c : Nat} (h : y_gd P p c) : y_sd c = true := by
  unfold y_sd
  rw [Bool.and_eq_true, decide_eq_true_eq, decide_eq_true_eq]
  exact ⟨h.2.2.2.1, h.2.2.1⟩
theorem y_enc_inj {P p Q q c d : Nat} (hc : y_gd P p c) (hd : y_gd Q q d) (h : y_enc c = y_enc d) : c = d := by
  have e1 := y_dec_enc0 ⟨c, hc.1⟩ (y_sd_of hc)
  have e2 := y_dec_enc0 ⟨d, hd.1⟩ (y_sd_of hd)
  dsimp only at e1 e2
  rw [← e1, h, e2]
theorem y_enc_lt {c : Nat} (h : c < 729) : y_enc c < 65536 := y_enc_lt0 ⟨c, h⟩
theorem y_sum_s (g : Nat → Nat) {x y z d : Nat} (hx : x ≤ 8) (hy : y ≤ 8) (hz : z ≤ 8) (hd : d = (max x (max y z) * 9 + (x + y + z - max x (max y z) - min x (min y z))) * 9 + min x (min y z)) : g (d / 81) + g (d / 9 % 9) + g (d % 9) = g x + g y + g z := by
  subst hd
  have h := y_dig (x := max x (max y z)) (y := x + y + z - max x (max y z) - min x (min y z)) (z := min x (min y z)) (by omega) (by omega)
  rw [h.1, h.2.1, h.2.2]
  rcases Nat.le_total x y with a | a <;> rcases Nat.le_total y z with b | b <;> rcases Nat.le_total x z with c | c
  · rw [show max x (max y z) = z by omega, show min x (min y z) = x by omega, show x + y + z - z - x = y by omega]; omega
  · have e1 : y = x := by omega
    have e2 : z = x := by omega
    rw [show max x (max y z) = x by omega, show min x (min y z) = x by omega, show x + y + z - x - x = x by omega, e1, e2]
  · rw [show max x (max y z) = y by omega, show min x (min y z) = x by omega, show x + y + z - y - x = z by omega]; omega
  · rw [show max x (max y z) = y by omega, show min x (min y z) = z by omega, show x + y + z - y - z = x by omega]; omega
  · rw [show max x (max y z) = z by omega, show min x (min y z) = y by omega, show x + y + z - z - y = x by omega]; omega
  · rw [show max x (max y z) = x by omega, show min x (min y z) = y by omega, show x + y + z - x - y = z by omega]; omega
  · have e1 : y = x := by omega
    have e2 : z = x := by omega
    rw [show max x (max y z) = x by omega, show min x (min y z) = x by omega, show x + y + z - x - x = x by omega, e1, e2]
  · rw [show max x (max y z) = x by omega, show min x (min y z) = z by omega, show x + y + z - x - z = y by omega]
theorem y_enc_s {x y z : Nat} (hx : x ≤ 8) (hy : y ≤ 8) (hz : z ≤ 8) : y_enc ((max x (max y z) * 9 + (x + y + z - max x (max y z) - min x (min y z))) * 9 + min x (min y z)) = y_p4 x + y_p4 y + y_p4 z := y_sum_s y_p4 hx hy hz rfl
theorem y_mv_enc {c a b d : Nat} (hc : c < 729) (hb : b ≤ 8) (h : y_mv c a b = some d) : y_enc d + y_p4 a = y_enc c + y_p4 b := by
  unfold y_mv at h
  dsimp only at h
  split at h
  · rename_i q
    cases h
    rw [y_enc_s hb (by omega) (by omega)]
    unfold y_enc
    rw [q]; omega
  split at h
  · rename_i q
    cases h
    rw [y_enc_s (by omega) hb (by omega)]
    unfold y_enc
    rw [q]; omega
  split at h
  · rename_i q
    cases h
    rw [y_enc_s (by omega) (by omega) hb]
    unfold y_enc
    rw [q]; omega
  · cases h
/-- whether a layout has such a digit -/
theorem y_mv_some {c a b : Nat} : (y_mv c a b).isSome = true ↔ c / 81 = a ∨ c / 9 % 9 = a ∨ c % 9 = a := by
  unfold y_mv
  dsimp only
  by_cases q1 : c / 81 = a
  · rw [if_pos q1]; simp [q1]
  rw [if_neg q1]
  by_cases q2 : c / 9 % 9 = a
  · rw [if_pos q2]; simp [q2]
  rw [if_neg q2]
  by_cases q3 : c % 9 = a
  · rw [if_pos q3]; simp [q3]
  · rw [if_neg q3]; simp [q1, q2, q3]
theorem y_mv_any {c a b b' : Nat} : (y_mv c a b).isSome = (y_mv c a b').isSome := by
  rw [Bool.eq_iff_iff, y_mv_some, y_mv_some]
theorem y_sh0 : ∀ f : Fin 8, ((((2 : Int32) * nI f.1) &&& 31).toBitVec.smod 32).toNat = 2 * f.1 ∧ (1 : Int32) <<< (((2 : Int32) * nI f.1) &&& 31) = nI (4 ^ f.1) := by decide +kernel
/-- the bits of a place -/
theorem m_bits {P p c f : Nat} (hc : y_gd P p c) (hf : f < 8) : ((nI (y_enc c) >>> (((2 : Int32) * nI f) &&& 31)) &&& (3 : Int32)) ≤ 0 ↔ y_mv c (f + 1) 0 = none := by
  have hlt := y_enc_lt hc.1
  rw [pk_shrN (by omega) _ (2 * f) (y_sh0 ⟨f, hf⟩).1]
  have h2 : y_enc c / 2 ^ (2 * f) < 2 ^ 32 := Nat.lt_of_le_of_lt (Nat.div_le_self _ _) (by omega)
  rw [pk_andN h2 2 (by decide)]
  have e : 2 ^ (2 * f) = 4 ^ f := by rw [Nat.pow_mul]
  rw [e]
  have hb := y_bit0 ⟨c, hc.1⟩ (y_sd_of hc) ⟨f, hf⟩
  dsimp only at hb
  have hm4 : y_enc c / 4 ^ f % 2 ^ 2 < 4 := Nat.mod_lt _ (by decide)
  rw [show (0 : Int32) = nI 0 from rfl, nI_leI (by omega) (by decide)]
  constructor
  · intro h
    have : decide (0 < y_enc c / 4 ^ f % 4) = false := by
      rw [decide_eq_false_iff_not]
      have : y_enc c / 4 ^ f % 4 ≤ 0 := h
      omega
    rw [this] at hb
    cases hx : y_mv c (f + 1) 0 with
    | none => rfl
    | some d => rw [hx] at hb; cases hb
  · intro h
    rw [h] at hb
    have := of_decide_eq_false hb
    show y_enc c / 4 ^ f % 4 ≤ 0
    omega
theorem y_p4_s {f : Nat} : y_p4 (f + 1) = 4 ^ f := by unfold y_p4; rw [if_neg (by omega), Nat.add_sub_cancel]
/-- fresh layouts, as codes -/
def y_mf (P p : Nat) (C : List Nat) (V : zV) : Prop := C.Nodup ∧ (∀ c ∈ C, y_gd P p c) ∧ zI V 0 61 = nI C.length ∧ (∀ i c, C[i]? = some c → zA V 41 i = nI (y_enc c)) ∧ (∀ l, l < 65536 → zA V 42 l = 0 ∨ zA V 42 l = 1) ∧ ∀ l, l < 65536 → (zA V 42 l = 1 ↔ ∃ c, c ∈ C ∧ l = y_enc c)
section
variable {F : Nat} {T : zV} {lv : Nat} {S : y_S} {V V' : zV}
theorem y_mf_fr {P p : Nat} {C : List Nat} {sc : List (Nat × Nat)} {ar : List Nat} (h : y_mf P p C V) (f : y_fr sc ar V V') (h1 : (0, 61) ∉ sc) (h2 : 41 ∉ ar) (h3 : 42 ∉ ar) : y_mf P p C V' := by
  obtain ⟨a1, a2, a3, a4, a5, a6⟩ := h
  refine ⟨a1, a2, (f.1 0 61 h1).trans a3, ?_, ?_, ?_⟩
  · rw [f.2.1 41 h2]; exact a4
  · rw [f.2.1 42 h3]; exact a5
  · rw [f.2.1 42 h3]; exact a6
theorem m_comes {P p : Nat} (hP : P ≤ 8) (hp : p ≤ 3) {C : List Nat} (h : y_mf P p C V) {d : Nat} (hd : y_gd P p d) :
    ∃ V', fX12_comes F V (nI (y_enc d)) = some V' ∧ y_mf P p (y_put C (some d)) V' ∧ y_fr [(0, 61)] [41, 42] V V' := by
  obtain ⟨a1, a2, a3, a4, a5, a6⟩ := h
  have hlt := y_enc_lt hd.1
  have hlen := y_gd_len hP hp a1 a2
  unfold fX12_comes
  rw [y_ck hlt (by decide), y_ck hlt (by decide)]
  simp only [nI_clamp (show y_enc d < 2 ^ 31 by omega), y_let, y_get, y_bool1, a3, nI_clamp (show C.length < 2 ^ 31 by omega), y_ck (show C.length < 2000 by omega) (by decide)]
  by_cases q : d ∈ C
  · have e1 := (a6 _ hlt).mpr ⟨d, q, rfl⟩
    rw [if_neg (by rw [e1]; decide), y_put_old q]
    exact ⟨V, rfl, ⟨a1, a2, a3, a4, a5, a6⟩, y_fr_refl⟩
  · have e1 : ¬ zA V 42 (y_enc d) = 1 := fun z => by
      obtain ⟨c, hc, e⟩ := (a6 _ hlt).mp z
      exact q (y_enc_inj hd (a2 c hc) e ▸ hc)
    rw [if_pos ((a5 _ hlt).resolve_right e1), y_put_new q]
    refine ⟨_, rfl, ⟨?_, ?_, ?_, ?_, ?_, ?_⟩, y_fr_I (y_fr_A (y_fr_A y_fr_refl (by decide)) (by decide)) (by decide)⟩
    · rw [← y_put_new q]; exact y_put_nd a1
    · intro c hc
      rcases List.mem_append.mp hc with z | z
      · exact a2 c z
      · rw [List.mem_singleton] at z; rw [z]; exact hd
    · show nI C.length + 1 = _
      rw [nI_1, List.length_append]; rfl
    · intro i c hc
      show upd (zA V 41) C.length (nI (y_enc d)) i = nI (y_enc c)
      rw [y_upd]
      by_cases qi : i = C.length
      · subst qi
        rw [List.getElem?_append_right (Nat.le_refl _), Nat.sub_self] at hc
        cases hc
        rw [if_pos rfl]
      · have : i < (C ++ [d]).length := (List.getElem?_eq_some_iff.mp hc).1
        rw [List.length_append] at this
        have : i < C.length := by
          have : i < C.length + 1 := this
          omega
        rw [List.getElem?_append_left this] at hc
        rw [if_neg qi]
        exact a4 i c hc
    · intro l hl
      show upd (zA V 42) (y_enc d) 1 l = 0 ∨ upd (zA V 42) (y_enc d) 1 l = 1
      rw [y_upd]
      by_cases ql : l = y_enc d
      · rw [if_pos ql]; exact Or.inr rfl
      · rw [if_neg ql]; exact a5 l hl
    · intro l hl
      show upd (zA V 42) (y_enc d) 1 l = 1 ↔ _
      rw [y_upd]
      by_cases ql : l = y_enc d
      · rw [if_pos ql]
        exact ⟨fun _ => ⟨d, List.mem_append_right _ (List.mem_singleton.mpr rfl), ql⟩, fun _ => rfl⟩
      · rw [if_neg ql, a6 l hl]
        constructor
        · rintro ⟨c, hc, e⟩; exact ⟨c, List.mem_append_left _ hc, e⟩
        · rintro ⟨c, hc, e⟩
          rcases List.mem_append.mp hc with z | z
          · exact ⟨c, z, e⟩
          · rw [List.mem_singleton] at z; rw [z] at e; exact absurd e ql
/-- a ball goes from one place to another -/
theorem m_goes {P p : Nat} (hP : P ≤ 8) (hp : p ≤ 3) {C : List Nat} (h : y_mf P p C V) {c f t d : Nat} (hc : y_gd P p c) (hf : f < P) (ht : t < P) (hd : y_mv c (f + 1) (t + 1) = some d) :
    ∃ V', fX12_comes F V ((nI (y_enc c) - ((1 : Int32) <<< (((2 : Int32) * nI f) &&& 31))) + ((1 : Int32) <<< (((2 : Int32) * nI t) &&& 31))) = some V' ∧ y_mf P p (y_put C (some d)) V' ∧ y_fr [(0, 61)] [41, 42] V V' := by
  have he := y_mv_enc hc.1 (show t + 1 ≤ 8 by omega) hd
  rw [y_p4_s, y_p4_s] at he
  have hle : 4 ^ f ≤ y_enc c := by
    have h0 : (y_mv c (f + 1) 0).isSome = true := by rw [y_mv_any (b' := t + 1), hd]; rfl
    obtain ⟨d0, hd0⟩ := Option.isSome_iff_exists.mp h0
    have := y_mv_enc hc.1 (Nat.zero_le _) hd0
    rw [y_p4_s] at this
    have : y_p4 0 = 0 := rfl
    omega
  rw [(y_sh0 ⟨f, by omega⟩).2, (y_sh0 ⟨t, by omega⟩).2, pk_sub hle, nI_add, show y_enc c - 4 ^ f + 4 ^ t = y_enc d by omega]
  exact m_comes hP hp h (y_ge1 hP hc (by omega) (by omega) (by omega) hd)
theorem y_way_eq (hw : y_ww T) {w : Nat} (h : w < y_many T 5) : ∃ f t, f < y_many T 4 ∧ t < y_many T 4 ∧ zA T 6 w = nI f ∧ zA T 7 w = nI t ∧ y_way T w = (f + 1, t + 1) := by
  obtain ⟨f, t, hf, ht, e1, e2⟩ := hw.2.2.2.2 w h
  have := hw.2.1
  refine ⟨f, t, hf, ht, e1, e2, ?_⟩
  unfold y_way
  rw [e1, e2, nI_clamp (by omega), nI_clamp (by omega)]
theorem m_knows1 {p : Nat} (hw : y_ww T) (hp : p ≤ 3) {c i : Nat} (hc : y_gd (y_many T 4) p c) {k2 : zV → Int32 → Option zV} :
    ∀ (r w n : Nat) (C : List Nat) (V : zV), w + r = y_many T 5 → r + 1 ≤ n → y_mt T lv V → y_mf (y_many T 4) p C V →
    ∃ V', fX12_knows_l25 F k2 n V (nI i) (nI (y_enc c)) (nI (24 * lv + w)) = k2 V' (nI (i + 1)) ∧ y_mf (y_many T 4) p (((List.range' w r).filter fun w => zA T 8 w = -1).foldl (fun L w => y_put L (y_mv c (y_way T w).1 (y_way T w).2)) C) V' ∧ y_fr [(0, 61)] [41, 42] V V' := by
  intro r
  have hP := hw.2.1
  have hW := hw.2.2.2.1
  induction r with
  | zero =>
    intro w n C V e hn hT h
    obtain ⟨n, rfl⟩ : ∃ n', n = n' + 1 := ⟨n - 1, by omega⟩
    have hlv := hT.1.1
    refine ⟨V, ?_, h, y_fr_refl⟩
    rw [fX12_knows_l25, show (5 : Int32) = nI 5 from rfl, m_sort hT (by decide), y_bd, hT.1.2, show (24 : Int32) = nI 24 from rfl, pk_mul, hw.2.2.1, nI_add, if_pos (nI_le (by omega) (by omega)), nI_1]
  | succ r ih =>
    intro w n C V e hn hT h
    obtain ⟨n, rfl⟩ : ∃ n', n = n' + 1 := ⟨n - 1, by omega⟩
    have hlv := hT.1.1
    obtain ⟨f, t, hf, ht, e1, e2, e3⟩ := y_way_eq hw (w := w) (by omega)
    obtain ⟨b1, b2, b3⟩ := hT.2.2.2.2.2.2.1 w (by omega)
    have next : ∀ (C : List Nat) (V : zV), y_mt T lv V → y_mf (y_many T 4) p C V → ∃ V', fX12_knows_b94 F (fX12_knows_l25 F k2 n) V (nI i) (nI (y_enc c)) (nI (24 * lv + w)) = k2 V' (nI (i + 1)) ∧ y_mf (y_many T 4) p (((List.range' (w + 1) r).filter fun w => zA T 8 w = -1).foldl (fun L w => y_put L (y_mv c (y_way T w).1 (y_way T w).2)) C) V' ∧ y_fr [(0, 61)] [41, 42] V V' := by
      intro C V hT h
      rw [fX12_knows_b94, nI_1, Nat.add_assoc]
      exact ih (w + 1) n C V (by omega) (by omega) hT h
    rw [fX12_knows_l25, show (5 : Int32) = nI 5 from rfl, m_sort hT (by decide), y_bd, hT.1.2, show (24 : Int32) = nI 24 from rfl, pk_mul, hw.2.2.1, nI_add, if_neg (nI_ge (by omega) (by omega)), y_ck (by omega) (by decide), y_ck (by omega) (by decide), y_ck (by omega) (by decide), y_ck (by omega) (by decide), List.range'_succ, List.filter_cons]
    simp only [nI_clamp (show 24 * lv + w < 2 ^ 31 by omega), b1, b2, b3, e1, e2]
    by_cases hs : zA T 8 w = -1
    · rw [if_pos hs, if_pos (show decide (zA T 8 w = -1) = true from decide_eq_true hs), List.foldl_cons, e3]
      have ea : y_mv c (f + 1) (t + 1) = none ↔ y_mv c (f + 1) 0 = none := by
        have := y_mv_any (c := c) (a := f + 1) (b := t + 1) (b' := 0)
        constructor
        · intro z; rw [z] at this; cases hx : y_mv c (f + 1) 0 with
          | none => rfl
          | some d => rw [hx] at this; cases this
        · intro z; rw [z] at this; cases hx : y_mv c (f + 1) (t + 1) with
          | none => rfl
          | some d => rw [hx] at this; cases this
      cases hd : y_mv c (f + 1) (t + 1) with
      | none =>
        rw [if_pos ((m_bits hc (by omega)).mpr (ea.mp hd))]
        exact next C V hT h
      | some d =>
        rw [if_neg (fun z => by have := ea.mpr ((m_bits hc (by omega)).mp z); rw [hd] at this; cases this)]
        obtain ⟨V1, g1, g2, g3⟩ := m_goes (F := F) hP hp h hc hf ht hd
        rw [g1, y_bd]
        obtain ⟨V2, i1, i2, i3⟩ := next _ V1 (y_mt_fr hT g3 (by decide) (by decide)) g2
        exact ⟨V2, i1, i2, y_fr_trans g3 i3⟩
    · rw [if_neg hs, if_neg (show ¬ decide (zA T 8 w = -1) = true from fun z => hs (of_decide_eq_true z))]
      exact next C V hT h
theorem m_knowsc {p : Nat} (hF : 3000 ≤ F) : ∀ (r i n : Nat) (C : List Nat) (V : zV), C.length ≤ 120 → i + r = C.length → r + 1 ≤ n → (∀ c ∈ C, y_gd p 3 c ∨ c < 729) → zI V 0 61 = nI C.length → (∀ i c, C[i]? = some c → zA V 41 i = nI (y_enc c)) → (∀ j c, j < i → C[j]? = some c → zA V 40 j = nI (y_enc c)) → (∀ l, l < 65536 → zA V 42 l = 0 ∨ ∃ j c, i ≤ j ∧ C[j]? = some c ∧ l = y_enc c) →
    ∃ V', fX12_knows_l116 F n V (nI i) = some V' ∧ zI V' 0 61 = 0 ∧ (∀ j c, C[j]? = some c → zA V' 40 j = nI (y_enc c)) ∧ (∀ l, l < 65536 → zA V' 42 l = 0) ∧ y_fr [(0, 61)] [40, 42] V V' := by
  intro r
  induction r with
  | zero =>
    intro i n C V hl e hn hC h61 h41 h40 h42
    obtain ⟨n, rfl⟩ : ∃ n', n = n' + 1 := ⟨n - 1, by omega⟩
    rw [fX12_knows_l116, h61, if_pos (nI_le (by omega) (by omega)), y_let]
    refine ⟨_, rfl, rfl, fun j c hj => h40 j c (by have := (List.getElem?_eq_some_iff.mp hj).1; omega) hj, fun l hl => ?_, y_fr_I y_fr_refl (by decide)⟩
    rcases h42 l hl with z | ⟨j, c, a, b, -⟩
    · exact z
    · have := (List.getElem?_eq_some_iff.mp b).1; omega
  | succ r ih =>
    intro i n C V hl e hn hC h61 h41 h40 h42
    obtain ⟨n, rfl⟩ : ∃ n', n = n' + 1 := ⟨n - 1, by omega⟩
    have hi : i < C.length := by omega
    obtain ⟨c, hc⟩ : ∃ c, C[i]? = some c := ⟨_, List.getElem?_eq_getElem hi⟩
    have hlt : y_enc c < 65536 := by
      rcases hC c (List.mem_of_getElem? hc) with z | z
      · exact y_enc_lt z.1
      · exact y_enc_lt z
    have e41 := h41 i c hc
    rw [fX12_knows_l116, h61, if_neg (nI_ge hi (by omega)), y_ck (by omega) (by decide), y_ck (by omega) (by decide), y_let, y_ck (by omega) (by decide)]
    have ev : zA (zsA V 40 (upd (zA V 40) (nI i).toNatClampNeg (zA V 41 (nI i).toNatClampNeg))) 40 (nI i).toNatClampNeg = nI (y_enc c) := by
      show upd (zA V 40) (nI i).toNatClampNeg (zA V 41 (nI i).toNatClampNeg) (nI i).toNatClampNeg = _
      rw [y_upd, if_pos rfl, nI_clamp (by omega), e41]
    rw [ev, y_ck hlt (by decide), y_let, y_bool0, nI_1]
    simp only [nI_clamp (show i < 2 ^ 31 by omega), nI_clamp (show y_enc c < 2 ^ 31 by omega), e41]
    have f : y_fr [(0, 61)] [40, 42] V (zsA (zsA V 40 (upd (zA V 40) i (nI (y_enc c)))) 42 (upd (zA (zsA V 40 (upd (zA V 40) i (nI (y_enc c)))) 42) (y_enc c) 0)) := y_fr_A (y_fr_A y_fr_refl (by decide)) (by decide)
    obtain ⟨V2, g1, g2, g3, g4, g5⟩ := ih (i + 1) n C (zsA (zsA V 40 (upd (zA V 40) i (nI (y_enc c)))) 42 (upd (zA (zsA V 40 (upd (zA V 40) i (nI (y_enc c)))) 42) (y_enc c) 0)) hl (by omega) (by omega) hC h61 h41 (fun j d hj hd => by
      show upd (zA V 40) i (nI (y_enc c)) j = _
      rw [y_upd]
      by_cases q : j = i
      · subst q; rw [hc] at hd; cases hd; rw [if_pos rfl]
      · rw [if_neg q]; exact h40 j d (by omega) hd) (fun l hl => by
      show upd (zA V 42) (y_enc c) 0 l = 0 ∨ _
      rw [y_upd]
      by_cases q : l = y_enc c
      · rw [if_pos q]; exact Or.inl rfl
      · rw [if_neg q]
        rcases h42 l hl with z | ⟨j, d, a, b, e⟩
        · exact Or.inl z
        · refine Or.inr ⟨j, d, ?_, b, e⟩
          rcases Nat.lt_or_eq_of_le a with z | z
          · omega
          · subst z; rw [hc] at b; cases b; exact absurd e q)
    exact ⟨V2, g1, g2, g3, g4, y_fr_trans f g5⟩
end
