/-! ===== the reference cuts a text ===== -/
def r_rkl : List Nat := [20, 21, 22, 23, 24, 25, 27, 28, 26, 29, 30, 31, 32, 33, 34, 44, 35, 36, 37, 38, 39, 40, 41, 42, 43, 45, 46, 1, 2, 4, 5, 6, 7, 8, 9, 10, 11, 12, 13, 14, 15, 0, 3]
/-- the reference's number of a kind -/
def r_rk (k : Nat) : Nat := r_rkl[k]?.getD 3
theorem r_rk_inj : ∀ a b : Fin 43, r_rk a.1 = r_rk b.1 → a = b := by decide +kernel
theorem r_rk_le : ∀ a : Fin 43, r_rk a.1 ≤ 46 := by decide +kernel
def r_mwords : List (List Nat) := [[115, 119, 105, 116, 99, 104], [99, 111, 105, 108], [97, 112, 97, 114, 116], [108, 97, 109, 112], [112, 108, 97, 99, 101], [119, 97, 121], [98, 121], [118, 97, 114], [109, 111, 100, 101], [116, 105, 109, 101], [101, 110, 100], [111, 110], [98, 101, 103, 105, 110], [115, 116, 111, 112], [105, 102], [115, 99, 111, 114, 101], [115, 101, 116], [115, 116, 97, 114, 116], [108, 101, 97, 118, 101], [102, 105, 114, 101], [104, 111, 108, 100], [100, 114, 97, 105, 110], [115, 101, 114, 118, 101], [116, 105, 108, 116], [97, 110, 100], [108, 101, 102, 116], [98, 97, 108, 108, 115]]
def r_d37 (c : Nat) : Nat := if r_dg c = true then c - 48 + 27 else c - 97 + 1
def r_ml2 (s : List Nat) : List (List Nat) → Nat → Nat → Nat
  | [], _, x => x
  | w :: l, i, x => r_ml2 s l (i + 1) (if w = s then 20 + i else x)
theorem r_ml2_no {s : List Nat} : ∀ (l : List (List Nat)) (i x : Nat), (∀ w ∈ l, w ≠ s) → r_ml2 s l i x = x := by
  intro l
  induction l with
  | nil => intro i x _; rfl
  | cons w l ih =>
    intro i x h
    rw [r_ml2, if_neg (h w (List.mem_cons_self ..))]
    exact ih _ _ fun w' hw => h w' (List.mem_cons_of_mem _ hw)
theorem r_fi_no {s : List Nat} : ∀ (l : List (List Nat)) (i : Nat), (∀ w ∈ l, w ≠ s) → r_fi s l i = 27 := by
  intro l
  induction l with
  | nil => intro i _; rfl
  | cons w l ih =>
    intro i h
    rw [r_fi, if_neg (h w (List.mem_cons_self ..))]
    exact ih _ fun w' hw => h w' (List.mem_cons_of_mem _ hw)
theorem r_wd_rk {s : List Nat} : r_ml2 s r_mwords 0 1 = r_rk (r_fi s r_words 0) := by
  by_cases q : s ∈ r_words
  · exact (show ∀ s ∈ r_words, r_ml2 s r_mwords 0 1 = r_rk (r_fi s r_words 0) by decide +kernel) s q
  · rw [r_fi_no r_words 0 (fun w hw z => q (by rw [← z]; exact hw)), r_ml2_no r_mwords 0 1 (fun w hw z => q (by rw [← z]; exact (show ∀ w ∈ r_mwords, w ∈ r_words by decide +kernel) w hw))]
    rfl
theorem r_wd_7 {s : List Nat} (h : 6 < s.length) : r_fi s r_words 0 = 27 := r_fi_no _ _ fun w hw z => by
  have := (show ∀ w ∈ r_words, w.length ≤ 6 by decide +kernel) w hw
  rw [z] at this
  omega
section
variable {F : Nat} {b : Nat → Nat} {L : Nat} {V7 : zV}
def r_mb (b : Nat → Nat) (L : Nat) (V7 : zV) : Prop := L ≤ 4000 ∧ (∀ i, b i < 256) ∧ zI V7 0 4 = nI L ∧ ∀ i, i < L → zA V7 2 i &&& 255 = nI (b i)
def r_at0 (b : Nat → Nat) (L i : Nat) : Nat := if i < L then b i else 0
theorem m_at (h : r_mb b L V7) {i : Nat} (hi : i < 2 ^ 31) : fX12_at F V7 (nI i) = some (nI (r_at0 b L i)) := by
  obtain ⟨hL, hb, h4, ht⟩ := h
  unfold fX12_at r_at0
  rw [h4]
  by_cases q : i < L
  · rw [if_neg (nI_ge q (by omega)), y_ck (by omega) (by decide), nI_clamp hi, ht i q, if_pos q]
  · rw [if_pos (nI_le (by omega) hi), if_neg q]; rfl
theorem r_at0_lt (h : r_mb b L V7) (i : Nat) : r_at0 b L i < 256 := by
  have := h.2.1 i
  unfold r_at0
  split <;> omega
/-- the reference's row of words -/
def r_mw (V7 : zV) : Prop := ∀ (k : Nat) (w : List Nat), r_mwords[k]? = some w → zB V7 7 k = lN (r_pk 37 r_d37 0 w)
theorem r_d37_ok {c : Nat} (h : (r_lt c || r_dg c) = true) : 1 ≤ r_d37 c ∧ r_d37 c < 37 := by
  unfold r_d37 r_lt r_dg at *
  simp only [Bool.or_eq_true, decide_eq_true_eq] at h ⊢
  split <;> omega
theorem r_d37_inj {l m : List Nat} (hl : r_an l) (hm : r_an m) (h : l.map r_d37 = m.map r_d37) : l = m := by
  induction l generalizing m with
  | nil =>
    cases m with
    | nil => rfl
    | cons c m => cases h
  | cons d l ih =>
    cases m with
    | nil => cases h
    | cons c m =>
      rw [List.map_cons, List.map_cons] at h
      obtain ⟨h1, h2⟩ := List.cons.inj h
      have := hl d (List.mem_cons_self ..)
      have := hm c (List.mem_cons_self ..)
      have e : d = c := by
        unfold r_d37 r_lt r_dg at *
        simp only [Bool.or_eq_true, decide_eq_true_eq] at *
        split at h1 <;> split at h1 <;> omega
      rw [e, ih (fun x hx => hl x (List.mem_cons_of_mem _ hx)) (fun x hx => hm x (List.mem_cons_of_mem _ hx)) h2]
theorem r_pk37_eq {l m : List Nat} (hl : r_an l) (hm : r_an m) : r_pk 37 r_d37 0 l = r_pk 37 r_d37 0 m ↔ l = m := by
  constructor
  · intro h
    exact r_d37_inj hl hm (r_pk_inj l.length l m rfl (fun c hc => r_d37_ok (hl c hc)) (fun c hc => r_d37_ok (hm c hc)) h)
  · rintro rfl; rfl
theorem r_pk_37 {l : List Nat} (hl : r_an l) (h8 : l.length ≤ 8) : r_pk 37 r_d37 0 l < 2 ^ 63 := by
  have h := r_pk_lt (B := 37) (f := r_d37) (by decide) l 0 0 (fun c hc => (r_d37_ok (hl c hc)).2) (by decide)
  have h2 : 37 ^ (0 + l.length) ≤ 37 ^ 8 := Nat.pow_le_pow_right (by decide) (by omega)
  have e : (37 : Nat) ^ 8 < 2 ^ 63 := by decide
  omega
theorem r_mwords_an : ∀ (k : Nat) (w : List Nat), r_mwords[k]? = some w → r_an w ∧ w.length ≤ 6 := by
  have : ∀ w ∈ r_mwords, (∀ c ∈ w, (r_lt c || r_dg c) = true) ∧ w.length ≤ 6 := by decide +kernel
  intro k w h
  exact this w (List.mem_of_getElem? h)
/-- k tokens lie in the reference's rows -/
def r_rt (b : Nat → Nat) (L k : Nat) (V7 : zV) : Prop := zI V7 0 10 = nI k ∧ ∀ j, j < k → zA V7 3 j = nI (r_rk (r_tK b L j)) ∧ zA V7 4 j = nI (r_tS b L j) ∧ (r_tK b L j = 28 → zA V7 5 j = nI (r_tV b L j)) ∧ (r_tK b L j = 27 → zB V7 6 j = lN (r_pk 37 r_d37 0 (r_tW b L j)))
theorem m_token {k : Nat} (h : r_rt b L k V7) (hk : k < 1003) {x1 x3 : Int32} {x4 : Int64} {i : Nat} (e1 : x1 = nI (r_rk (r_tK b L k))) (e2 : i = r_tS b L k) (e3 : r_tK b L k = 28 → x3 = nI (r_tV b L k)) (e4 : r_tK b L k = 27 → x4 = lN (r_pk 37 r_d37 0 (r_tW b L k))) :
    ∃ V', fX12_token F V7 x1 (nI i) x3 x4 = some V' ∧ r_rt b L (k + 1) V' ∧ r_fq [(0, 10)] [3, 4, 5] [6] V7 V' := by
  unfold fX12_token
  have g1 : ∀ f, zI (zsA V7 3 f) 0 10 = nI k := fun _ => h.1
  have g2 : ∀ f g, zI (zsA (zsA V7 3 f) 4 g) 0 10 = nI k := fun _ _ => h.1
  have g3 : ∀ f g u, zI (zsA (zsA (zsA V7 3 f) 4 g) 5 u) 0 10 = nI k := fun _ _ _ => h.1
  have g4 : ∀ f g u v, zI (zsB (zsA (zsA (zsA V7 3 f) 4 g) 5 u) 6 v) 0 10 = nI k := fun _ _ _ _ => h.1
  have g5 : ∀ f, zA (zsA V7 3 f) 4 = zA V7 4 := fun _ => rfl
  have g6 : ∀ f g, zA (zsA (zsA V7 3 f) 4 g) 5 = zA V7 5 := fun _ _ => rfl
  have g7 : ∀ f g u, zB (zsA (zsA (zsA V7 3 f) 4 g) 5 u) 6 = zB V7 6 := fun _ _ _ => rfl
  simp only [h.1, g1, g2, g3, g4, g5, g6, g7, y_let, y_ck hk (show 1003 < 2 ^ 31 by decide), nI_clamp (show k < 2 ^ 31 by omega), nI_1]
  refine ⟨_, rfl, ⟨rfl, fun j hj => ?_⟩, r_fq_I (r_fq_B (r_fq_A (r_fq_A (r_fq_A r_fq_refl (by decide)) (by decide)) (by decide)) (by decide)) (by decide)⟩
  show upd (zA V7 3) k x1 j = _ ∧ upd (zA V7 4) k (nI i) j = _ ∧ (_ → upd (zA V7 5) k x3 j = _) ∧ (_ → vp_updL (zB V7 6) k x4 j = _)
  rw [y_upd, y_upd, y_upd, y_updL]
  by_cases q : j = k
  · subst q
    rw [if_pos rfl, if_pos rfl, if_pos rfl, if_pos rfl]
    exact ⟨e1, by rw [e2], e3, e4⟩
  · rw [if_neg q, if_neg q, if_neg q, if_neg q]; exact h.2 j (by omega)
/-! names and words -/
theorem m_more {c : Nat} (h : (r_lt c || r_dg c) = true) (a : Nat) : fX12_more F (lN a) (nI c) = some (lN (37 * a + r_d37 c)) := by
  have hc := r_alnum h
  have hd : fX12_isDigit F (nI c) = some (if r_dg c = true then 1 else 0) := r_nI_dg ⟨c, by omega⟩
  unfold fX12_more
  rw [if_neg (show ¬ nI c = 0 from nI_ne0 (by omega) (by omega)), hd, y_bd, show (37 : Int64) = lN 37 from rfl, lN_mul]
  unfold r_d37
  by_cases q : r_dg c = true
  · rw [if_pos q, if_neg (show ¬ (1 : Int32) = 0 by decide), if_pos q, fX12_more_b36, show (48 : Int32) = nI 48 from rfl, pk_sub (by omega), show (27 : Int32) = nI 27 from rfl, nI_add, nI_l (by omega), lN_add]
  · have hl : 97 ≤ c := by
      unfold r_lt r_dg at h
      unfold r_dg at q
      simp only [Bool.or_eq_true, decide_eq_true_eq] at h q
      omega
    rw [if_neg q, if_pos rfl, if_neg q, fX12_more_b36, show (97 : Int32) = nI 97 from rfl, pk_sub (by omega), nI_1, nI_l (by omega), lN_add]
theorem m_lets (h : r_mb b L V7) {k7 : zV → Int32 → Option zV} {i e : Nat} (hi : i < L) (hl : r_lt (b i) = true) (he : e = r_te b L i) : ∀ (r n N : Nat) (x4 : Int64), n + r = e - i → r + 1 ≤ N →
    ∃ x4', fX12_cut_l85 F k7 N V7 (nI i) (nI n) x4 = fX12_cut_b148 F k7 V7 (nI i) (nI (e - i)) x4' (if e - i ≤ 8 then 1 else 3) ∧ (∀ a, x4 = lN a → e - i ≤ 8 → x4' = lN (r_pk 37 r_d37 a (r_str b (i + n) e))) := by
  have hL := h.1
  have hte := r_te_le (b := b) hi
  intro r
  induction r with
  | zero =>
    intro n N x4 en hN
    obtain ⟨N, rfl⟩ : ∃ N', N = N' + 1 := ⟨N - 1, by omega⟩
    have e1 : i + n = e := by omega
    have hnot : (r_lt (r_at0 b L e) || r_dg (r_at0 b L e)) = false := by
      unfold r_at0
      by_cases q : e < L
      · rw [if_pos q]
        have : r_te b L i = r_sp (fun k => r_lt (b k) || r_dg (b k)) (L - (i + 1)) (i + 1) := by unfold r_te; rw [if_neg (by omega), if_pos hl]
        have hz := r_sp_not (fun k => r_lt (b k) || r_dg (b k)) (L - (i + 1)) (i + 1) (by omega)
        rw [← this, ← he] at hz
        exact hz
      · rw [if_neg q]; decide
    have hlt := r_at0_lt h e
    rw [Bool.or_eq_false_iff] at hnot
    have hk : fX12_isDigit F (nI (r_at0 b L e)) = some (if r_dg (r_at0 b L e) = true then 1 else 0) := r_nI_dg ⟨_, hlt⟩
    have hl2 : fX12_isLetter F (nI (r_at0 b L e)) = some (if r_lt (r_at0 b L e) = true then 1 else 0) := r_nI_lt ⟨_, hlt⟩
    rw [fX12_cut_l85, nI_add, m_at h (by omega), y_bd, e1, hl2, y_bd, hnot.1, if_neg (show ¬ false = true by decide), if_pos rfl, y_bd, hk, hnot.2, y_bd, if_neg (show ¬ false = true by decide), if_pos rfl]
    have en' : n = e - i := by omega
    subst en'
    refine ⟨x4, ?_, fun a ha _ => ?_⟩
    · by_cases q : e - i ≤ 8
      · rw [if_pos (show nI (e - i) ≤ (8 : Int32) from nI_le (b := 8) q (by decide)), if_pos q]
      · rw [if_neg (show ¬ nI (e - i) ≤ (8 : Int32) from nI_ge (a := 8) (by omega) (by omega)), if_neg q]
    · rw [ha]
      unfold r_str
      rw [Nat.sub_self]; rfl
  | succ r ih =>
    intro n N x4 en hN
    obtain ⟨N, rfl⟩ : ∃ N', N = N' + 1 := ⟨N - 1, by omega⟩
    have hal := r_te_al hi hl (show i ≤ i + n by omega) (show i + n < r_te b L i by omega)
    have e0 : r_at0 b L (i + n) = b (i + n) := if_pos (by omega)
    have hlt := h.2.1 (i + n)
    have hk : fX12_isDigit F (nI (b (i + n))) = some (if r_dg (b (i + n)) = true then 1 else 0) := r_nI_dg ⟨_, hlt⟩
    have hl2 : fX12_isLetter F (nI (b (i + n))) = some (if r_lt (b (i + n)) = true then 1 else 0) := r_nI_lt ⟨_, hlt⟩
    have go : ∃ x4', fX12_cut_b111 F (fX12_cut_l85 F k7 N) V7 (nI i) (nI n) x4 = fX12_cut_b148 F k7 V7 (nI i) (nI (e - i)) x4' (if e - i ≤ 8 then 1 else 3) ∧ (∀ a, x4 = lN a → e - i ≤ 8 → x4' = lN (r_pk 37 r_d37 a (r_str b (i + n) e))) := by
      rw [fX12_cut_b111, fX12_cut_b131]
      by_cases q8 : 8 ≤ n
      · rw [if_pos (show (8 : Int32) ≤ nI n from nI_le (a := 8) q8 (by omega)), nI_1]
        obtain ⟨x4', a1, a2⟩ := ih (n + 1) N x4 (by omega) (by omega)
        exact ⟨x4', a1, fun a _ z => by omega⟩
      · have hne : ¬ nI (b (i + n)) = 0 := nI_ne0 (by have := r_alnum hal; omega) (by omega)
        rw [if_neg (show ¬ (8 : Int32) ≤ nI n from nI_ge (b := 8) (by omega) (by decide)), nI_add, m_at h (by omega), y_bd, e0]
        have : ∃ x5, fX12_more F x4 (nI (b (i + n))) = some x5 := by
          unfold fX12_more
          rw [if_neg hne, hk, y_bd]
          split <;> exact ⟨_, rfl⟩
        obtain ⟨x5, hx5⟩ := this
        rw [hx5, y_bd, fX12_cut_b131, nI_1]
        obtain ⟨x4', a1, a2⟩ := ih (n + 1) N x5 (by omega) (by omega)
        refine ⟨x4', a1, fun a ha z => ?_⟩
        subst ha
        rw [m_more hal] at hx5
        have := a2 (37 * a + r_d37 (b (i + n))) (Option.some.inj hx5).symm z
        rw [this, r_str_cons (show i + n < e by omega)]
        rfl
    rw [fX12_cut_l85, nI_add, m_at h (by omega), y_bd, e0, hl2, y_bd]
    by_cases q : r_lt (b (i + n)) = true
    · rw [if_pos q, if_neg (show ¬ (1 : Int32) = 0 by decide)]; exact go
    · rw [if_neg q, if_pos rfl, y_bd, hk, y_bd]
      have q' : r_lt (b (i + n)) = false := by simpa using q
      rw [q', Bool.false_or] at hal
      rw [if_pos hal, if_neg (show ¬ (1 : Int32) = 0 by decide)]; exact go
theorem m_wdl (hw : r_mw V7) {k7 : zV → Int32 → Option zV} {x1 x3 : Int32} {s : List Nat} (hs : r_an s) (h8 : s.length ≤ 8) : ∀ (n N i x : Nat) (l : List (List Nat)), r_mwords.drop i = l → l.length = n → i + n = 27 → n + 1 ≤ N →
    fX12_cut_l159 F k7 N V7 x1 x3 (lN (r_pk 37 r_d37 0 s)) (nI x) (nI i) = fX12_cut_b192 F k7 V7 x1 x3 (lN (r_pk 37 r_d37 0 s)) (nI (r_ml2 s l i x)) := by
  intro n
  induction n with
  | zero =>
    intro N i x l hl hn hi hN
    obtain ⟨N, rfl⟩ : ∃ N', N = N' + 1 := ⟨N - 1, by omega⟩
    have : l = [] := List.length_eq_zero_iff.mp hn
    subst this
    rw [fX12_cut_l159, if_pos (show (27 : Int32) ≤ nI i from nI_le (a := 27) (by omega) (by omega))]; rfl
  | succ n ih =>
    intro N i x l hl hn hi hN
    obtain ⟨N, rfl⟩ : ∃ N', N = N' + 1 := ⟨N - 1, by omega⟩
    cases l with
    | nil => cases hn
    | cons w l =>
      have ew : r_mwords[i]? = some w := by
        have : (r_mwords.drop i)[0]? = some w := by rw [hl]; rfl
        rw [List.getElem?_drop] at this; exact this
      have ed : r_mwords.drop (i + 1) = l := by
        have : (r_mwords.drop i).tail = l := by rw [hl]; rfl
        rw [List.tail_drop] at this; exact this
      obtain ⟨hwa, hw6⟩ := r_mwords_an i w ew
      rw [fX12_cut_l159, if_neg (show ¬ (27 : Int32) ≤ nI i from nI_ge (b := 27) (by omega) (by decide)), y_ck (by omega) (by decide), nI_clamp (by omega), hw i w ew, r_ml2]
      by_cases q : w = s
      · subst q
        rw [if_pos ((lg_cmp_eq _ _).mpr rfl), if_pos rfl, y_let, fX12_cut_b186, show (20 : Int32) = nI 20 from rfl, nI_add, nI_1]
        exact ih N (i + 1) (20 + i) l ed (by simpa using hn) (by omega) (by omega)
      · rw [if_neg (fun z => q ((r_pk37_eq hwa hs).mp ((pk_lEQ (r_pk_37 hwa (by omega)) (r_pk_37 hs h8)).mp ((lg_cmp_eq _ _).mp z)))), if_neg q, fX12_cut_b186, nI_1]
        exact ih N (i + 1) x l ed (by simpa using hn) (by omega) (by omega)
/-! ints -/
theorem m_digs (h : r_mb b L V7) {k7 : zV → Int32 → Option zV} {i e : Nat} (hi : i < L) (hl : r_lt (b i) = false) (hd : r_dg (b i) = true) (he : e = r_te b L i) : ∀ (r n N : Nat) (x4 : Int32), n + r = e - i → r + 1 ≤ N →
    ∃ x4', fX12_cut_l221 F k7 N V7 (nI i) (nI n) x4 = fX12_cut_b274 F k7 V7 (nI i) (nI (e - i)) x4' (if e - i ≤ 5 then 2 else 3) ∧ (∀ a, x4 = nI a → e - i ≤ 5 → x4' = nI (r_pk 10 (fun c => c - 48) a (r_str b (i + n) e))) := by
  have hL := h.1
  have hte := r_te_le (b := b) hi
  intro r
  induction r with
  | zero =>
    intro n N x4 en hN
    obtain ⟨N, rfl⟩ : ∃ N', N = N' + 1 := ⟨N - 1, by omega⟩
    have e1 : i + n = e := by omega
    have hnot : r_dg (r_at0 b L e) = false := by
      unfold r_at0
      by_cases q : e < L
      · rw [if_pos q]
        have : r_te b L i = r_sp (fun k => r_dg (b k)) (L - (i + 1)) (i + 1) := by unfold r_te; rw [if_neg (by omega), if_neg (by rw [hl]; decide), if_pos hd]
        have hz := r_sp_not (fun k => r_dg (b k)) (L - (i + 1)) (i + 1) (by omega)
        rw [← this, ← he] at hz
        exact hz
      · rw [if_neg q]; decide
    have hlt := r_at0_lt h e
    have hk : fX12_isDigit F (nI (r_at0 b L e)) = some (if r_dg (r_at0 b L e) = true then 1 else 0) := r_nI_dg ⟨_, hlt⟩
    rw [fX12_cut_l221, nI_add, m_at h (by omega), y_bd, e1, hk, hnot, if_neg (show ¬ false = true by decide), y_bd, if_pos rfl]
    have en' : n = e - i := by omega
    subst en'
    refine ⟨x4, ?_, fun a ha _ => ?_⟩
    · by_cases q : e - i ≤ 5
      · rw [if_pos (show nI (e - i) ≤ (5 : Int32) from nI_le (b := 5) q (by decide)), if_pos q]
      · rw [if_neg (show ¬ nI (e - i) ≤ (5 : Int32) from nI_ge (a := 5) (by omega) (by omega)), if_neg q]
    · rw [ha]
      unfold r_str
      rw [Nat.sub_self]; rfl
  | succ r ih =>
    intro n N x4 en hN
    obtain ⟨N, rfl⟩ : ∃ N', N = N' + 1 := ⟨N - 1, by omega⟩
    have hal := r_te_dg hi hl hd (show i ≤ i + n by omega) (show i + n < r_te b L i by omega)
    have e0 : r_at0 b L (i + n) = b (i + n) := if_pos (by omega)
    have hlt := h.2.1 (i + n)
    have hbd : 48 ≤ b (i + n) ∧ b (i + n) ≤ 57 := by unfold r_dg at hal; exact of_decide_eq_true hal
    have hk : fX12_isDigit F (nI (b (i + n))) = some (if r_dg (b (i + n)) = true then 1 else 0) := r_nI_dg ⟨_, hlt⟩
    rw [fX12_cut_l221, nI_add, m_at h (by omega), y_bd, e0, hk, if_pos hal, y_bd, if_neg (show ¬ (1 : Int32) = 0 by decide), fX12_cut_b257]
    by_cases q8 : 5 ≤ n
    · rw [if_pos (show (5 : Int32) ≤ nI n from nI_le (a := 5) q8 (by omega)), nI_1]
      obtain ⟨x4', a1, a2⟩ := ih (n + 1) N x4 (by omega) (by omega)
      exact ⟨x4', a1, fun a _ z => by omega⟩
    · rw [if_neg (show ¬ (5 : Int32) ≤ nI n from nI_ge (b := 5) (by omega) (by decide)), y_bd, y_let, fX12_cut_b257, nI_1]
      obtain ⟨x4', a1, a2⟩ := ih (n + 1) N (((10 : Int32) * x4) + nI (b (i + n)) - 48) (by omega) (by omega)
      refine ⟨x4', a1, fun a ha z => ?_⟩
      subst ha
      have := a2 (10 * a + (b (i + n) - 48)) (by rw [show (10 : Int32) = nI 10 from rfl, pk_mul, nI_add, show (48 : Int32) = nI 48 from rfl, pk_sub (by omega)]; congr 1; omega) z
      rw [this, r_str_cons (show i + n < e by omega)]
      rfl
/-! signs -/
theorem m_sg1 {x1 : Int32} {c : Nat} (hc : c < 256) : fX12_sign_b44 F V7 x1 (nI c) 0 = fX12_sign_b173 F V7 x1 0 (nI (r_rk (r_ss c))) := by
  rw [fX12_sign_b44, if_pos (show (0 : Int32) ≤ 0 by decide)]
  by_cases q59 : c = 59
  · subst q59; rw [if_pos (show nI 59 = (59 : Int32) from rfl)]; rfl
  rw [if_neg (show ¬ nI c = (59 : Int32) from fun z => q59 ((nI_eq (b := 59) (by omega) (by decide)).mp z))]
  by_cases q58 : c = 58
  · subst q58; rw [if_pos (show nI 58 = (58 : Int32) from rfl)]; rfl
  rw [if_neg (show ¬ nI c = (58 : Int32) from fun z => q58 ((nI_eq (b := 58) (by omega) (by decide)).mp z))]
  by_cases q44 : c = 44
  · subst q44; rw [if_pos (show nI 44 = (44 : Int32) from rfl)]; rfl
  rw [if_neg (show ¬ nI c = (44 : Int32) from fun z => q44 ((nI_eq (b := 44) (by omega) (by decide)).mp z))]
  by_cases q40 : c = 40
  · subst q40; rw [if_pos (show nI 40 = (40 : Int32) from rfl)]; rfl
  rw [if_neg (show ¬ nI c = (40 : Int32) from fun z => q40 ((nI_eq (b := 40) (by omega) (by decide)).mp z))]
  by_cases q41 : c = 41
  · subst q41; rw [if_pos (show nI 41 = (41 : Int32) from rfl)]; rfl
  rw [if_neg (show ¬ nI c = (41 : Int32) from fun z => q41 ((nI_eq (b := 41) (by omega) (by decide)).mp z))]
  by_cases q43 : c = 43
  · subst q43; rw [if_pos (show nI 43 = (43 : Int32) from rfl)]; rfl
  rw [if_neg (show ¬ nI c = (43 : Int32) from fun z => q43 ((nI_eq (b := 43) (by omega) (by decide)).mp z))]
  by_cases q45 : c = 45
  · subst q45; rw [if_pos (show nI 45 = (45 : Int32) from rfl)]; rfl
  rw [if_neg (show ¬ nI c = (45 : Int32) from fun z => q45 ((nI_eq (b := 45) (by omega) (by decide)).mp z))]
  by_cases q42 : c = 42
  · subst q42; rw [if_pos (show nI 42 = (42 : Int32) from rfl)]; rfl
  rw [if_neg (show ¬ nI c = (42 : Int32) from fun z => q42 ((nI_eq (b := 42) (by omega) (by decide)).mp z))]
  by_cases q60 : c = 60
  · subst q60; rw [if_pos (show nI 60 = (60 : Int32) from rfl)]; rfl
  rw [if_neg (show ¬ nI c = (60 : Int32) from fun z => q60 ((nI_eq (b := 60) (by omega) (by decide)).mp z))]
  have : r_ss c = 42 := by
    unfold r_ss
    repeat' split
    all_goals first | rfl | contradiction
  rw [this]; rfl
end
