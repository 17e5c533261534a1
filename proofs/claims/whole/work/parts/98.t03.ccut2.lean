/-! ===== the class cuts a text: values, words, kinds ===== -/
section
variable {F : Nat} {b : Nat → Nat} {L : Nat} {V0 V1 : zV}
theorem r_alnum {c : Nat} (h : (r_lt c || r_dg c) = true) : c < 128 ∧ 48 ≤ c := by
  unfold r_lt r_dg at h
  simp only [Bool.or_eq_true, decide_eq_true_eq] at h
  omega
theorem r_str_get {s e i : Nat} (h : i < e - s) : (r_str b s e)[i]? = some (b (s + i)) := by
  unfold r_str
  rw [List.getElem?_map, List.getElem?_range' h]
  simp
theorem r_str_len {s e : Nat} : (r_str b s e).length = e - s := by unfold r_str; simp
theorem r_str_cons {s e : Nat} (h : s < e) : r_str b s e = b s :: r_str b (s + 1) e := by
  unfold r_str
  rw [show e - s = (e - (s + 1)) + 1 by omega, List.range'_succ, List.map_cons]
theorem r_str_mem {s e c : Nat} (h : c ∈ r_str b s e) : ∃ i, s ≤ i ∧ i < e ∧ c = b i := by
  unfold r_str at h
  obtain ⟨i, hi, rfl⟩ := List.mem_map.mp h
  have := List.mem_range'_1.mp hi
  exact ⟨i, by omega, by omega, rfl⟩
/-- all signs of a name or word -/
theorem r_te_al {s : Nat} (hs : s < L) (hl : r_lt (b s) = true) {i : Nat} (h1 : s ≤ i) (h2 : i < r_te b L s) : (r_lt (b i) || r_dg (b i)) = true := by
  unfold r_te at h2
  rw [if_neg (by omega), if_pos hl] at h2
  by_cases q : i = s
  · subst q; rw [hl]; rfl
  · exact r_sp_all (fun k => r_lt (b k) || r_dg (b k)) _ _ i (by omega) h2
theorem r_te_dg {s : Nat} (hs : s < L) (hl : r_lt (b s) = false) (hd : r_dg (b s) = true) {i : Nat} (h1 : s ≤ i) (h2 : i < r_te b L s) : r_dg (b i) = true := by
  unfold r_te at h2
  rw [if_neg (by omega), if_neg (by rw [hl]; decide), if_pos hd] at h2
  by_cases q : i = s
  · subst q; exact hd
  · exact r_sp_all (fun k => r_dg (b k)) _ _ i (by omega) h2
theorem c_valn (h : r_cb b L V0) {e : Nat} (he : e ≤ L) {k : Int32} (hk : ¬ k = 28) : ∀ (n N i a m : Nat), i + n = e → n + 1 ≤ N → a < 256 ^ m → m + n ≤ 8 → (∀ j, i ≤ j → j < e → b j < 128) →
    fX10_valueOf_l10 F N V0 (nI e) k (lN a) (nI i) = some (lN (r_pk 256 id a (r_str b i e))) := by
  obtain ⟨hL, hb, ht⟩ := h
  intro n
  induction n with
  | zero =>
    intro N i a m e1 hN ha hm hc
    obtain ⟨N, rfl⟩ : ∃ N', N = N' + 1 := ⟨N - 1, by omega⟩
    rw [fX10_valueOf_l10, if_pos (nI_le (by omega) (by omega))]
    unfold r_str
    rw [show e - i = 0 by omega]; rfl
  | succ n ih =>
    intro N i a m e1 hN ha hm hc
    obtain ⟨N, rfl⟩ : ∃ N', N = N' + 1 := ⟨N - 1, by omega⟩
    have hbi := hc i (Nat.le_refl _) (by omega)
    have ha7 : a < 2 ^ 56 := by
      have : 256 ^ m ≤ 256 ^ 7 := Nat.pow_le_pow_right (by decide) (by omega)
      have e7 : (256 : Nat) ^ 7 = 2 ^ 56 := by decide
      omega
    have e128 : r_sg (b i) = nI (b i) := r_sg_low ⟨b i, hbi⟩
    rw [fX10_valueOf_l10, if_neg (nI_ge (by omega) (by omega)), if_neg (show ¬ (4000 : Int32) ≤ nI i from nI_ge (b := 4000) (by omega) (by decide)), if_neg hk, y_ck (by omega) (by decide), fX10_valueOf_b58, nI_clamp (by omega), ht i (by omega), e128, nI_l (by omega), nI_1, r_str_cons (by omega)]
    have e8 : (lN a <<< (((8 : Int32)).toInt64 &&& 63)) ||| lN (b i) = lN (256 * a + b i) := r_l8 ha7 (by omega)
    rw [e8]
    have a1 : 256 * a + b i < 256 ^ (m + 1) := by
      have : 256 * (a + 1) ≤ 256 * 256 ^ m := Nat.mul_le_mul_left 256 (by omega)
      rw [Nat.pow_succ, Nat.mul_comm]
      omega
    exact ih N (i + 1) (256 * a + b i) (m + 1) (by omega) (by omega) a1 (by omega) (fun j h1 h2 => hc j (by omega) h2)
end
section
variable {F : Nat} {b : Nat → Nat} {L : Nat} {V0 V1 : zV}
theorem c_vald (h : r_cb b L V0) {e : Nat} (he : e ≤ L) : ∀ (n N i a m : Nat), i + n = e → n + 1 ≤ N → a < 10 ^ m → m + n ≤ 5 → (∀ j, i ≤ j → j < e → r_dg (b j) = true) →
    fX10_valueOf_l10 F N V0 (nI e) 28 (lN a) (nI i) = some (lN (r_pk 10 (fun c => c - 48) a (r_str b i e))) := by
  obtain ⟨hL, hb, ht⟩ := h
  intro n
  induction n with
  | zero =>
    intro N i a m e1 hN ha hm hc
    obtain ⟨N, rfl⟩ : ∃ N', N = N' + 1 := ⟨N - 1, by omega⟩
    rw [fX10_valueOf_l10, if_pos (nI_le (by omega) (by omega))]
    unfold r_str
    rw [show e - i = 0 by omega]; rfl
  | succ n ih =>
    intro N i a m e1 hN ha hm hc
    obtain ⟨N, rfl⟩ : ∃ N', N = N' + 1 := ⟨N - 1, by omega⟩
    have hbi := hc i (Nat.le_refl _) (by omega)
    have hbd : 48 ≤ b i ∧ b i ≤ 57 := by unfold r_dg at hbi; exact of_decide_eq_true hbi
    have e128 : r_sg (b i) = nI (b i) := r_sg_low ⟨b i, by omega⟩
    rw [fX10_valueOf_l10, if_neg (nI_ge (by omega) (by omega)), if_neg (show ¬ (4000 : Int32) ≤ nI i from nI_ge (b := 4000) (by omega) (by decide)), if_pos rfl, y_ck (by omega) (by decide), fX10_valueOf_b58, nI_clamp (by omega), ht i (by omega), e128, show (48 : Int32) = nI 48 from rfl, pk_sub hbd.1, nI_l (by omega), show (10 : Int64) = lN 10 from rfl, lN_mul, lN_add, nI_1, r_str_cons (by omega), Nat.mul_comm a 10]
    have a1 : 10 * a + (b i - 48) < 10 ^ (m + 1) := by
      have : 10 * (a + 1) ≤ 10 * 10 ^ m := Nat.mul_le_mul_left 10 (by omega)
      rw [Nat.pow_succ, Nat.mul_comm]
      omega
    exact ih N (i + 1) (10 * a + (b i - 48)) (m + 1) (by omega) (by omega) a1 (by omega) (fun j h1 h2 => hc j (by omega) h2)
/-- the class's row of words -/
def r_cw (V1 : zV) : Prop := ∀ (k : Nat) (w : List Nat), r_words[k]? = some w → zB V1 1 k = lN (r_pk 256 id 0 w)
theorem r_pk_snoc {B : Nat} {f : Nat → Nat} (l : List Nat) (c : Nat) : r_pk B f 0 (l.concat c) = B * r_pk B f 0 l + f c := by
  unfold r_pk
  rw [List.concat_eq_append, List.foldl_append]; rfl
theorem r_pk_inj {B : Nat} {f : Nat → Nat} : ∀ (n : Nat) (l m : List Nat), l.length = n → (∀ c ∈ l, 1 ≤ f c ∧ f c < B) → (∀ c ∈ m, 1 ≤ f c ∧ f c < B) → r_pk B f 0 l = r_pk B f 0 m → l.map f = m.map f := by
  intro n
  induction n with
  | zero =>
    intro l m hn hl hm h
    have : l = [] := List.length_eq_zero_iff.mp hn
    subst this
    rcases List.eq_nil_or_concat m with rfl | ⟨m', c, rfl⟩
    · rfl
    · rw [r_pk_snoc] at h
      have := hm c (by simp)
      have h : 0 = B * r_pk B f 0 m' + f c := h
      omega
  | succ n ih =>
    intro l m hn hl hm h
    rcases List.eq_nil_or_concat l with rfl | ⟨l', d, rfl⟩
    · cases hn
    rcases List.eq_nil_or_concat m with rfl | ⟨m', c, rfl⟩
    · rw [r_pk_snoc] at h
      have := hl d (by simp)
      have h : B * r_pk B f 0 l' + f d = 0 := h
      omega
    · rw [r_pk_snoc, r_pk_snoc] at h
      have h1 := hl d (by simp)
      have h2 := hm c (by simp)
      have e1 : f d = f c := by
        have := congrArg (· % B) h
        simp only [Nat.mul_add_mod] at this
        rw [Nat.mod_eq_of_lt h1.2, Nat.mod_eq_of_lt h2.2] at this
        exact this
      have e2 : r_pk B f 0 l' = r_pk B f 0 m' := by
        rw [e1] at h
        exact Nat.eq_of_mul_eq_mul_left (by omega) (Nat.add_right_cancel h)
      have e3 := ih l' m' (by simpa using hn) (fun c hc => hl c (by simp [hc])) (fun c hc => hm c (by simp [hc])) e2
      simp [List.concat_eq_append, e1, e3]
/-- letters and digits -/
def r_an (l : List Nat) : Prop := ∀ c ∈ l, (r_lt c || r_dg c) = true
theorem r_pk_eq {l m : List Nat} (hl : r_an l) (hm : r_an m) : r_pk 256 id 0 l = r_pk 256 id 0 m ↔ l = m := by
  constructor
  · intro h
    have := r_pk_inj l.length l m rfl (fun c hc => by have := r_alnum (hl c hc); simp only [id]; omega) (fun c hc => by have := r_alnum (hm c hc); simp only [id]; omega) h
    rwa [List.map_id, List.map_id] at this
  · rintro rfl; rfl
theorem r_pk_256 {l : List Nat} (hl : r_an l) (h8 : l.length ≤ 8) : r_pk 256 id 0 l < 2 ^ 63 := by
  cases l with
  | nil => show 0 < 2 ^ 63; decide
  | cons c l =>
    have hc := r_alnum (hl c (List.mem_cons_self ..))
    have h := r_pk_lt (B := 256) (f := id) (by decide) l c 1 (fun d hd => by have := r_alnum (hl d (List.mem_cons_of_mem _ hd)); simp only [id]; omega) (by omega)
    have h8 : l.length + 1 ≤ 8 := h8
    -- the first letter is below 128
    have g : ∀ (l : List Nat) (a n : Nat), (∀ d ∈ l, d < 256) → a < 128 * 256 ^ n → r_pk 256 id a l < 128 * 256 ^ (n + l.length) := by
      intro l
      induction l with
      | nil => intro a n _ h; exact h
      | cons d l ih =>
        intro a n h1 h2
        have q := h1 d (List.mem_cons_self ..)
        have := ih (256 * a + d) (n + 1) (fun x hx => h1 x (List.mem_cons_of_mem _ hx)) (by rw [Nat.pow_succ]; omega)
        rw [List.length_cons, show n + (l.length + 1) = n + 1 + l.length by omega]
        exact this
    have h2 := g l c 0 (fun d hd => by have := r_alnum (hl d (List.mem_cons_of_mem _ hd)); omega) (by omega)
    have h3 : 256 ^ (0 + l.length) ≤ 256 ^ 7 := Nat.pow_le_pow_right (by decide) (by omega)
    have e7 : (256 : Nat) ^ 7 = 2 ^ 56 := by decide
    show r_pk 256 id (256 * 0 + c) l < 2 ^ 63
    rw [show 256 * 0 + c = c by omega]
    omega
theorem r_words_an : ∀ (k : Nat) (w : List Nat), r_words[k]? = some w → r_an w ∧ w.length ≤ 6 := by
  have : ∀ w ∈ r_words, (∀ c ∈ w, (r_lt c || r_dg c) = true) ∧ w.length ≤ 6 := by decide +kernel
  intro k w h
  exact this w (List.mem_of_getElem? h)
theorem c_wdl (hw : r_cw V1) {s : List Nat} (hs : r_an s) (h8 : s.length ≤ 8) : ∀ (n N i : Nat) (l : List (List Nat)), r_words.drop i = l → l.length = n → i + n = 27 → n + 1 ≤ N → fX10_wordOrName_l2 F N V1 (lN (r_pk 256 id 0 s)) (nI i) = some (nI (r_fi s l i)) := by
  intro n
  induction n with
  | zero =>
    intro N i l hl hn hi hN
    obtain ⟨N, rfl⟩ : ∃ N', N = N' + 1 := ⟨N - 1, by omega⟩
    have : l = [] := List.length_eq_zero_iff.mp hn
    subst this
    rw [fX10_wordOrName_l2, if_pos (show (27 : Int32) ≤ nI i from nI_le (a := 27) (by omega) (by omega))]; rfl
  | succ n ih =>
    intro N i l hl hn hi hN
    obtain ⟨N, rfl⟩ : ∃ N', N = N' + 1 := ⟨N - 1, by omega⟩
    cases l with
    | nil => cases hn
    | cons w l =>
      have ew : r_words[i]? = some w := by
        have : (r_words.drop i)[0]? = some w := by rw [hl]; rfl
        rw [List.getElem?_drop] at this; exact this
      have ed : r_words.drop (i + 1) = l := by
        have : (r_words.drop i).tail = l := by rw [hl]; rfl
        rw [List.tail_drop] at this; exact this
      obtain ⟨hwa, hw6⟩ := r_words_an i w ew
      rw [fX10_wordOrName_l2, if_neg (show ¬ (27 : Int32) ≤ nI i from nI_ge (b := 27) (by omega) (by decide)), y_ck (by omega) (by decide), nI_clamp (by omega), hw i w ew, r_fi, nI_1]
      by_cases q : w = s
      · subst q
        rw [if_pos ((lg_cmp_eq _ _).mpr rfl), if_pos rfl]
      · rw [if_neg (fun z => q ((r_pk_eq hwa hs).mp ((pk_lEQ (r_pk_256 hwa (by omega)) (r_pk_256 hs h8)).mp ((lg_cmp_eq _ _).mp z)))), if_neg q]
        exact ih N (i + 1) l ed (by simpa using hn) (by omega) (by omega)
theorem r_str_an {s : Nat} (hs : s < L) (hl : r_lt (b s) = true) : r_an (r_str b s (r_te b L s)) := by
  intro c hc
  obtain ⟨i, h1, h2, rfl⟩ := r_str_mem hc
  exact r_te_al hs hl h1 h2
theorem c_name (h : r_cb b L V0) (hF : 4001 ≤ F) {s : Nat} (hs : s < L) (hl : r_lt (b s) = true) (h8 : r_te b L s - s ≤ 8) : fX10_valueOf F V0 (nI s) (nI (r_te b L s)) 27 = some (lN (r_pk 256 id 0 (r_str b s (r_te b L s)))) := by
  have h' := h
  obtain ⟨hL, hb, ht⟩ := h'
  have te := r_te_le (b := b) hs
  unfold fX10_valueOf
  rw [y_let]
  have e0 : (if (0 : Int32) < nI s then nI s else 0) = nI s := by
    by_cases q : s = 0
    · subst q; rfl
    · rw [if_pos (r_gt0 (by omega) (by omega))]
  rw [e0]
  exact c_valn h te.2 (by decide) (r_te b L s - s) F s 0 0 (by omega) (by omega) (by decide) (by omega) (fun j h1 h2 => (r_alnum (r_te_al hs hl h1 h2)).1)
theorem c_int (h : r_cb b L V0) (hF : 4001 ≤ F) {s : Nat} (hs : s < L) (hl : r_lt (b s) = false) (hd : r_dg (b s) = true) (h5 : r_te b L s - s ≤ 5) : fX10_valueOf F V0 (nI s) (nI (r_te b L s)) 28 = some (lN (r_dec (r_str b s (r_te b L s)))) := by
  have h' := h
  obtain ⟨hL, hb, ht⟩ := h'
  have te := r_te_le (b := b) hs
  unfold fX10_valueOf
  rw [y_let]
  have e0 : (if (0 : Int32) < nI s then nI s else 0) = nI s := by
    by_cases q : s = 0
    · subst q; rfl
    · rw [if_pos (r_gt0 (by omega) (by omega))]
  rw [e0]
  exact c_vald h te.2 (r_te b L s - s) F s 0 0 (by omega) (by omega) (by decide) (by omega) (fun j h1 h2 => r_te_dg hs hl hd h1 h2)
theorem r_sg_ss : ∀ n : Fin 256, fX10_shortSign 0 (r_sg n.1) = some (nI (r_ss n.1)) := by decide +kernel
theorem r_sg_ls : ∀ n : Fin 256, fX10_longSign 0 (r_sg n.1) = some (nI (if n.1 = 33 then 38 else if n.1 = 61 then 37 else 40)) := by decide +kernel
theorem c_kind (h : r_cb b L V0) (hF : 4001 ≤ F) (hw : r_cw V1) {s : Nat} (hs : s ≤ L) : fX10_kindOf F V0 V1 (nI s) (nI (r_te b L s)) = some (nI (r_kd b L s)) := by
  have h' := h
  obtain ⟨hL, hb, ht⟩ := h'
  have teL := r_te_L (b := b) hs
  unfold fX10_kindOf r_kd
  rw [if_neg (nI_pos (by omega))]
  by_cases q : L ≤ s
  · have : r_te b L s = L := by unfold r_te; rw [if_pos q]
    rw [this, if_pos (nI_le (by omega) (by omega)), if_pos q]; rfl
  have te := r_te_le (b := b) (show s < L by omega)
  have hk : fX10_isDigit F (r_sg (b s)) = some (if r_dg (b s) = true then 1 else 0) := r_sg_dg ⟨b s, hb s⟩
  have hl : fX10_isLetter F (r_sg (b s)) = some (if r_lt (b s) = true then 1 else 0) := r_sg_lt ⟨b s, hb s⟩
  have hss : fX10_shortSign F (r_sg (b s)) = some (nI (r_ss (b s))) := r_sg_ss ⟨b s, hb s⟩
  have hls : fX10_longSign F (r_sg (b s)) = some (nI (if b s = 33 then 38 else if b s = 61 then 37 else 40)) := r_sg_ls ⟨b s, hb s⟩
  rw [if_neg (nI_ge (by omega) (by omega)), if_neg q, if_pos (show nI (r_te b L s) ≤ (4000 : Int32) from nI_le (b := 4000) (by omega) (by decide)), y_ck (by omega) (by decide), nI_clamp (by omega), ht s (by omega), y_let, hl, y_bd, hk, y_bd, hls, y_bd, hss, y_bd, pk_sub (by omega)]
  by_cases q1 : r_lt (b s) = true
  · rw [if_pos q1, if_neg (show ¬ (1 : Int32) = 0 by decide), if_pos q1]
    by_cases q8 : r_te b L s - s ≤ 8
    · have hn := c_name (F := F) h hF (show s < L by omega) q1 q8
      rw [if_pos (show nI (r_te b L s - s) ≤ (8 : Int32) from nI_le (b := 8) q8 (by decide)), if_pos q8, hn, y_bd]
      have hwd := c_wdl (F := F) hw (r_str_an (show s < L by omega) q1) (by rw [r_str_len]; exact q8) 27 F 0 r_words rfl rfl rfl (by omega)
      unfold fX10_wordOrName
      rw [show (0 : Int32) = nI 0 from rfl, hwd, y_bd]
    · rw [if_neg (show ¬ nI (r_te b L s - s) ≤ (8 : Int32) from nI_ge (a := 8) (by omega) (by omega)), if_neg q8]; rfl
  rw [if_neg q1, if_pos rfl, if_neg q1]
  by_cases q2 : r_dg (b s) = true
  · rw [if_pos q2, if_neg (show ¬ (1 : Int32) = 0 by decide), if_pos q2]
    by_cases q5 : r_te b L s - s ≤ 5
    · rw [if_pos (show nI (r_te b L s - s) ≤ (5 : Int32) from nI_le (b := 5) q5 (by decide)), if_pos q5]; rfl
    · rw [if_neg (show ¬ nI (r_te b L s - s) ≤ (5 : Int32) from nI_ge (a := 5) (by omega) (by omega)), if_neg q5]; rfl
  rw [if_neg q2, if_pos rfl, if_neg q2]
  by_cases q3 : r_te b L s - s = 2
  · rw [if_pos q3, q3, if_pos (show nI 2 = (2 : Int32) from rfl)]
  · rw [if_neg q3, if_neg (show ¬ nI (r_te b L s - s) = (2 : Int32) from fun z => q3 ((nI_eq (b := 2) (by omega) (by decide)).mp z))]
theorem r_nb : ∀ q : Fin 128, vp_nar .byte (nI q.1).toInt8.toInt32 = nI q.1 := by decide +kernel
/-- a token's value in the class -/
def r_tv (b : Nat → Nat) (L k : Nat) : Int64 := if r_tK b L k = 27 then lN (r_pk 256 id 0 (r_tW b L k)) else if r_tK b L k = 28 then lN (r_tV b L k) else 0
/-- k tokens lie in the class's rows -/
def r_ct (b : Nat → Nat) (L k : Nat) (V1 : zV) : Prop := zI V1 0 4 = nI k ∧ ∀ j, j < k → zA V1 2 j = nI (r_tK b L j) ∧ zA V1 3 j = nI (r_tS b L j) ∧ zB V1 4 j = r_tv b L j
theorem c_cutl (h : r_cb b L V0) (hF : 4001 ≤ F) : ∀ (n N k q : Nat) (V1 : zV), k + n = 1002 → n + 1 ≤ N → r_cw V1 → r_ct b L k V1 → q ≤ 42 →
    ∃ V1' M, fX10_cut_l29 F N V0 V1 (nI L) (nI (r_ps b L k)) (nI q) = some V1' ∧ r_ct b L M V1' ∧ k ≤ M ∧ M ≤ 1002 ∧ r_fq [(0, 4)] [2, 3] [4] V1 V1' ∧
      (∀ j, k ≤ j → j + 1 < M → ¬ r_tK b L j = 41 ∧ ¬ r_tK b L j = 42) ∧ ((q = 41 ∨ q = 42) → M = k) ∧ (¬ (q = 41 ∨ q = 42) → k < 1002 → k < M) ∧ (k < M → M = 1002 ∨ r_tK b L (M - 1) = 41 ∨ r_tK b L (M - 1) = 42) := by
  obtain ⟨hL, hb, ht⟩ := id h
  intro n
  induction n with
  | zero =>
    intro N k q V1 e hN hw hc hq
    obtain ⟨N, rfl⟩ : ∃ N', N = N' + 1 := ⟨N - 1, by omega⟩
    rw [fX10_cut_l29, hc.1, if_pos (show (1002 : Int32) ≤ nI k from nI_le (a := 1002) (by omega) (by omega))]
    exact ⟨V1, k, rfl, hc, Nat.le_refl _, by omega, r_fq_refl, fun j h1 h2 => by omega, fun _ => rfl, fun _ z => by omega, fun z => by omega⟩
  | succ n ih =>
    intro N k q V1 e hN hw hc hq
    obtain ⟨N, rfl⟩ : ∃ N', N = N' + 1 := ⟨N - 1, by omega⟩
    rw [fX10_cut_l29, hc.1, if_neg (show ¬ (1002 : Int32) ≤ nI k from nI_ge (b := 1002) (by omega) (by decide))]
    by_cases q1 : q = 41
    · subst q1
      rw [if_pos (show nI 41 = (41 : Int32) from rfl)]
      exact ⟨V1, k, rfl, hc, Nat.le_refl _, by omega, r_fq_refl, fun j h1 h2 => by omega, fun _ => rfl, fun z => absurd (Or.inl rfl) z, fun z => by omega⟩
    rw [if_neg (show ¬ nI q = (41 : Int32) from fun z => q1 ((nI_eq (b := 41) (by omega) (by decide)).mp z))]
    by_cases q2 : q = 42
    · subst q2
      rw [if_pos (show nI 42 = (42 : Int32) from rfl)]
      exact ⟨V1, k, rfl, hc, Nat.le_refl _, by omega, r_fq_refl, fun j h1 h2 => by omega, fun _ => rfl, fun z => absurd (Or.inr rfl) z, fun z => by omega⟩
    rw [if_neg (show ¬ nI q = (42 : Int32) from fun z => q2 ((nI_eq (b := 42) (by omega) (by decide)).mp z))]
    have pL := r_ps_L b L k
    have sL := r_tS_L b L k
    have kle := r_kd_le b L (r_tS b L k)
    have e1 : fX10_behindBlanks F V0 (nI (r_ps b L k)) (nI L) = some (nI (r_tS b L k)) := c_blanks h (L - r_ps b L k) F (r_ps b L k) (by omega) (by omega)
    have e2 := c_te (F := F) h hF sL
    have e3 := c_kind (F := F) h hF hw sL
    have eps : r_ps b L (k + 1) = r_te b L (r_tS b L k) := rfl
    have g1 : ∀ f, zI (zsA V1 2 f) 0 4 = nI k := fun _ => hc.1
    have g2 : ∀ f g, zI (zsA (zsA V1 2 f) 3 g) 0 4 = nI k := fun _ _ => hc.1
    have g3 : ∀ f g v, zI (zsB (zsA (zsA V1 2 f) 3 g) 4 v) 0 4 = nI k := fun _ _ _ => hc.1
    have g4 : ∀ f, zA (zsA V1 2 f) 3 = zA V1 3 := fun _ => rfl
    have g5 : ∀ f g, zB (zsA (zsA V1 2 f) 3 g) 4 = zB V1 4 := fun _ _ => rfl
    have nb : vp_nar .byte (nI (r_kd b L (r_tS b L k))).toInt8.toInt32 = nI (r_tK b L k) := r_nb ⟨r_kd b L (r_tS b L k), by omega⟩
    -- what follows when the value is laid
    have fin : ∀ v : Int64, v = r_tv b L k → ∃ V1' M, fX10_cut_b141 F (fX10_cut_l29 F N) V0 (zsA (zsA V1 2 (upd (zA V1 2) k (nI (r_tK b L k)))) 3 (upd (zA V1 3) k (nI (r_tS b L k)))) (nI L) (nI (r_tK b L k)) (nI (r_te b L (r_tS b L k))) (nI k) v = some V1' ∧ r_ct b L M V1' ∧ k ≤ M ∧ M ≤ 1002 ∧ r_fq [(0, 4)] [2, 3] [4] V1 V1' ∧
      (∀ j, k ≤ j → j + 1 < M → ¬ r_tK b L j = 41 ∧ ¬ r_tK b L j = 42) ∧ ((q = 41 ∨ q = 42) → M = k) ∧ (¬ (q = 41 ∨ q = 42) → k < 1002 → k < M) ∧ (k < M → M = 1002 ∨ r_tK b L (M - 1) = 41 ∨ r_tK b L (M - 1) = 42) := by
      intro v hv
      unfold fX10_cut_b141
      simp only [y_ck (show k < 1002 by omega) (by decide), y_let, nI_clamp (show k < 2 ^ 31 by omega), g3, g5, nI_1]
      generalize hV : zsI (zsB (zsA (zsA V1 2 (upd (zA V1 2) k (nI (r_tK b L k)))) 3 (upd (zA V1 3) k (nI (r_tS b L k)))) 4 (vp_updL (zB V1 4) k v)) 0 4 (nI (k + 1)) = V2
      have f2 : r_fq [(0, 4)] [2, 3] [4] V1 V2 := by
        rw [← hV]
        exact r_fq_I (r_fq_B (r_fq_A (r_fq_A r_fq_refl (by decide)) (by decide)) (by decide)) (by decide)
      have hc2 : r_ct b L (k + 1) V2 := by
        subst hV
        refine ⟨rfl, fun j hj => ?_⟩
        have i1 : zA (zsI (zsB (zsA (zsA V1 2 (upd (zA V1 2) k (nI (r_tK b L k)))) 3 (upd (zA V1 3) k (nI (r_tS b L k)))) 4 (vp_updL (zB V1 4) k v)) 0 4 (nI (k + 1))) 2 j = upd (zA V1 2) k (nI (r_tK b L k)) j := rfl
        have i2 : zA (zsI (zsB (zsA (zsA V1 2 (upd (zA V1 2) k (nI (r_tK b L k)))) 3 (upd (zA V1 3) k (nI (r_tS b L k)))) 4 (vp_updL (zB V1 4) k v)) 0 4 (nI (k + 1))) 3 j = upd (zA V1 3) k (nI (r_tS b L k)) j := rfl
        have i3 : zB (zsI (zsB (zsA (zsA V1 2 (upd (zA V1 2) k (nI (r_tK b L k)))) 3 (upd (zA V1 3) k (nI (r_tS b L k)))) 4 (vp_updL (zB V1 4) k v)) 0 4 (nI (k + 1))) 4 j = vp_updL (zB V1 4) k v j := rfl
        rw [i1, i2, i3, y_upd, y_upd, y_updL]
        by_cases qj : j = k
        · subst qj; rw [if_pos rfl, if_pos rfl, if_pos rfl]; exact ⟨rfl, rfl, hv⟩
        · rw [if_neg qj, if_neg qj, if_neg qj]; exact hc.2 j (by omega)
      have hw2 : r_cw V2 := fun i w hiw => by rw [f2.2.2.1 1 (by decide)]; exact hw i w hiw
      obtain ⟨V3, M, a1, a2, a3, a4, a5, a6, a7, a8, a9⟩ := ih N (k + 1) (r_tK b L k) V2 (by omega) (by omega) hw2 hc2 kle
      rw [eps] at a1
      refine ⟨V3, M, a1, a2, by omega, a4, r_fq_trans f2 a5, fun j h1 h2 => ?_, fun z => by omega, fun _ _ => by omega, fun _ => ?_⟩
      · by_cases qj : j = k
        · subst qj
          refine ⟨fun z => ?_, fun z => ?_⟩
          · have := a7 (Or.inl z); omega
          · have := a7 (Or.inr z); omega
        · exact a6 j (by omega) h2
      · by_cases qm : M = k + 1
        · subst qm
          by_cases z : r_tK b L k = 41 ∨ r_tK b L k = 42
          · exact Or.inr z
          · by_cases z2 : k + 1 < 1002
            · have := a8 z z2; omega
            · left; omega
        · exact a9 (by omega)
    rw [e1, y_bd, e2, y_bd, e3, y_bd]
    simp only [y_ck (show k < 1002 by omega) (by decide), y_let, nI_clamp (show k < 2 ^ 31 by omega), g1, g2, g4, nb]
    have kd : r_kd b L (r_tS b L k) = r_tK b L k := rfl
    rw [kd]
    by_cases q27 : r_tK b L k = 27
    · obtain ⟨t1, t2, t3⟩ := r_kd_27 (show r_kd b L (r_tS b L k) ≤ 27 by rw [kd]; omega)
      have hv := c_name (F := F) h hF t1 t2 t3
      rw [q27, if_pos (show nI 27 = (27 : Int32) from rfl), fX10_cut_b127, show nI 27 = (27 : Int32) from rfl, hv, y_bd]
      have := fin (lN (r_pk 256 id 0 (r_str b (r_tS b L k) (r_te b L (r_tS b L k))))) (by unfold r_tv; rw [if_pos q27]; rfl)
      rw [q27] at this
      exact this
    rw [if_neg (show ¬ nI (r_tK b L k) = (27 : Int32) from fun z => q27 ((nI_eq (b := 27) (by rw [← kd]; omega) (by decide)).mp z))]
    by_cases q28 : r_tK b L k = 28
    · obtain ⟨t1, t2, t3, t4⟩ := r_kd_28 (show r_kd b L (r_tS b L k) = 28 by rw [kd]; exact q28)
      have hv := c_int (F := F) h hF t1 t2 t3 t4
      rw [q28, if_pos (show nI 28 = (28 : Int32) from rfl), fX10_cut_b127, show nI 28 = (28 : Int32) from rfl, hv, y_bd]
      have := fin (lN (r_dec (r_str b (r_tS b L k) (r_te b L (r_tS b L k))))) (by unfold r_tv; rw [if_neg q27, if_pos q28]; rfl)
      rw [q28] at this
      exact this
    rw [if_neg (show ¬ nI (r_tK b L k) = (28 : Int32) from fun z => q28 ((nI_eq (b := 28) (by rw [← kd]; omega) (by decide)).mp z))]
    exact fin 0 (by unfold r_tv; rw [if_neg q27, if_neg q28])
/-- how many tokens the class has -/
def r_tn (b : Nat → Nat) (L N : Nat) : Prop := 0 < N ∧ N ≤ 1002 ∧ (∀ j, j + 1 < N → ¬ r_tK b L j = 41 ∧ ¬ r_tK b L j = 42) ∧ (N = 1002 ∨ r_tK b L (N - 1) = 41 ∨ r_tK b L (N - 1) = 42)
theorem c_cut (h : r_cb b L V0) (hF : 4001 ≤ F) (hw : r_cw V1) : ∃ V1' N, fX10_cut F V0 V1 (nI L) = some V1' ∧ r_ct b L N V1' ∧ r_tn b L N ∧ zI V1' 0 5 = 0 ∧ zI V1' 0 6 = -1 ∧ r_fq [(0, 4), (0, 5), (0, 6)] [2, 3] [4] V1 V1' := by
  have hL := h.1
  unfold fX10_cut
  have e : (if (4000 : Int32) < nI L then (4000 : Int32) else nI L) = nI L := by
    rw [if_neg (show ¬ (4000 : Int32) < nI L from nI_nlt (b := L) (a := 4000) (by omega) (by decide))]
  simp only [y_let, e]
  generalize hV : zsI (zsI (zsI V1 0 4 0) 0 5 0) 0 6 (-1) = V2
  have f2 : r_fq [(0, 4), (0, 5), (0, 6)] [2, 3] [4] V1 V2 := by
    rw [← hV]
    exact r_fq_I (r_fq_I (r_fq_I r_fq_refl (by decide)) (by decide)) (by decide)
  have hw2 : r_cw V2 := fun i w hiw => by rw [f2.2.2.1 1 (by decide)]; exact hw i w hiw
  have hc2 : r_ct b L 0 V2 := ⟨by rw [← hV]; rfl, fun j hj => by omega⟩
  have h5 : zI V2 0 5 = 0 := by rw [← hV]; rfl
  have h6 : zI V2 0 6 = -1 := by rw [← hV]; rfl
  obtain ⟨V3, M, a1, a2, a3, a4, a5, a6, a7, a8, a9⟩ := c_cutl (F := F) h hF 1002 F 0 29 V2 (by omega) (by omega) hw2 hc2 (by omega)
  have hM := a8 (by omega) (by omega)
  exact ⟨V3, M, a1, a2, ⟨hM, a4, fun j hj => a6 j (by omega) hj, a9 hM⟩, by rw [a5.1 0 5 (by decide)]; exact h5, by rw [a5.1 0 6 (by decide)]; exact h6, r_fq_trans f2 (r_fq_mono a5 (by decide) (by decide) (by decide))⟩
end
