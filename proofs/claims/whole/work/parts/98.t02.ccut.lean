/-! ===== the class cuts a text ===== -/
/-- a frame with long rows -/
def r_fq (sc : List (Nat × Nat)) (ar br : List Nat) (V V' : zV) : Prop := (∀ r k, (r, k) ∉ sc → zI V' r k = zI V r k) ∧ (∀ r, r ∉ ar → zA V' r = zA V r) ∧ (∀ r, r ∉ br → zB V' r = zB V r) ∧ ∀ r k, zL V' r k = zL V r k
theorem r_fq_refl {sc : List (Nat × Nat)} {ar br : List Nat} {V : zV} : r_fq sc ar br V V := ⟨fun _ _ _ => rfl, fun _ _ => rfl, fun _ _ => rfl, fun _ _ => rfl⟩
theorem r_fq_trans {sc : List (Nat × Nat)} {ar br : List Nat} {V V' V'' : zV} (h : r_fq sc ar br V V') (g : r_fq sc ar br V' V'') : r_fq sc ar br V V'' := ⟨fun r k m => (g.1 r k m).trans (h.1 r k m), fun r m => (g.2.1 r m).trans (h.2.1 r m), fun r m => (g.2.2.1 r m).trans (h.2.2.1 r m), fun r k => (g.2.2.2 r k).trans (h.2.2.2 r k)⟩
theorem r_fq_mono {sc sc' : List (Nat × Nat)} {ar ar' br br' : List Nat} {V V' : zV} (h : r_fq sc ar br V V') (h1 : ∀ q ∈ sc, q ∈ sc') (h2 : ∀ q ∈ ar, q ∈ ar') (h3 : ∀ q ∈ br, q ∈ br') : r_fq sc' ar' br' V V' := ⟨fun r k m => h.1 r k fun q => m (h1 _ q), fun r m => h.2.1 r fun q => m (h2 _ q), fun r m => h.2.2.1 r fun q => m (h3 _ q), h.2.2.2⟩
theorem r_fq_I {sc : List (Nat × Nat)} {ar br : List Nat} {V V' : zV} {r k : Nat} {x : Int32} (h : r_fq sc ar br V V') (hm : (r, k) ∈ sc) : r_fq sc ar br V (zsI V' r k x) := by
  refine ⟨fun a b m => ?_, h.2.1, h.2.2⟩
  have : ¬ (a = r ∧ b = k) := by rintro ⟨rfl, rfl⟩; exact m hm
  rw [y_get.1, if_neg this]
  exact h.1 a b m
theorem r_fq_A {sc : List (Nat × Nat)} {ar br : List Nat} {V V' : zV} {r : Nat} {f : Nat → Int32} (h : r_fq sc ar br V V') (hm : r ∈ ar) : r_fq sc ar br V (zsA V' r f) := by
  refine ⟨h.1, fun a m => ?_, h.2.2⟩
  have : ¬ a = r := by rintro rfl; exact m hm
  have e : zA (zsA V' r f) a = if a = r then f else zA V' a := rfl
  rw [e, if_neg this]
  exact h.2.1 a m
theorem r_fq_B {sc : List (Nat × Nat)} {ar br : List Nat} {V V' : zV} {r : Nat} {f : Nat → Int64} (h : r_fq sc ar br V V') (hm : r ∈ br) : r_fq sc ar br V (zsB V' r f) := by
  refine ⟨h.1, h.2.1, fun a m => ?_, h.2.2.2⟩
  have : ¬ a = r := by rintro rfl; exact m hm
  have e : zB (zsB V' r f) a = if a = r then f else zB V' a := rfl
  rw [e, if_neg this]
  exact h.2.2.1 a m
theorem r_gt0 {n : Nat} (h0 : 0 < n) (h : n < 2 ^ 31) : (0 : Int32) < nI n := nI_lt (a := 0) h0 h
theorem r_lN {n : Nat} (h : n < 2 ^ 64) : (lN n).toBitVec.toNat = n := by
  rw [show (lN n).toBitVec = BitVec.ofNat 64 n from rfl, BitVec.toNat_ofNat]; exact Nat.mod_eq_of_lt h
theorem r_l8 {a c : Nat} (ha : a < 2 ^ 56) (hc : c < 256) : (lN a <<< (((8 : Int32)).toInt64 &&& 63)) ||| lN c = lN (256 * a + c) := by
  have e8 : (((8 : Int32)).toInt64 &&& 63 : Int64).toBitVec.smod 64 = 8#64 := by decide
  apply Int64.toBitVec_inj.mp
  apply BitVec.eq_of_toNat_eq
  rw [Int64.toBitVec_or, Int64.toBitVec_shiftLeft, e8, BitVec.toNat_or, BitVec.shiftLeft_eq', BitVec.toNat_shiftLeft, r_lN (by omega), r_lN (by omega), r_lN (by omega), show (8#64).toNat = 8 from rfl, Nat.mod_eq_of_lt (by rw [Nat.shiftLeft_eq]; omega), ← Nat.shiftLeft_add_eq_or_of_lt (i := 8) (by omega), Nat.shiftLeft_eq]
  omega
theorem r_pk_lt {B : Nat} {f : Nat → Nat} (hB : 0 < B) : ∀ (l : List Nat) (a n : Nat), (∀ c ∈ l, f c < B) → a < B ^ n → r_pk B f a l < B ^ (n + l.length) := by
  intro l
  induction l with
  | nil => intro a n _ h; exact h
  | cons c l ih =>
    intro a n h1 h2
    have h3 : B * a + f c < B ^ (n + 1) := by
      have q := h1 c (List.mem_cons_self ..)
      have : B * (a + 1) ≤ B * B ^ n := Nat.mul_le_mul_left B (by omega)
      rw [Nat.pow_succ, Nat.mul_comm (B ^ n) B]
      rw [Nat.mul_add, Nat.mul_one] at this
      omega
    have := ih (B * a + f c) (n + 1) (fun d hd => h1 d (List.mem_cons_of_mem _ hd)) h3
    show r_pk B f (B * a + f c) l < _
    rw [List.length_cons, show n + (l.length + 1) = n + 1 + l.length by omega]
    exact this
section
variable {F : Nat} {b : Nat → Nat} {L : Nat} {V0 V1 : zV}
/-- the class's tape -/
def r_cb (b : Nat → Nat) (L : Nat) (V0 : zV) : Prop := L ≤ 4000 ∧ (∀ i, b i < 256) ∧ ∀ i, i < L → zA V0 1 i = r_sg (b i)
theorem c_blanks (h : r_cb b L V0) : ∀ n N i, i + n = L → n + 1 ≤ N → fX10_behindBlanks_l2 F N V0 (nI L) (nI i) = some (nI (r_sp (fun k => r_bk (b k)) n i)) := by
  obtain ⟨hL, hb, ht⟩ := h
  intro n
  induction n with
  | zero =>
    intro N i e hN
    obtain ⟨N, rfl⟩ : ∃ N', N = N' + 1 := ⟨N - 1, by omega⟩
    rw [fX10_behindBlanks_l2, if_pos (nI_le (by omega) (by omega))]; rfl
  | succ n ih =>
    intro N i e hN
    obtain ⟨N, rfl⟩ : ∃ N', N = N' + 1 := ⟨N - 1, by omega⟩
    have hk : fX10_isBlank F (r_sg (b i)) = some (if r_bk (b i) = true then 1 else 0) := r_sg_bk ⟨b i, hb i⟩
    rw [fX10_behindBlanks_l2, if_neg (nI_ge (by omega) (by omega)), y_ck (by omega) (by decide), nI_clamp (by omega), ht i (by omega), hk, y_bd, r_sp, nI_1]
    by_cases q : r_bk (b i) = true
    · rw [if_pos q, if_neg (show ¬ (1 : Int32) = 0 by decide), if_pos q]; exact ih N (i + 1) (by omega) (by omega)
    · rw [if_neg q, if_pos rfl, if_neg q]; rfl
theorem c_te_d (h : r_cb b L V0) : ∀ n N i, i + n = L → n + 1 ≤ N → fX10_tokenEnd_l66 F N V0 (nI L) (nI i) = some (nI (r_sp (fun k => r_dg (b k)) n i)) := by
  obtain ⟨hL, hb, ht⟩ := h
  intro n
  induction n with
  | zero =>
    intro N i e hN
    obtain ⟨N, rfl⟩ : ∃ N', N = N' + 1 := ⟨N - 1, by omega⟩
    rw [fX10_tokenEnd_l66, if_pos (nI_le (by omega) (by omega))]; rfl
  | succ n ih =>
    intro N i e hN
    obtain ⟨N, rfl⟩ : ∃ N', N = N' + 1 := ⟨N - 1, by omega⟩
    have hk : fX10_isDigit F (r_sg (b i)) = some (if r_dg (b i) = true then 1 else 0) := r_sg_dg ⟨b i, hb i⟩
    rw [fX10_tokenEnd_l66, if_neg (nI_ge (by omega) (by omega)), y_ck (by omega) (by decide), nI_clamp (by omega), ht i (by omega), hk, y_bd, r_sp, nI_1]
    by_cases q : r_dg (b i) = true
    · rw [if_pos q, if_neg (show ¬ (1 : Int32) = 0 by decide), if_pos q]; exact ih N (i + 1) (by omega) (by omega)
    · rw [if_neg q, if_pos rfl, if_neg q]; rfl
theorem c_te_l (h : r_cb b L V0) : ∀ n N i, i + n = L → n + 1 ≤ N → fX10_tokenEnd_l27 F N V0 (nI L) (nI i) = some (nI (r_sp (fun k => r_lt (b k) || r_dg (b k)) n i)) := by
  obtain ⟨hL, hb, ht⟩ := h
  intro n
  induction n with
  | zero =>
    intro N i e hN
    obtain ⟨N, rfl⟩ : ∃ N', N = N' + 1 := ⟨N - 1, by omega⟩
    rw [fX10_tokenEnd_l27, if_pos (nI_le (by omega) (by omega))]; rfl
  | succ n ih =>
    intro N i e hN
    obtain ⟨N, rfl⟩ : ∃ N', N = N' + 1 := ⟨N - 1, by omega⟩
    have hk : fX10_isDigit F (r_sg (b i)) = some (if r_dg (b i) = true then 1 else 0) := r_sg_dg ⟨b i, hb i⟩
    have hl : fX10_isLetter F (r_sg (b i)) = some (if r_lt (b i) = true then 1 else 0) := r_sg_lt ⟨b i, hb i⟩
    rw [fX10_tokenEnd_l27, if_neg (nI_ge (by omega) (by omega))]
    simp only [y_ck (show i < 4000 by omega) (show 4000 < 2 ^ 31 by decide), nI_clamp (show i < 2 ^ 31 by omega), ht i (show i < L by omega), hl, y_bd, hk, fX10_tokenEnd_b53, nI_1]
    rw [r_sp]
    by_cases q : r_lt (b i) = true
    · rw [if_pos q, if_neg (show ¬ (1 : Int32) = 0 by decide), q, Bool.true_or, if_pos rfl]; exact ih N (i + 1) (by omega) (by omega)
    · have q' : r_lt (b i) = false := by simpa using q
      rw [if_neg q, if_pos rfl, q', Bool.false_or]
      by_cases q2 : r_dg (b i) = true
      · rw [if_pos q2, if_neg (show ¬ (1 : Int32) = 0 by decide), if_pos q2]; exact ih N (i + 1) (by omega) (by omega)
      · rw [if_neg q2, if_pos rfl, if_neg q2]; rfl
theorem c_te (h : r_cb b L V0) (hF : 4001 ≤ F) {s : Nat} (hs : s ≤ L) : fX10_tokenEnd F V0 (nI s) (nI L) = some (nI (r_te b L s)) := by
  have h' := h
  obtain ⟨hL, hb, ht⟩ := h'
  unfold fX10_tokenEnd r_te
  rw [if_neg (nI_pos (by omega))]
  by_cases q : L ≤ s
  · rw [if_neg (nI_nlt q (by omega)), if_pos q]; rfl
  have hk : fX10_isDigit F (r_sg (b s)) = some (if r_dg (b s) = true then 1 else 0) := r_sg_dg ⟨b s, hb s⟩
  have hl : fX10_isLetter F (r_sg (b s)) = some (if r_lt (b s) = true then 1 else 0) := r_sg_lt ⟨b s, hb s⟩
  have e61 := r_sg_61 ⟨b s, hb s⟩
  have e33 := r_sg_33 ⟨b s, hb s⟩
  have e60 := r_sg_60 ⟨b s, hb s⟩
  dsimp only at e61 e33 e60
  rw [if_pos (nI_lt (by omega) (by omega)), if_neg q, y_ck (by omega) (by decide), nI_clamp (by omega), ht s (by omega), y_let, hl, y_bd, hk, y_bd, nI_1]
  by_cases q1 : r_lt (b s) = true
  · rw [if_pos q1, if_neg (show ¬ (1 : Int32) = 0 by decide), if_pos q1]
    exact c_te_l h (L - (s + 1)) F (s + 1) (by omega) (by omega)
  rw [if_neg q1, if_pos rfl, if_neg q1]
  by_cases q2 : r_dg (b s) = true
  · rw [if_pos q2, if_neg (show ¬ (1 : Int32) = 0 by decide), if_pos q2]
    exact c_te_d h (L - (s + 1)) F (s + 1) (by omega) (by omega)
  rw [if_neg q2, if_pos rfl, if_neg q2]
  have two : (b s = 61 ∨ b s = 33 ∨ b s = 60) → fX10_tokenEnd_b106 F V0 (nI L) (nI (s + 1)) = some (nI (if (b s = 61 ∨ b s = 33 ∨ b s = 60) ∧ s + 1 < L ∧ b (s + 1) = 61 then s + 2 else s + 1)) := by
    intro w
    unfold fX10_tokenEnd_b106
    by_cases q3 : L ≤ s + 1
    · rw [if_pos (nI_le q3 (by omega)), if_neg (fun z => by omega)]; rfl
    have e := r_sg_61 ⟨b (s + 1), hb (s + 1)⟩
    dsimp only at e
    rw [if_neg (nI_ge (by omega) (by omega)), y_ck (by omega) (by decide), nI_clamp (by omega), ht (s + 1) (by omega), nI_1]
    by_cases q4 : b (s + 1) = 61
    · rw [if_pos (e.mpr q4), if_pos ⟨w, by omega, q4⟩]; rfl
    · rw [if_neg (fun z => q4 (e.mp z)), if_neg (fun z => q4 z.2.2)]; rfl
  by_cases r1 : b s = 61
  · rw [if_pos (e61.mpr r1)]; exact two (Or.inl r1)
  rw [if_neg (fun z => r1 (e61.mp z))]
  by_cases r2 : b s = 33
  · rw [if_pos (e33.mpr r2)]; exact two (Or.inr (Or.inl r2))
  rw [if_neg (fun z => r2 (e33.mp z))]
  by_cases r3 : b s = 60
  · rw [if_pos (e60.mpr r3)]; exact two (Or.inr (Or.inr r3))
  rw [if_neg (fun z => r3 (e60.mp z)), if_neg (fun z => by rcases z.1 with z | z | z <;> contradiction)]
  rfl
end
