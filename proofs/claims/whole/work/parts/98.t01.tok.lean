/-! ===== bytes, blanks, runs of signs ===== -/
def r_sg (n : Nat) : Int32 := (nI n).toInt8.toInt32
def r_lt (c : Nat) : Bool := decide (97 ≤ c ∧ c ≤ 122)
def r_dg (c : Nat) : Bool := decide (48 ≤ c ∧ c ≤ 57)
def r_bk (c : Nat) : Bool := decide (c = 9 ∨ c = 10 ∨ c = 13 ∨ c = 32)
theorem r_sg_and : ∀ n : Fin 256, r_sg n.1 &&& 255 = nI n.1 := by decide +kernel
theorem r_sg_low : ∀ n : Fin 128, r_sg n.1 = nI n.1 := by decide +kernel
theorem r_sg_bk : ∀ n : Fin 256, fX10_isBlank 0 (r_sg n.1) = some (if r_bk n.1 = true then 1 else 0) := by decide +kernel
theorem r_sg_lt : ∀ n : Fin 256, fX10_isLetter 0 (r_sg n.1) = some (if r_lt n.1 = true then 1 else 0) := by decide +kernel
theorem r_sg_dg : ∀ n : Fin 256, fX10_isDigit 0 (r_sg n.1) = some (if r_dg n.1 = true then 1 else 0) := by decide +kernel
theorem r_nI_lt : ∀ n : Fin 256, fX12_isLetter 0 (nI n.1) = some (if r_lt n.1 = true then 1 else 0) := by decide +kernel
theorem r_nI_dg : ∀ n : Fin 256, fX12_isDigit 0 (nI n.1) = some (if r_dg n.1 = true then 1 else 0) := by decide +kernel
theorem r_sg_61 : ∀ n : Fin 256, r_sg n.1 = 61 ↔ n.1 = 61 := by decide +kernel
theorem r_sg_33 : ∀ n : Fin 256, r_sg n.1 = 33 ↔ n.1 = 33 := by decide +kernel
theorem r_sg_60 : ∀ n : Fin 256, r_sg n.1 = 60 ↔ n.1 = 60 := by decide +kernel
/-- from i on, n signs at most, as far as p holds -/
def r_sp (p : Nat → Bool) : Nat → Nat → Nat
  | 0, i => i
  | n + 1, i => if p i = true then r_sp p n (i + 1) else i
theorem r_sp_le (p : Nat → Bool) : ∀ n i, i ≤ r_sp p n i ∧ r_sp p n i ≤ i + n := by
  intro n
  induction n with
  | zero => intro i; exact ⟨Nat.le_refl _, Nat.le_refl _⟩
  | succ n ih =>
    intro i
    rw [r_sp]
    split
    · have := ih (i + 1); omega
    · omega
theorem r_sp_all (p : Nat → Bool) : ∀ n i j, i ≤ j → j < r_sp p n i → p j = true := by
  intro n
  induction n with
  | zero => intro i j h1 h2; rw [r_sp] at h2; omega
  | succ n ih =>
    intro i j h1 h2
    rw [r_sp] at h2
    split at h2
    · by_cases q : j = i
      · subst q; assumption
      · exact ih (i + 1) j (by omega) h2
    · omega
theorem r_sp_not (p : Nat → Bool) : ∀ n i, r_sp p n i < i + n → p (r_sp p n i) = false := by
  intro n
  induction n with
  | zero => intro i h; rw [r_sp] at h; omega
  | succ n ih =>
    intro i h
    rw [r_sp] at h ⊢
    split
    · rw [if_pos (by assumption)] at h; exact ih (i + 1) (by omega)
    · cases q : p i with
      | true => exact absurd q (by assumption)
      | false => rfl
/-! ===== the tokens of a text b of L bytes ===== -/
def r_words : List (List Nat) := [[115, 119, 105, 116, 99, 104], [99, 111, 105, 108], [97, 112, 97, 114, 116], [108, 97, 109, 112], [112, 108, 97, 99, 101], [119, 97, 121], [118, 97, 114], [109, 111, 100, 101], [98, 121], [116, 105, 109, 101], [101, 110, 100], [111, 110], [98, 101, 103, 105, 110], [115, 116, 111, 112], [105, 102], [97, 110, 100], [115, 99, 111, 114, 101], [115, 101, 116], [115, 116, 97, 114, 116], [108, 101, 97, 118, 101], [102, 105, 114, 101], [104, 111, 108, 100], [100, 114, 97, 105, 110], [115, 101, 114, 118, 101], [116, 105, 108, 116], [108, 101, 102, 116], [98, 97, 108, 108, 115]]
def r_fi (s : List Nat) : List (List Nat) → Nat → Nat
  | [], _ => 27
  | w :: l, i => if w = s then i else r_fi s l (i + 1)
def r_str (b : Nat → Nat) (s e : Nat) : List Nat := (List.range' s (e - s)).map b
def r_pk (B : Nat) (f : Nat → Nat) (a : Nat) (l : List Nat) : Nat := l.foldl (fun a c => B * a + f c) a
def r_ss (c : Nat) : Nat := if c = 40 then 32 else if c = 41 then 33 else if c = 42 then 36 else if c = 43 then 34 else if c = 44 then 31 else if c = 45 then 35 else if c = 58 then 30 else if c = 59 then 29 else if c = 60 then 39 else 42
/-- behind blanks; a token's end, its kind, its letters -/
def r_bl (b : Nat → Nat) (L i : Nat) : Nat := r_sp (fun k => r_bk (b k)) (L - i) i
def r_te (b : Nat → Nat) (L s : Nat) : Nat :=
  if L ≤ s then L
  else if r_lt (b s) = true then r_sp (fun k => r_lt (b k) || r_dg (b k)) (L - (s + 1)) (s + 1)
  else if r_dg (b s) = true then r_sp (fun k => r_dg (b k)) (L - (s + 1)) (s + 1)
  else if (b s = 61 ∨ b s = 33 ∨ b s = 60) ∧ s + 1 < L ∧ b (s + 1) = 61 then s + 2 else s + 1
def r_kd (b : Nat → Nat) (L s : Nat) : Nat :=
  if L ≤ s then 41
  else if r_lt (b s) = true then (if r_te b L s - s ≤ 8 then r_fi (r_str b s (r_te b L s)) r_words 0 else 42)
  else if r_dg (b s) = true then (if r_te b L s - s ≤ 5 then 28 else 42)
  else if r_te b L s - s = 2 then (if b s = 33 then 38 else if b s = 61 then 37 else 40) else r_ss (b s)
/-- where the search for token k begins -/
def r_ps (b : Nat → Nat) (L : Nat) : Nat → Nat
  | 0 => 0
  | k + 1 => r_te b L (r_bl b L (r_ps b L k))
def r_tS (b : Nat → Nat) (L k : Nat) : Nat := r_bl b L (r_ps b L k)
def r_tK (b : Nat → Nat) (L k : Nat) : Nat := r_kd b L (r_tS b L k)
def r_tW (b : Nat → Nat) (L k : Nat) : List Nat := r_str b (r_tS b L k) (r_te b L (r_tS b L k))
def r_dec (l : List Nat) : Nat := r_pk 10 (fun c => c - 48) 0 l
def r_tV (b : Nat → Nat) (L k : Nat) : Nat := r_dec (r_tW b L k)
theorem r_te_le {b : Nat → Nat} {L s : Nat} (hs : s < L) : s < r_te b L s ∧ r_te b L s ≤ L := by
  unfold r_te
  rw [if_neg (by omega)]
  split
  · have := r_sp_le (fun k => r_lt (b k) || r_dg (b k)) (L - (s + 1)) (s + 1); omega
  split
  · have := r_sp_le (fun k => r_dg (b k)) (L - (s + 1)) (s + 1); omega
  split <;> omega
theorem r_bl_le {b : Nat → Nat} {L i : Nat} (hi : i ≤ L) : i ≤ r_bl b L i ∧ r_bl b L i ≤ L := by
  have := r_sp_le (fun k => r_bk (b k)) (L - i) i
  unfold r_bl
  omega
theorem r_te_L {b : Nat → Nat} {L s : Nat} (hs : s ≤ L) : r_te b L s ≤ L := by
  by_cases q : s < L
  · exact (r_te_le q).2
  · unfold r_te; rw [if_pos (by omega)]; exact Nat.le_refl _
theorem r_ps_L (b : Nat → Nat) (L : Nat) : ∀ k, r_ps b L k ≤ L := by
  intro k
  induction k with
  | zero => exact Nat.zero_le _
  | succ k ih => exact r_te_L (r_bl_le ih).2
theorem r_tS_L (b : Nat → Nat) (L k : Nat) : r_tS b L k ≤ L := (r_bl_le (r_ps_L b L k)).2
theorem r_fi_le (s : List Nat) : ∀ (l : List (List Nat)) (i : Nat), i + l.length ≤ 27 → r_fi s l i ≤ 27 := by
  intro l
  induction l with
  | nil => intro i _; exact Nat.le_refl _
  | cons w l ih =>
    intro i h
    have h : i + (l.length + 1) ≤ 27 := h
    rw [r_fi]
    split
    · omega
    · exact ih (i + 1) (by omega)
theorem r_ss_le (c : Nat) : r_ss c ≤ 42 := by
  unfold r_ss
  repeat' split
  all_goals omega
theorem r_kd_le (b : Nat → Nat) (L s : Nat) : r_kd b L s ≤ 42 := by
  have := r_fi_le (r_str b s (r_te b L s)) r_words 0 (by decide)
  have := r_ss_le (b s)
  unfold r_kd
  repeat' split
  all_goals omega
theorem r_kd_41 {b : Nat → Nat} {L s : Nat} (hs : s ≤ L) : r_kd b L s = 41 ↔ s = L := by
  constructor
  · intro h
    by_cases q : L ≤ s
    · omega
    exfalso
    have := r_fi_le (r_str b s (r_te b L s)) r_words 0 (by decide)
    have e : r_ss (b s) ≠ 41 := by
      unfold r_ss
      repeat' split
      all_goals omega
    unfold r_kd at h
    rw [if_neg q] at h
    repeat' split at h
    all_goals omega
  · intro h
    unfold r_kd
    rw [if_pos (by omega)]
theorem r_kd_28 {b : Nat → Nat} {L s : Nat} (h : r_kd b L s = 28) : s < L ∧ r_lt (b s) = false ∧ r_dg (b s) = true ∧ r_te b L s - s ≤ 5 := by
  have := r_fi_le (r_str b s (r_te b L s)) r_words 0 (by decide)
  have e : r_ss (b s) ≠ 28 := by
    unfold r_ss
    repeat' split
    all_goals omega
  unfold r_kd at h
  by_cases q : L ≤ s
  · rw [if_pos q] at h; omega
  rw [if_neg q] at h
  by_cases q1 : r_lt (b s) = true
  · rw [if_pos q1] at h
    split at h <;> omega
  rw [if_neg q1] at h
  by_cases q2 : r_dg (b s) = true
  · rw [if_pos q2] at h
    split at h
    · exact ⟨by omega, by simpa using q1, q2, by assumption⟩
    · omega
  · rw [if_neg q2] at h
    repeat' split at h
    all_goals omega
theorem r_kd_27 {b : Nat → Nat} {L s : Nat} (h : r_kd b L s ≤ 27) : s < L ∧ r_lt (b s) = true ∧ r_te b L s - s ≤ 8 := by
  have e : ¬ r_ss (b s) ≤ 27 := by
    unfold r_ss
    repeat' split
    all_goals omega
  unfold r_kd at h
  by_cases q : L ≤ s
  · rw [if_pos q] at h; omega
  rw [if_neg q] at h
  by_cases q1 : r_lt (b s) = true
  · rw [if_pos q1] at h
    split at h
    · exact ⟨by omega, q1, by assumption⟩
    · omega
  · rw [if_neg q1] at h
    repeat' split at h
    all_goals omega
