/-! ===== the class finds the first ring ===== -/
/-- from f to t by at least one lead, between them nodes below k alone -/
def y_wl (R : Nat → Nat → Prop) : Nat → Nat → Nat → Prop
  | 0, f, t => R f t
  | k + 1, f, t => y_wl R k f t ∨ (y_wl R k f k ∧ y_wl R k k t)
theorem y_wl_tr {R : Nat → Nat → Prop} : ∀ (n f j t : Nat), j < n → y_wl R n f j → y_wl R n j t → y_wl R n f t := by
  intro n
  induction n with
  | zero => intro f j t h; exact absurd h (Nat.not_lt_zero _)
  | succ k ih =>
    intro f j t hj h1 h2
    by_cases q : j = k
    · subst q
      have a1 : y_wl R j f j := h1.elim id fun z => z.1
      have a2 : y_wl R j j t := h2.elim id fun z => z.2
      exact Or.inr ⟨a1, a2⟩
    · have hjk : j < k := by omega
      rcases h1 with h1 | ⟨h1, h1'⟩
      · rcases h2 with h2 | ⟨h2, h2'⟩
        · exact Or.inl (ih f j t hjk h1 h2)
        · exact Or.inr ⟨ih f j k hjk h1 h2, h2'⟩
      · rcases h2 with h2 | ⟨h2, h2'⟩
        · exact Or.inr ⟨h1, ih k j t hjk h1' h2⟩
        · exact Or.inr ⟨h1, h2'⟩
theorem y_wl_up {R : Nat → Nat → Prop} {f t : Nat} (h : R f t) : ∀ n, y_wl R n f t := by
  intro n
  induction n with
  | zero => exact h
  | succ n ih => exact Or.inl ih
theorem y_wl_into {R : Nat → Nat → Prop} {Q : Nat → Prop} {f0 : Nat} (h0 : ∀ t, R f0 t → Q t) (h1 : ∀ f t, Q f → R f t → Q t) : ∀ (n f t : Nat), (f = f0 ∨ Q f) → y_wl R n f t → Q t := by
  intro n
  induction n with
  | zero =>
    intro f t hf h
    rcases hf with rfl | hf
    · exact h0 t h
    · exact h1 f t hf h
  | succ n ih =>
    intro f t hf h
    rcases h with h | ⟨ha, hb⟩
    · exact ih f t hf h
    · exact ih n t (Or.inr (ih f n hf ha)) hb
theorem r_tst {x : Int32} {d : Nat} (hd : d < 24) : ((x >>> (nI d &&& 31)) &&& 1 = 1) ↔ x.toBitVec.getLsbD d = true := by
  have e : ((nI d &&& 31).toBitVec.smod 32) = BitVec.ofNat 32 d := by
    have : ∀ d : Fin 24, ((nI d.1 &&& 31).toBitVec.smod 32) = BitVec.ofNat 32 d.1 := by decide +kernel
    exact this ⟨d, hd⟩
  have e2 : (BitVec.ofNat 32 d).toNat = d := by rw [BitVec.toNat_ofNat, Nat.mod_eq_of_lt (by omega)]
  have e3 : ((x >>> (nI d &&& 31)) &&& 1).toBitVec = BitVec.setWidth 32 (BitVec.ofBool (x.toBitVec.getLsbD d)) := by
    rw [Int32.toBitVec_and, Int32.toBitVec_shiftRight, e, BitVec.sshiftRight', e2]
    show x.toBitVec.sshiftRight d &&& 1#32 = _
    rw [BitVec.and_one_eq_setWidth_ofBool_getLsbD, BitVec.getLsbD_sshiftRight, if_pos (by omega)]
    simp
  rw [← Int32.toBitVec_inj, e3]
  cases x.toBitVec.getLsbD d <;> decide
section
variable {F : Nat} {T : zV} {R : Nat → Nat → Prop}
/-- the first ring: its mode, or none -/
def y_fr1 (Q : Nat → Prop) (c : Nat) (x : Int32) : Prop := (x = -1 ∧ ∀ m, m < c → ¬ Q m) ∨ ∃ m, m < c ∧ x = nI m ∧ Q m ∧ ∀ m', m' < m → ¬ Q m'
theorem c_ring (hF : 100 ≤ F) {c : Nat} (hc : c ≤ 12) {W : zV} (hW : ∀ f t, f < 24 → t < 24 → ((zA W 22 f).toBitVec.getLsbD t = true ↔ R f t)) :
    ∃ T', fX6_findRing F W (nI c) = some T' ∧ y_fr1 (fun m => y_wl R 24 (2 * m) (2 * m)) c (zI T' 13 11) ∧ y_fr [(13, 11)] [22] W T' := by
  have l77 : ∀ (n M : Nat) (V : zV), n ≤ c → n + 1 ≤ M → (∀ f t, f < 24 → t < 24 → ((zA V 22 f).toBitVec.getLsbD t = true ↔ y_wl R 24 f t)) → ((zI V 13 11 = -1 ∧ ∀ m, n ≤ m → m < c → ¬ y_wl R 24 (2 * m) (2 * m)) ∨ ∃ m, n ≤ m ∧ m < c ∧ zI V 13 11 = nI m ∧ y_wl R 24 (2 * m) (2 * m) ∧ ∀ m', n ≤ m' → m' < m → ¬ y_wl R 24 (2 * m') (2 * m')) →
      ∃ T', fX6_findRing_l77 F M V (nI n - 1) = some T' ∧ y_fr1 (fun m => y_wl R 24 (2 * m) (2 * m)) c (zI T' 13 11) ∧ y_fr [(13, 11)] [22] V T' := by
    intro n
    induction n with
    | zero =>
      intro M V hn hM hb h
      obtain ⟨M, rfl⟩ : ∃ M', M = M' + 1 := ⟨M - 1, by omega⟩
      rw [fX6_findRing_l77, if_pos (by decide)]
      refine ⟨V, rfl, ?_, y_fr_refl⟩
      rcases h with ⟨h1, h2⟩ | ⟨m, h1, h2, h3, h4, h5⟩
      · exact Or.inl ⟨h1, fun m hm => h2 m (Nat.zero_le _) hm⟩
      · exact Or.inr ⟨m, h2, h3, h4, fun m' hm' => h5 m' (Nat.zero_le _) hm'⟩
    | succ n ih =>
      intro M V hn hM hb h
      obtain ⟨M, rfl⟩ : ∃ M', M = M' + 1 := ⟨M - 1, by omega⟩
      have e : nI (n + 1) - 1 = nI n := by rw [show (1 : Int32) = nI 1 from rfl, pk_sub (by omega), Nat.add_sub_cancel]
      have e2 : nI n + -1 = nI n - 1 := by grind
      have eb := hb (2 * n) (2 * n) (by omega) (by omega)
      rw [e, fX6_findRing_l77, if_neg (nI_pos (by omega)), show (2 : Int32) = nI 2 from rfl, pk_mul, y_ck (by omega) (by decide), nI_clamp (by omega)]
      by_cases q : y_wl R 24 (2 * n) (2 * n)
      · rw [if_pos ((r_tst (by omega)).mpr (eb.mpr q)), y_let, fX6_findRing_b104, e2]
        obtain ⟨T', a1, a2, a3⟩ := ih M (zsI V 13 11 (nI n)) (by omega) (by omega) hb (Or.inr ⟨n, Nat.le_refl _, by omega, rfl, q, fun m' h1 h2 => by omega⟩)
        exact ⟨T', a1, a2, y_fr_trans (y_fr_I y_fr_refl (by decide)) a3⟩
      · rw [if_neg (fun z => q (eb.mp ((r_tst (by omega)).mp z))), fX6_findRing_b104, e2]
        refine ih M V (by omega) (by omega) hb ?_
        rcases h with ⟨h1, h2⟩ | ⟨m, h1, h2, h3, h4, h5⟩
        · refine Or.inl ⟨h1, fun m g1 g2 => ?_⟩
          by_cases z : m = n
          · subst z; exact q
          · exact h2 m (by omega) g2
        · refine Or.inr ⟨m, by omega, h2, h3, h4, fun m' g1 g2 => ?_⟩
          by_cases z : m' = n
          · subst z; exact q
          · exact h5 m' (by omega) g2
  have l13 : ∀ (n x M : Nat) (V : zV) (y : Nat) (k2 : zV → Int32 → Int32 → Option zV), x + n = 24 → n + 1 ≤ M → y < 24 → (∀ f t, f < 24 → t < 24 → ((zA V 22 f).toBitVec.getLsbD t = true ↔ if f < x then y_wl R (y + 1) f t else y_wl R y f t)) →
      ∃ W', fX6_findRing_l13 F k2 M V (nI c) (nI y) (nI x) = k2 W' (nI c) (nI (y + 1)) ∧ (∀ f t, f < 24 → t < 24 → ((zA W' 22 f).toBitVec.getLsbD t = true ↔ y_wl R (y + 1) f t)) ∧ y_fr [(13, 11)] [22] V W' := by
    intro n
    induction n with
    | zero =>
      intro x M V y k2 hx hM hy hb
      obtain ⟨M, rfl⟩ : ∃ M', M = M' + 1 := ⟨M - 1, by omega⟩
      rw [fX6_findRing_l13, if_pos (show (24 : Int32) ≤ nI x from nI_le (a := 24) (by omega) (by omega)), nI_1]
      refine ⟨V, rfl, fun f t hf ht => ?_, y_fr_refl⟩
      rw [hb f t hf ht, if_pos (by omega)]
    | succ n ih =>
      intro x M V y k2 hx hM hy hb
      obtain ⟨M, rfl⟩ : ∃ M', M = M' + 1 := ⟨M - 1, by omega⟩
      have ex := hb x y (by omega) hy
      rw [if_neg (Nat.lt_irrefl x)] at ex
      have ey : ∀ t, t < 24 → ((zA V 22 y).toBitVec.getLsbD t = true ↔ y_wl R y y t) := fun t ht => by
        rw [hb y t hy ht]
        split
        · exact ⟨fun z => z.elim id fun z => z.2, Or.inl⟩
        · exact Iff.rfl
      rw [fX6_findRing_l13, if_neg (show ¬ (24 : Int32) ≤ nI x from nI_ge (b := 24) (by omega) (by decide))]
      simp only [y_ck (show x < 24 by omega) (show 24 < 2 ^ 31 by decide), y_ck (show y < 24 from hy) (show 24 < 2 ^ 31 by decide), nI_clamp (show x < 2 ^ 31 by omega), nI_clamp (show y < 2 ^ 31 by omega), y_let]
      by_cases q : y_wl R y x y
      · rw [if_pos ((r_tst hy).mpr (ex.mpr q)), fX6_findRing_b51, nI_1]
        obtain ⟨W', a1, a2, a3⟩ := ih (x + 1) M (zsA V 22 (upd (zA V 22) x (zA V 22 x ||| zA V 22 y))) y k2 (by omega) (by omega) hy (fun f t hf ht => by
          show (upd (zA V 22) x (zA V 22 x ||| zA V 22 y) f).toBitVec.getLsbD t = true ↔ _
          rw [y_upd]
          by_cases z : f = x
          · subst z
            have e1 := hb f t hf ht
            rw [if_neg (Nat.lt_irrefl f)] at e1
            rw [if_pos rfl, Int32.toBitVec_or, BitVec.getLsbD_or, Bool.or_eq_true, e1, ey t ht, if_pos (by omega)]
            exact ⟨fun u => u.elim Or.inl fun v => Or.inr ⟨q, v⟩, fun u => u.elim Or.inl fun v => Or.inr v.2⟩
          · rw [if_neg z, hb f t hf ht]
            by_cases zz : f < x
            · rw [if_pos zz, if_pos (by omega)]
            · rw [if_neg zz, if_neg (by omega)])
        exact ⟨W', a1, a2, y_fr_trans (y_fr_A y_fr_refl (by decide)) a3⟩
      · rw [if_neg (fun z => q (ex.mp ((r_tst hy).mp z))), fX6_findRing_b51, nI_1]
        refine ih (x + 1) M V y k2 (by omega) (by omega) hy (fun f t hf ht => ?_)
        rw [hb f t hf ht]
        by_cases z : f = x
        · subst z
          rw [if_neg (Nat.lt_irrefl f), if_pos (by omega)]
          exact ⟨Or.inl, fun u => u.elim id fun v => absurd v.1 q⟩
        · by_cases zz : f < x
          · rw [if_pos zz, if_pos (by omega)]
          · rw [if_neg zz, if_neg (by omega)]
  have l2 : ∀ (n y M : Nat) (V : zV), y + n = 24 → n + 1 ≤ M → (∀ f t, f < 24 → t < 24 → ((zA V 22 f).toBitVec.getLsbD t = true ↔ y_wl R y f t)) → ∃ T', fX6_findRing_l2 F M V (nI c) (nI y) = some T' ∧ y_fr1 (fun m => y_wl R 24 (2 * m) (2 * m)) c (zI T' 13 11) ∧ y_fr [(13, 11)] [22] V T' := by
    intro n
    induction n with
    | zero =>
      intro y M V hy hM hb
      obtain ⟨M, rfl⟩ : ∃ M', M = M' + 1 := ⟨M - 1, by omega⟩
      have e : (if (12 : Int32) < nI c then (12 : Int32) else nI c) = nI c := if_neg (show ¬ (12 : Int32) < nI c from nI_nlt (a := 12) hc (by omega))
      have : y = 24 := by omega
      subst this
      rw [fX6_findRing_l2, if_pos (show (24 : Int32) ≤ nI 24 from nI_le (a := 24) (by omega) (by omega)), y_let, y_let, e]
      obtain ⟨T', a1, a2, a3⟩ := l77 c F (zsI V 13 11 (-1)) (Nat.le_refl _) (by omega) hb (Or.inl ⟨rfl, fun m h1 h2 => by omega⟩)
      exact ⟨T', a1, a2, y_fr_trans (y_fr_I y_fr_refl (by decide)) a3⟩
    | succ n ih =>
      intro y M V hy hM hb
      obtain ⟨M, rfl⟩ : ∃ M', M = M' + 1 := ⟨M - 1, by omega⟩
      rw [fX6_findRing_l2, if_neg (show ¬ (24 : Int32) ≤ nI y from nI_ge (b := 24) (by omega) (by decide))]
      obtain ⟨W', a1, a2, a3⟩ := l13 24 0 F V y (fX6_findRing_l2 F M) rfl (by omega) (by omega) (fun f t hf ht => by rw [if_neg (Nat.not_lt_zero _)]; exact hb f t hf ht)
      obtain ⟨T', d1, d2, d3⟩ := ih (y + 1) M W' (by omega) (by omega) a2
      exact ⟨T', a1.trans d1, d2, y_fr_trans a3 d3⟩
  unfold fX6_findRing
  exact l2 24 0 F W rfl (by omega) hW
end
section
variable {F : Nat} {b : Nat → Nat} {L E : Nat} {T W : zV}
/-- the table's first ring -/
def y_rg (T : zV) : Prop := y_fr1 (fun m => y_wl (y_ldp T) 24 (2 * m) (2 * m)) (y_many T 7) (zI T 13 11)
theorem r_cT_rg (hF : 100 ≤ F) (hgr : r_gram (r_tK b L) = .ok E) (h : r_cT b L E T) (hl : r_l6 b L E (min 1000 (E + 1)) W) (hr : fX6_findRing F W (nI (r_cn (r_tK b L) 7 E)) = some T) : y_rg T := by
  have hg := r_gram_gf hgr
  have e7 := (r_cT_cn h hg (k := 7) (by decide)).2
  have m7 : r_cn (r_tK b L) 7 E ≤ 12 := hg.2.2.1 7 (by decide)
  obtain ⟨T', a1, a2, -⟩ := c_ring (F := F) (R := y_ldp T) hF m7 (W := W) (fun f t hf ht => (hl f t hf ht).trans (r_ld_iff hgr h))
  rw [hr] at a1
  cases Option.some.inj a1
  unfold y_rg
  rw [e7]
  exact a2
end
