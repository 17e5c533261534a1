/-! ===== a tick in the reference ===== -/
section
variable {F : Nat} {T : zV} {lv : Nat} {S : y_S} {V V' : zV}
theorem y_mg_unbeg (h : y_mg T (y_beg T S) V) : y_mg T S V := by
  obtain ⟨b1, b2, b3, b4, b5, b6, b7, bb, p, hp, b8, b9⟩ := h
  have r : ∀ r, ¬ r = 23 → y_R (y_beg T S) r = y_R S r := fun r hr => y_rem_row hr
  refine ⟨fun q hq => (b1 q hq).trans ?_, fun q hq i hi => (b2 q hq i hi).trans ?_, fun s hs => ?_, fun c hc => ?_, b5, b6, b7, fun m hm => ?_, p, hp, b8, b9⟩
  · show (if q.1 = 0 ∧ q.2.1 = 14 then 0 else if q.1 = 0 ∧ q.2.1 = 13 then 0 else zI S.1 q.1 q.2.1) = zI S.1 q.1 q.2.1
    have := (show ∀ q ∈ y_mnum, ¬ (q.1 = 0 ∧ q.2.1 = 14) ∧ ¬ (q.1 = 0 ∧ q.2.1 = 13) by decide) q hq
    rw [if_neg this.1, if_neg this.2]
  · rw [r q.1 ((show ∀ q ∈ y_mrow, ¬ q.1 = 23 by decide) q hq)]
  · rw [← r 6 (by decide), ← r 8 (by decide)]; exact b3 s hs
  · rw [← r 11 (by decide), ← r 12 (by decide)]; exact b4 c hc
  · rw [← r 19 (by decide)]; exact bb m hm
theorem y_tl_no (l : List Nat) (h : ∀ m ∈ l, ¬ (y_R S 23 m = y_R S 22 m ∧ 0 < zA T 11 m)) : y_tl T l S = S := by
  induction l with
  | nil => rfl
  | cons m l ih =>
    rw [y_tl, if_neg (h m (List.mem_cons_self ..))]
    exact ih fun d hd => h d (List.mem_cons_of_mem _ hd)
theorem y_end_no (h : y_I S 0 9 = 0 ∨ ¬ y_I S 14 7 ≤ 0) : y_end T S = S := by
  unfold y_end
  split
  · rfl
  · rename_i q
    rw [if_neg (h.resolve_left q)]
/-- one tick in the reference -/
def y_t2 (T : zV) (S : y_S) : y_S := if ¬ y_I S 0 9 = 0 ∧ 0 < y_timed T S then y_end T (y_tl T (y_ord T) (y_beg T (y_sI S 0 10 (y_I S 0 10 + 1)))) else y_sI S 0 10 (y_I S 0 10 + 1)
theorem m_one (hF : 3000 ≤ F) (hTT : y_T T) (hax : y_ax T) (hmo : ∀ m, m < y_many T 7 → y_hd T m ≤ y_hd T (m + 1)) (htm : y_tm T) {n b t : Nat} (hb : b + 6000 < 2 ^ 31) (ht : t < 5000) (et : y_I S 0 10 = nI t) (h : y_gm lv T S n V) (hiv : y_iv n b T S) :
    ∃ V', fX12_oneTick F V = some V' ∧ y_mg T (y_t2 T S) V' ∧ y_mst T (y_t2 T S) V' ∧ y_si T (y_t2 T S) ∧ y_bl (y_t2 T S) ∧ y_ofb (b + 2500) (y_t2 T S) ∧ (∀ r ∈ [6, 8, 11, 12], y_R (y_t2 T S) r = y_R S r) ∧ y_I (y_t2 T S) 0 10 = nI (t + 1) ∧ (y_I (y_t2 T S) 0 9 = 0 ∨ ¬ y_I (y_t2 T S) 14 7 ≤ 0) ∧ y_fw ((0, 68) :: y_pz) (64 :: 65 :: y_py) V V' := by
  obtain ⟨hT, hg, hst, hod, h72⟩ := h
  obtain ⟨i1, i2, i3, i4, ⟨t', ht', et', i5⟩, i6⟩ := hiv
  have h7 := hTT.2.1.1
  have i2' := i2
  obtain ⟨⟨k, hk, ek⟩, -⟩ := i2'
  have e68 : zI V 0 68 = y_I S 0 10 := y_mg_at hg (r := 0) (k := 10) (k7 := 68) (by decide)
  have g1 : y_mg T (y_sI S 0 10 (y_I S 0 10 + 1)) (zsI V 0 68 (y_I S 0 10 + 1)) := y_mg_I hg (by decide)
  have f1 : y_fr [(0, 68)] [] V (zsI V 0 68 (y_I S 0 10 + 1)) := y_fr_I y_fr_refl (by decide)
  have s1 : y_si T (y_sI S 0 10 (y_I S 0 10 + 1)) := y_si_of i1 rfl rfl rfl rfl rfl
  have u1 : ∀ r, y_R (y_sI S 0 10 (y_I S 0 10 + 1)) r = y_R S r := fun _ => rfl
  have u2 : ∀ r k, ¬ k = 10 → y_I (y_sI S 0 10 (y_I S 0 10 + 1)) r k = y_I S r k := by
    intro r k hk
    show (if r = 0 ∧ k = 10 then _ else zI S.1 r k) = _
    rw [if_neg (fun z => hk z.2)]; rfl
  have u3 : y_I (y_sI S 0 10 (y_I S 0 10 + 1)) 0 10 = nI (t + 1) := by
    show y_I S 0 10 + 1 = _
    rw [et, nI_1]
  unfold y_t2 fX12_oneTick
  rw [e68, y_let]
  generalize y_sI S 0 10 (y_I S 0 10 + 1) = S1 at g1 s1 u1 u2 u3 ⊢
  generalize zsI V 0 68 (y_I S 0 10 + 1) = V1 at g1 f1 ⊢
  have hT1 := y_mt_fr hT f1 (by decide) (fun _ _ => List.not_mem_nil)
  obtain ⟨V2, c1, c2, c3, c4, c5, c6, c7⟩ := m_rem (F := F) hF hTT hT1 g1 ⟨s1.1, s1.2.1⟩
  have hbool : ∀ i, i < 12 → zA V1 49 i = 0 ∨ zA V1 49 i = 1 := by
    intro i hi
    rw [y_mg_r g1 (r := 19) (r7 := 49) (n := 12) (by decide) hi]
    exact g1.2.2.2.2.2.2.2.1 i hi
  have r64 : ∀ m, m < 12 → zA V2 64 m = y_R S 19 m := by
    obtain ⟨V2', a1, a2, -⟩ := m_reml (F := F) hbool 12 0 F V1 (by omega) (by omega) y_fr_refl (fun j hj => by omega)
    have a1' : fX12_remembers F V1 = some V2' := a1
    have : V2' = V2 := Option.some.inj (a1'.symm.trans c1)
    subst this
    intro m hm
    rw [(a2 m hm).1, y_mg_r g1 (r := 19) (r7 := 49) (n := 12) (by decide) hm, u1]
  have fV2 : y_fw ((0, 68) :: y_pz) (64 :: 65 :: y_py) V V2 := y_fw_trans (y_fw_of f1 (by decide) (fun _ z => absurd z List.not_mem_nil)) (y_fw_of c6 (by decide) (by decide))
  have e66 : zI V2 0 66 = nI k := by rw [y_mg_at c7 (r := 0) (k := 9) (k7 := 66) (by decide), u2 0 9 (by decide)]; exact ek
  have st2 : ∀ S2, y_I S2 0 9 = y_I S 0 9 → y_R S2 9 = y_R S 9 → y_mst T S2 V2 := by
    intro S2 h1 h2 s hs
    rw [c6.2.1 47 (by decide), f1.2.1 47 List.not_mem_nil, hst s hs]
    unfold y_stk y_over
    rw [h1, h2]
  have bl1 : y_bl S1 := ⟨⟨k, hk, (u2 0 9 (by decide)).trans ek⟩, fun s hs => by rw [u1]; exact i2.2 s hs⟩
  have al1 : y_I S1 0 9 = 0 ∨ ¬ y_I S1 14 7 ≤ 0 := by rw [u2 0 9 (by decide), u2 14 7 (by decide)]; exact i6
  rw [c1, y_bd, e66]
  by_cases q0 : k = 0
  · subst q0
    rw [if_pos (show nI 0 ≤ (0 : Int32) from nI_le (b := 0) (Nat.le_refl _) (by decide)), if_neg (show ¬ (¬ y_I S 0 9 = 0 ∧ 0 < y_timed T S) from fun z => z.1 ek)]
    exact ⟨V2, rfl, c7, st2 S1 (u2 0 9 (by decide)) (u1 9), s1, bl1, y_ofb_mono (y_ofb_eq i3 (u1 22)) (by omega), fun r _ => u1 r, u3, al1, fV2⟩
  have hk9 : ¬ y_I S 0 9 = 0 := by rw [ek]; exact nI_ne0 (by omega) (by omega)
  rw [if_neg (nI_nle (by omega) (by omega))]
  -- the modes
  have bR : ∀ r, ¬ r = 23 → y_R (y_beg T S1) r = y_R S r := fun r hr => (y_rem_row hr).trans (u1 r)
  have bI : ∀ k, ¬ k = 13 ∧ ¬ k = 14 → y_I (y_beg T S1) 0 k = y_I S1 0 k := by
    intro k hk
    show (if 0 = 0 ∧ k = 14 then 0 else if 0 = 0 ∧ k = 13 then 0 else zI S1.1 0 k) = _
    rw [if_neg (fun z => hk.2 z.2), if_neg (fun z => hk.1 z.2)]; rfl
  have e23 : ∀ m, m < y_many T 7 → y_R (y_beg T S1) 23 m = if y_R S 19 m = 0 then -1 else y_R S 22 m := by
    intro m hm
    show (if m < y_many T 7 then (if y_R S1 19 m = 0 then -1 else y_R S1 22 m) else 0) = _
    rw [if_pos hm, u1, u1]
  have g9 : ∀ m, ∃ j, m < 12 → (j ≤ b ∧ y_R S 22 m = nI j) := by
    intro m
    by_cases hm : m < 12
    · obtain ⟨j, hj, e⟩ := i3 m hm
      exact ⟨j, fun _ => ⟨hj, e⟩⟩
    · exact ⟨0, fun z => absurd z hm⟩
  have hoB : ∀ m, m < 12 → (Classical.choose (g9 m)) ≤ b ∧ y_R S 22 m = nI (Classical.choose (g9 m)) := fun m hm => Classical.choose_spec (g9 m) hm
  generalize hoe : (fun m => Classical.choose (g9 m)) = oB
  have hoB : ∀ m, m < 12 → oB m ≤ b ∧ y_R S 22 m = nI (oB m) := by subst hoe; exact hoB
  have ac0 : y_ac (y_beg T S1) = 0 := rfl
  have ozb : y_oz oB (fun m => ¬ y_R S 19 m = 0) b (y_beg T S1) := by
    refine ⟨⟨0, by omega, rfl⟩, fun m hm => ?_⟩
    rw [bR 22 (by decide), bR 19 (by decide)]
    exact ⟨oB m, by have := (hoB m hm).1; omega, (hoB m hm).2, Nat.le_refl _, fun _ z => z⟩
  have wz : y_wz oB (fun m => ¬ y_R S 19 m = 0) T (y_beg T S1) V2 := by
    intro m hm
    have hm12 : m < 12 := by omega
    refine ⟨(c5 m hm).1, fun z => ?_⟩
    have z' := z
    rw [r64 m hm12] at z'
    refine ⟨(c5 m hm).2 z, z', ?_⟩
    rw [e23 m hm, if_neg z']; exact (hoB m hm12).2
  have hod2 : ∀ i, i < y_many T 7 → zA V2 56 i = zA T 12 i := by
    intro i hi
    rw [fV2.2.1 56 (by decide)]; exact hod i hi
  have blb : y_bl (y_beg T S1) := ⟨⟨k, hk, by rw [bI 9 (by decide), u2 0 9 (by decide)]; exact ek⟩, fun s hs => by rw [bR 9 (by decide)]; exact i2.2 s hs⟩
  obtain ⟨V3, d1, d2, d3, d4, d5, d6, d7, p, hp, d8⟩ := m_tickl (F := F) (lv := lv) hF hTT hax hmo htm (oB := oB) (nB := fun m => ¬ y_R S 19 m = 0) (fun m hm => by have := (hoB m hm).1; omega) (y_many T 7) 0 F b (y_beg T S1) V2 (by omega) (by omega) (by omega) hod2 (Or.inl ⟨c2, rfl⟩) c4 wz ozb (st2 _ (by rw [bI 9 (by decide), u2 0 9 (by decide)]) (bR 9 (by decide))) blb
  rw [← y_ord_eq] at d2 d3 d5 d6 d7 d8
  have d1' : fX12_oneTick_l23 F F V2 0 = some V3 := d1
  have fV3 : y_fw ((0, 68) :: y_pz) (64 :: 65 :: y_py) V V3 := y_fw_trans fV2 (y_fw_mono d4 (fun _ z => List.mem_cons_of_mem _ z) (fun _ z => List.mem_cons_of_mem _ (List.mem_cons_of_mem _ z)))
  by_cases q1 : 0 < y_timed T S
  · rw [if_pos ⟨hk9, q1⟩]
    have hac : y_ac (y_tl T (y_ord T) (y_beg T S1)) ≤ 200 := by obtain ⟨a, ha, e⟩ := d7.1; rw [y_ac_of ha e]; exact ha
    have ob : y_ofb (b + y_many T 7 + 12 * y_ac (y_tl T (y_ord T) (y_beg T S1))) (y_tl T (y_ord T) (y_beg T S1)) := fun m hm => by
      obtain ⟨j, a1, a2, -⟩ := d7.2 m hm
      exact ⟨j, a1, a2⟩
    refine ⟨V3, d1', d2, d3, y_si_end d5, y_bl_end (y_bl_kp d6 blb), y_ofb_mono (y_ofb_end h7.2 ob) (by omega), fun r hr => ?_, ?_, y_alive_end hp d8, fV3⟩
    · have h1 := (show ∀ r ∈ [6, 8, 11, 12], (¬ r = 19 ∧ ¬ r = 20 ∧ ¬ r = 22) ∧ r ∈ [6, 7, 8, 9, 11, 12, 23] ∧ ¬ r = 23 by decide) r hr
      rw [y_end_kp.2.1 r h1.1, d6.2 r h1.2.1, bR r h1.2.2]
    · rw [y_end_kp.1, d6.1.2, bI 10 (by decide)]; exact u3
  · rw [if_neg (fun z => q1 z.2)]
    have no : y_tl T (y_ord T) (y_beg T S1) = y_beg T S1 := by
      refine y_tl_no _ fun m hm z => ?_
      unfold y_ord at hm
      obtain ⟨i, hi, e⟩ := List.mem_map.mp hm
      obtain ⟨m', hm', em'⟩ := hTT.2.2.2.2.2.2 i (List.mem_range.mp hi)
      have : m = m' := by rw [← e, em', nI_clamp (by omega)]
      subst this
      have hm12 : m < 12 := by omega
      have z1 := z.1
      rw [e23 m hm', bR 22 (by decide)] at z1
      by_cases qo : y_R S 19 m = 0
      · rw [if_pos qo, (hoB m hm12).2] at z1
        have := nI_pos (n := oB m) (by have := (hoB m hm12).1; omega)
        rw [← z1] at this
        exact this (by decide)
      · refine q1 ?_
        unfold y_timed
        exact List.length_pos_of_mem (List.mem_filter.mpr ⟨List.mem_range.mpr hm', decide_eq_true ⟨qo, z.2⟩⟩)
    have noe : y_end T (y_beg T S1) = y_beg T S1 := by
      refine y_end_no ?_
      rw [bI 9 (by decide)]
      exact al1
    rw [no, noe] at d2 d3
    refine ⟨V3, d1', y_mg_unbeg d2, fun s hs => (d3 s hs).trans ?_, s1, bl1, y_ofb_mono (y_ofb_eq i3 (u1 22)) (by omega), fun r _ => u1 r, u3, al1, fV3⟩
    unfold y_stk y_over
    rw [bI 9 (by decide), bR 9 (by decide), u1]
theorem m_tick (hF : 3000 ≤ F) (hTT : y_T T) (hax : y_ax T) (hmo : ∀ m, m < y_many T 7 → y_hd T m ≤ y_hd T (m + 1)) (htm : y_tm T) {n b t : Nat} (hb : b + 6000 < 2 ^ 31) (ht : t < 5000) (et : y_I S 0 10 = nI t) (h : y_gm lv T S n V) (hiv : y_iv n b T S) :
    ∃ V1 V', fX12_oneTick F V = some V1 ∧ fX12_fires F V1 = some (nI (y_tick T S).1, V') ∧ y_gm lv T (y_tick T S).2 n V' ∧ y_iv n (b + 2500) T (y_tick T S).2 ∧ y_I (y_tick T S).2 0 10 = nI (t + 1) ∧ (y_tick T S).1 ≤ 8 ∧ y_fw ((0, 68) :: y_pz) (53 :: 54 :: 64 :: 65 :: y_py) V V' := by
  obtain ⟨V1, a1, a2, a3, a4, a5, a6, a7, a8, a9, a10⟩ := m_one (F := F) hF hTT hax hmo htm hb ht et h hiv
  obtain ⟨hT, hg, hst, hod, h72⟩ := h
  obtain ⟨i1, i2, i3, i4, ⟨t', ht', et', i5⟩, i6⟩ := hiv
  have htt : t' = t := (nI_eq (by omega) (by omega)).mp (et'.symm.trans et)
  subst htt
  have e : y_tick T S = y_fl T (y_t2 T S).2.2.2 [] [] (y_t2 T S) := rfl
  rw [e]
  generalize y_t2 T S = S2 at a2 a3 a4 a5 a6 a7 a8 a9 ⊢
  have rows := (show ∀ r ∈ y_st, r ∉ 64 :: 65 :: y_py by decide)
  have hT1 : y_mt T lv V1 := y_mt_eq hT (a10.1 0 18 (by decide)) fun r hr => a10.2.1 r (rows r hr)
  have cj : y_cj (t' + 1) [] S2 := by
    refine ⟨a8, fun d hd => ?_⟩
    rw [a7 11 (by decide), a7 12 (by decide)]
    obtain ⟨c, j, h1, h2, h3, h4⟩ := i5 d hd
    exact ⟨c, j, h3, h4, Or.inr ⟨List.not_mem_nil, by omega, by omega⟩⟩
  have hQ8 : S2.2.2.2.length ≤ 8 := by
    have := y_sub_len S2.2.2.2 (List.range 8) a4.1.1 (fun x hx => List.mem_range.mpr (by have := a4.1.2 x hx; have := hTT.2.1.2.1.2; omega))
    rwa [List.length_range] at this
  obtain ⟨V2, f', b1, b2, b3, b4, b5⟩ := m_firesl (F := F) (lv := lv) hF hTT (t := t' + 1) (by omega) S2.2.2.2 a4.1.1 a4.1.2 S2.2.2.2 0 F [] [] S2 V1 rfl (Nat.zero_le _) (by omega) hT1 a2 (Nat.le_refl _) (Nat.le_refl _) cj (fun d hd => absurd hd List.not_mem_nil)
  obtain ⟨k1, k2, k3, k4⟩ := y_fl_kp (T := T) S2.2.2.2 [] [] S2
  have b1' : fX12_fires F V1 = some (nI (y_fl T S2.2.2.2 [] [] S2).1, V2) := b1
  have fV : y_fw ((0, 68) :: y_pz) (53 :: 54 :: 64 :: 65 :: y_py) V V2 := y_fw_trans (y_fw_mono a10 (by decide) (by decide)) (y_fw_of b3 (by decide) (by decide))
  have rows2 := (show ∀ r ∈ y_st, r ∉ 53 :: 54 :: 64 :: 65 :: y_py by decide)
  refine ⟨V1, V2, a1, b1', ⟨y_mt_eq hT (fV.1 0 18 (by decide)) fun r hr => fV.2.1 r (rows2 r hr), b2, fun s hs => ?_, fun i hi => ?_, (fV.1 0 72 (by decide)).trans h72⟩, ⟨⟨⟨k3 a4.1.1, fun c hc => a4.1.2 c (k4 c hc)⟩, fun m hm => ?_, ?_, ?_⟩, ⟨?_, fun s hs => ?_⟩, y_ofb_eq a6 (k2 22 (by decide)), fun s hs => ?_, ⟨t' + 1, by omega, (k1 0 10).trans a8, fun d hd => ?_⟩, ?_⟩, (k1 0 10).trans a8, by omega, fV⟩
  · rw [b3.2.1 47 (by decide), a3 s hs]
    unfold y_stk y_over
    rw [k1, k2 9 (by decide)]
  · rw [fV.2.1 56 (by decide)]; exact hod i hi
  · rw [k2 19 (by decide), k2 20 (by decide)]; exact a4.2.1 m hm
  · rw [k1]; exact a4.2.2.1
  · rw [k1]; exact a4.2.2.2
  · rw [k1]; exact a5.1
  · rw [k2 9 (by decide)]; exact a5.2 s hs
  · rw [k2 6 (by decide), k2 8 (by decide), a7 6 (by decide), a7 8 (by decide)]; exact i4 s hs
  · obtain ⟨c, j, h1, h2, h3⟩ := b4.2 d hd
    refine ⟨c, j, ?_, ?_, h1, h2⟩
    · rcases h3 with h3 | h3 <;> omega
    · rcases h3 with h3 | h3 <;> omega
  · rw [k1, k1]; exact a9
end
