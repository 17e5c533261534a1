/-! ===== a new game in the reference ===== -/
section
variable {F : Nat} {T : zV} {lv : Nat} {S : y_S} {V V' : zV}
theorem y_mg_beg (h : y_mg T S V) : y_mg T (y_beg T S) V := by
  obtain ⟨b1, b2, b3, b4, b5, b6, b7, bb, p, hp, b8, b9⟩ := h
  have r : ∀ r, ¬ r = 23 → y_R (y_beg T S) r = y_R S r := fun r hr => y_rem_row hr
  refine ⟨fun q hq => (b1 q hq).trans ?_, fun q hq i hi => (b2 q hq i hi).trans ?_, fun s hs => ?_, fun c hc => ?_, b5, b6, b7, fun m hm => ?_, p, hp, b8, b9⟩
  · show zI S.1 q.1 q.2.1 = if q.1 = 0 ∧ q.2.1 = 14 then 0 else if q.1 = 0 ∧ q.2.1 = 13 then 0 else zI S.1 q.1 q.2.1
    have := (show ∀ q ∈ y_mnum, ¬ (q.1 = 0 ∧ q.2.1 = 14) ∧ ¬ (q.1 = 0 ∧ q.2.1 = 13) by decide) q hq
    rw [if_neg this.1, if_neg this.2]
  · rw [r q.1 ((show ∀ q ∈ y_mrow, ¬ q.1 = 23 by decide) q hq)]
  · rw [r 6 (by decide), r 8 (by decide)]; exact b3 s hs
  · rw [r 11 (by decide), r 12 (by decide)]; exact b4 c hc
  · rw [r 19 (by decide)]; exact bb m hm
theorem y_new_R {r : Nat} (h : ¬ r = 1) (x : Nat) : y_R (y_new T 0 0 (fun _ => 0)) r x = 0 := by
  show (if r = 23 then (fun _ => 0) else if r = 1 then zA T 9 else zA z0 r) x = 0
  rw [if_neg h]
  split <;> rfl
theorem m_new (hF : 3000 ≤ F) (hTT : y_T T) (hto : y_to T) (hm6 : y_many T 6 ≤ 16) (hT : y_mt T lv V) (h20 : ¬ zI V 0 20 = 0) (h61 : zI V 0 61 = 0) (h42 : ∀ l, l < 65536 → zA V 42 l = 0) :
    ∃ V2 V', fX12_begin F V = zbd (fX12_serves F V2) (fun q8 => zlet (zsI q8 0 88 (0 : Int32)) fun V7_10 => zlet (zsI V7_10 0 89 (0 : Int32)) fun V7_12 => zlet (zsI V7_12 0 90 (0 : Int32)) fun V7_14 => zbd (fX12_sort F V7_14 (7 : Int32)) fun q16 => if q16 ≤ 0 then (fX12_begin_b257 F V7_14) else zbd (fX12_starts F V7_14 (0 : Int32)) fun q19 => zbd (fX12_works F q19) fun q21 => fX12_begin_b257 F q21) ∧ y_mt T lv V2 ∧ y_mg T (y_new T 0 0 (fun _ => 0)) V2 ∧ (∀ i, i < y_many T 7 → zA V2 56 i = zA T 12 i) ∧ (zI V2 0 72 = 0 ∧ zI V2 0 64 = 1 ∧ ∀ j, j < 16 → zA V2 47 j = 0) ∧ y_fw ((0, 61) :: (0, 59) :: y_bg) (40 :: 41 :: 42 :: 56 :: y_ba) V V2 ∧ V' = V2 := by
  obtain ⟨V1, a1, a2, a3, a4, a5, a6, a7, a8⟩ := m_fill (F := F) hF hT h20
  have hT1 : y_mt T lv V1 := y_mt_eq hT (a2.1 0 18 (by decide)) fun r hr => a2.2.1 r ((show ∀ r ∈ y_st, r ∉ y_ba by decide) r hr)
  obtain ⟨V2, b1, b2, b3⟩ := m_orders (F := F) hF hTT hto hT1
  have hT2 := y_mt_fr hT1 b3 List.not_mem_nil (by decide)
  obtain ⟨V3, c1, c2, c3⟩ := m_noBalls (F := F) hF hTT.2.2.1 hT2 ((b3.1 0 61 List.not_mem_nil).trans ((a2.1 0 61 (by decide)).trans h61)) (fun l hl => by rw [b3.2.1 42 (by decide), a2.2.1 42 (by decide)]; exact h42 l hl)
  have hT3 := y_mt_fr hT2 c3 (by decide) (by decide)
  have nn : ∀ k, ¬ (k = 61 ∨ k = 59) → zI V3 0 k = zI V1 0 k := fun k hk => (c3.1 0 k (by simp; omega)).trans (b3.1 0 k List.not_mem_nil)
  have ra : ∀ q, q ∉ [40, 41, 42] → q ∉ [56] → zA V3 q = zA V1 q := fun q h1 h2 => (c3.2.1 q h1).trans (b3.2.1 q h2)
  refine ⟨V3, V3, ?_, hT3, ⟨fun q hq => ?_, fun q hq i hi => ?_, fun s hs => ?_, fun c hc => ?_, ?_, ?_, ⟨?_, fun i c h => (by cases h)⟩, fun m hm => Or.inl (y_new_R (by decide) m), 0, by omega, rfl, c2⟩, fun i hi => ?_, ⟨?_, ?_, fun j hj => ?_⟩, ?_, rfl⟩
  · rw [a1]
    unfold y_bt
    rw [b1, y_bd, c1, y_bd]
  · have hq : q = (0, 9, 66) ∨ q = (0, 10, 68) ∨ q = (0, 11, 70) ∨ q = (0, 12, 71) ∨ q = (14, 7, 67) := by
      have : q ∈ [(0, 9, 66), (0, 10, 68), (0, 11, 70), (0, 12, 71), (14, 7, 67)] := hq
      simpa using this
    rcases hq with rfl | rfl | rfl | rfl | rfl
    · exact (nn 66 (by decide)).trans a4.2.1
    · exact (nn 68 (by decide)).trans (a4.2.2 68 (by decide))
    · exact (nn 70 (by decide)).trans (a4.2.2 70 (by decide))
    · exact (nn 71 (by decide)).trans (a4.2.2 71 (by decide))
    · exact (nn 67 (by decide)).trans (a4.2.2 67 (by decide))
  · have hq' : q = (1, 43, 16) ∨ q = (6, 44, 16) ∨ q = (7, 45, 16) ∨ q = (9, 48, 16) ∨ q = (11, 53, 8) ∨ q = (19, 49, 12) ∨ q = (20, 50, 12) ∨ q = (21, 51, 12) ∨ q = (22, 52, 12) := by
      have : q ∈ [(1, 43, 16), (6, 44, 16), (7, 45, 16), (9, 48, 16), (11, 53, 8), (19, 49, 12), (20, 50, 12), (21, 51, 12), (22, 52, 12)] := hq
      simpa using this
    rcases hq' with rfl | rfl | rfl | rfl | rfl | rfl | rfl | rfl | rfl
    · have hi : i < y_many T 6 := hi
      show zA V3 43 i = zA T 9 i
      rw [ra 43 (by decide) (by decide), a5 i (by omega)]
      have := hT.2.2.2.2.2.1.2.2.2 i (by omega) hi
      exact this
    · rw [y_new_R (by decide)]; show zA V3 44 i = 0; rw [ra 44 (by decide) (by decide)]; exact a6 i hi 44 (by decide)
    · rw [y_new_R (by decide)]; show zA V3 45 i = 0; rw [ra 45 (by decide) (by decide)]; exact a6 i hi 45 (by decide)
    · rw [y_new_R (by decide)]; show zA V3 48 i = 0; rw [ra 48 (by decide) (by decide)]; exact a6 i hi 48 (by decide)
    · rw [y_new_R (by decide)]; show zA V3 53 i = 0; rw [ra 53 (by decide) (by decide)]; exact (a8 i hi).1
    · rw [y_new_R (by decide)]; show zA V3 49 i = 0; rw [ra 49 (by decide) (by decide)]; exact a7 i hi 49 (by decide)
    · rw [y_new_R (by decide)]; show zA V3 50 i = 0; rw [ra 50 (by decide) (by decide)]; exact a7 i hi 50 (by decide)
    · rw [y_new_R (by decide)]; show zA V3 51 i = 0; rw [ra 51 (by decide) (by decide)]; exact a7 i hi 51 (by decide)
    · rw [y_new_R (by decide)]; show zA V3 52 i = 0; rw [ra 52 (by decide) (by decide)]; exact a7 i hi 52 (by decide)
  · rw [y_new_R (by decide), if_pos rfl, ra 46 (by decide) (by decide)]; exact a6 s hs 46 (by decide)
  · rw [y_new_R (by decide), if_pos rfl, ra 54 (by decide) (by decide)]; exact (a8 c hc).2
  · rw [c3.2.2.1, b3.2.2.1]; exact a3
  · exact (nn 69 (by decide)).trans (a4.2.2 69 (by decide))
  · exact (nn 85 (by decide)).trans (a4.2.2 85 (by decide))
  · rw [c3.2.1 56 (by decide)]; exact b2 i hi
  · exact (nn 72 (by decide)).trans (a4.2.2 72 (by decide))
  · exact (nn 64 (by decide)).trans a4.1
  · rw [ra 47 (by decide) (by decide)]; exact a6 j hj 47 (by decide)
  · exact y_fw_trans (y_fw_mono a2 (fun _ z => List.mem_cons_of_mem _ (List.mem_cons_of_mem _ z)) (fun _ z => List.mem_cons_of_mem _ (List.mem_cons_of_mem _ (List.mem_cons_of_mem _ (List.mem_cons_of_mem _ z))))) (y_fw_trans (y_fw_of b3 (fun _ z => absurd z List.not_mem_nil) (by decide)) (y_fw_of c3 (by decide) (by decide)))
/-- begin, where a table lies ready -/
theorem m_open (hF : 3000 ≤ F) (hTT : y_T T) (hax : y_ax T) (hmo : ∀ m, m < y_many T 7 → y_hd T m ≤ y_hd T (m + 1)) (hto : y_to T) (hm6 : y_many T 6 ≤ 16) (hT : y_mt T lv V) (h20 : ¬ zI V 0 20 = 0) (h61 : zI V 0 61 = 0) (h42 : ∀ l, l < 65536 → zA V 42 l = 0) :
    ∃ V', fX12_begin F V = some (1, V') ∧ y_gm lv T (y_open T) 0 V' ∧ y_iv 0 2500 T (y_open T) ∧ zI V' 0 64 = 1 ∧ y_fw ((0, 64) :: (0, 68) :: (0, 72) :: y_pz) (44 :: 45 :: 46 :: 48 :: 53 :: 54 :: 56 :: y_py) V V' := by
  have h7 := hTT.2.1.1
  obtain ⟨V1, -, a1, a2, a3, a4, a5, a6, -⟩ := m_new (F := F) hF hTT hto hm6 hT h20 h61 h42
  obtain ⟨V2, b1, b2, b3⟩ := m_serves (F := F) (lv := lv) hF hTT.2.2.1 a2 a3
  rw [a1, b1, y_bd]
  simp only [y_let]
  have f1 : y_fr [(0, 88), (0, 89), (0, 90)] [] V2 (zsI (zsI (zsI V2 0 88 0) 0 89 0) 0 90 0) := y_fr_I (y_fr_I (y_fr_I y_fr_refl (by decide)) (by decide)) (by decide)
  have h88 : zI (zsI (zsI (zsI V2 0 88 0) 0 89 0) 0 90 0) 0 88 = 0 := rfl
  have h89 : zI (zsI (zsI (zsI V2 0 88 0) 0 89 0) 0 90 0) 0 89 = 0 := rfl
  have h90 : zI (zsI (zsI (zsI V2 0 88 0) 0 89 0) 0 90 0) 0 90 = nI 0 := rfl
  have hT3 := y_mt_fr (y_mt_fr a2 b3 (by decide) (by decide)) f1 (by decide) (fun _ _ => List.not_mem_nil)
  have g3 := y_mg_beg (y_mg_fr b2 f1 (by decide) (fun _ _ => List.not_mem_nil))
  generalize zsI (zsI (zsI V2 0 88 0) 0 89 0) 0 90 0 = V3 at f1 h88 h89 h90 hT3 g3 ⊢
  have fV3 : y_fw ((0, 64) :: (0, 68) :: (0, 72) :: y_pz) (44 :: 45 :: 46 :: 48 :: 53 :: 54 :: 56 :: y_py) V V3 := y_fw_trans (y_fw_mono a6 (by decide) (by decide)) (y_fw_trans (y_fw_of b3 (by decide) (by decide)) (y_fw_of f1 (by decide) (fun _ z => absurd z List.not_mem_nil)))
  -- what the state is now
  have R0 : ∀ r, ¬ r = 1 → ¬ r = 23 → ∀ x, y_R (y_beg T (y_take T (y_new T 0 0 (fun _ => 0)))) r x = 0 := fun r h1 h2 x => by
    have : y_R (y_beg T (y_take T (y_new T 0 0 (fun _ => 0)))) r = y_R (y_new T 0 0 (fun _ => 0)) r := (y_rem_row h2).trans y_take_R
    rw [this]; exact y_new_R h1 x
  have I0 : ∀ k, ¬ k = 13 ∧ ¬ k = 14 → y_I (y_beg T (y_take T (y_new T 0 0 (fun _ => 0)))) 0 k = y_I (y_new T 0 0 (fun _ => 0)) 0 k := by
    intro k hk
    show (if 0 = 0 ∧ k = 14 then 0 else if 0 = 0 ∧ k = 13 then 0 else zI (y_take T (y_new T 0 0 (fun _ => 0))).1 0 k) = _
    rw [if_neg (fun z => hk.2 z.2), if_neg (fun z => hk.1 z.2)]
    unfold y_take
    split <;> rfl
  have row0 : (y_beg T (y_take T (y_new T 0 0 (fun _ => 0)))).2.2.2 = [] := y_take_row
  have i13 : y_I (y_beg T (y_take T (y_new T 0 0 (fun _ => 0)))) 0 13 = nI 0 := rfl
  have i14 : y_I (y_beg T (y_take T (y_new T 0 0 (fun _ => 0)))) 0 14 = 0 := rfl
  have i9 : y_I (y_beg T (y_take T (y_new T 0 0 (fun _ => 0)))) 0 9 = nI 1 := I0 9 (by decide)
  have i10 : y_I (y_beg T (y_take T (y_new T 0 0 (fun _ => 0)))) 0 10 = nI 0 := I0 10 (by decide)
  have st47 : ∀ j, j < 16 → zA V3 47 j = 0 := fun j hj => by rw [f1.2.1 47 List.not_mem_nil, b3.2.1 47 (by decide)]; exact a5.2.2 j hj
  have hod3 : ∀ i, i < y_many T 7 → zA V3 56 i = zA T 12 i := fun i hi => by rw [f1.2.1 56 List.not_mem_nil, b3.2.1 56 (by decide)]; exact a4 i hi
  have h723 : zI V3 0 72 = nI 0 := (f1.1 0 72 (by decide)).trans ((b3.1 0 72 (by decide)).trans a5.1)
  have h643 : zI V3 0 64 = 1 := (f1.1 0 64 (by decide)).trans ((b3.1 0 64 (by decide)).trans a5.2.1)
  have op : y_open T = y_end T (if y_many T 7 = 0 then y_beg T (y_take T (y_new T 0 0 (fun _ => 0))) else if (y_on T (y_beg T (y_take T (y_new T 0 0 (fun _ => 0)))) 0).1 = true then y_rR T 8 false 0 (-1) (y_on T (y_beg T (y_take T (y_new T 0 0 (fun _ => 0)))) 0).2 else (y_on T (y_beg T (y_take T (y_new T 0 0 (fun _ => 0)))) 0).2) := rfl
  rw [op]
  generalize y_beg T (y_take T (y_new T 0 0 (fun _ => 0))) = S1 at g3 R0 row0 i13 i14 i9 i10 ⊢
  have si1 : y_si T S1 := ⟨⟨by rw [row0]; exact List.nodup_nil, fun c hc => by rw [row0] at hc; cases hc⟩, fun m hm _ => R0 20 (by decide) (by decide) m, Or.inl i14, 0, by omega, i13⟩
  have bl1 : y_bl S1 := ⟨⟨1, by omega, i9⟩, fun s hs => ⟨0, by omega, R0 9 (by decide) (by decide) s⟩⟩
  have ob1 : y_ob 0 S1 := ⟨⟨0, by omega, i13⟩, fun m hm => ⟨0, by omega, R0 22 (by decide) (by decide) m⟩⟩
  have st1 : y_mst T S1 V3 := by
    intro s hs
    rw [st47 s (by have := hTT.2.1.2.2.2; omega)]
    unfold y_stk y_over
    rw [i9, if_pos (show (if nI 1 = 0 then (3 : Int32) else nI 1 - 1) < 2 by decide)]
  -- the end: the ball is asked for
  have fin : ∀ (S2 : y_S) (V4 : zV), y_mt T lv V4 → y_mg T S2 V4 → y_si T S2 → y_kp S1 S2 → y_mst T S2 V4 → y_ob 0 S2 → y_fw y_pz y_py V3 V4 →
      ∃ V', fX12_begin_b257 F V4 = some (1, V') ∧ y_gm lv T (y_end T S2) 0 V' ∧ y_iv 0 2500 T (y_end T S2) ∧ zI V' 0 64 = 1 ∧ y_fw ((0, 64) :: (0, 68) :: (0, 72) :: y_pz) (44 :: 45 :: 46 :: 48 :: 53 :: 54 :: 56 :: y_py) V V' := by
    intro S2 V4 t1 t2 t3 t4 t5 t6 t7
    have t2' := t2
    obtain ⟨-, -, -, -, -, -, -, -, p, hp, g8, -⟩ := t2'
    obtain ⟨V5, u1, u2, u3, u4⟩ := m_asks (F := F) (lv := lv) hF hTT t1 t2 t5 (y_bl_kp t4 bl1) t3.2.1
    have fV5 : y_fw y_pz y_py V3 V5 := y_fw_trans t7 (y_fw_mono u4 (by decide) (by decide))
    have hac : y_ac S2 ≤ 200 := by obtain ⟨a, ha, e⟩ := t6.1; rw [y_ac_of ha e]; exact ha
    rw [fX12_begin_b257, u1, y_bd]
    refine ⟨V5, rfl, ⟨y_mt_eq hT3 (fV5.1 0 18 (by decide)) fun r hr => fV5.2.1 r ((show ∀ r ∈ y_st, r ∉ y_py by decide) r hr), u2, u3, fun i hi => ?_, ?_⟩, ⟨y_si_end t3, y_bl_end (y_bl_kp t4 bl1), y_ofb_mono (y_ofb_end h7.2 t6.2) (by omega), fun s hs => ?_, ⟨0, by omega, ?_, fun d hd => ?_⟩, y_alive_end hp g8⟩, ?_, y_fw_trans fV3 (y_fw_mono fV5 (by decide) (by decide))⟩
    · rw [fV5.2.1 56 (by decide)]; exact hod3 i hi
    · exact (fV5.1 0 72 (by decide)).trans h723
    · rw [y_end_kp.2.1 6 (by decide), y_end_kp.2.1 8 (by decide), t4.2 6 (by decide), t4.2 8 (by decide)]
      exact ⟨0, 0, by omega, by omega, R0 6 (by decide) (by decide) s, R0 8 (by decide) (by decide) s⟩
    · rw [y_end_kp.1, t4.1.2]; exact i10
    · rw [y_end_kp.2.1 11 (by decide), y_end_kp.2.1 12 (by decide), t4.2 11 (by decide), t4.2 12 (by decide)]
      exact ⟨0, 0, by omega, by omega, R0 11 (by decide) (by decide) d, R0 12 (by decide) (by decide) d⟩
    · exact (fV5.1 0 64 (by decide)).trans h643
  rw [show (7 : Int32) = nI 7 from rfl, m_sort hT3 (by decide), y_bd, h7.1]
  by_cases q : y_many T 7 = 0
  · rw [if_pos q, q, if_pos (show nI 0 ≤ (0 : Int32) by decide)]
    exact fin S1 V3 hT3 g3 si1 ⟨⟨rfl, rfl⟩, fun _ _ => rfl⟩ st1 ob1 y_fw_refl
  rw [if_neg q, if_neg (show ¬ nI (y_many T 7) ≤ (0 : Int32) from nI_nle (by omega) (by omega))]
  have hon : (y_on T S1 0).1 = true := by
    unfold y_on
    rw [if_pos (R0 19 (by decide) (by decide) 0)]
  rw [if_pos hon]
  obtain ⟨R, hR, hR3, hh, hcond⟩ := hTT.2.2.2.2.1
  obtain ⟨V4, c1, c2, c3⟩ := m_starts (F := F) (fr := 0) (m := 0) hF hT3 g3 (by decide) h90 (by omega) h7.2 (hh 0 (by omega)).1
  have hdp0 : y_dp V3 0 = 0 := rfl
  have kp2 : y_kp S1 (y_on T S1 0).2 := y_kp_on
  have si2 : y_si T (y_on T S1 0).2 := y_si_on si1
  have ob2 : y_ob 0 (y_on T S1 0).2 := y_ob_same ob1 y_on_I (y_ofb_eq (b := 0) (y_ofb_mono ob1.2 (by rw [y_ac_of (by omega) i13]; omega)) y_on_22) (by omega)
  rcases c3 with ⟨d1, d2⟩ | ⟨d1, d2, d3⟩ | ⟨d1, d2, V5, d3, d4, d5, d6, d7⟩
  · rw [hon] at d1; cases d1
  · omega
  have d3' : fX12_starts F V3 0 = some V5 := d3
  have hT5 := y_mt_fr (y_mt_fr hT3 c2 List.not_mem_nil (by decide)) d6 (by decide) (by decide)
  have g5 := y_mg_fr c1 d6 (by decide) (by decide)
  have w5 : y_mw false lv T (y_on T S1 0).2 V5 := ⟨hT5, g5, si2, ((d6.1 0 88 (by decide)).trans ((c2.1 0 88 List.not_mem_nil).trans h88)).trans (y_on_I.trans i13).symm, (d6.1 0 89 (by decide)).trans ((c2.1 0 89 List.not_mem_nil).trans h89), fun z => (by cases z), fun _ => y_on_I.trans i14⟩
  have hdp : y_dp V5 (0 + 1) = 8 - 7 := by
    rw [y_dp_succ, d5.2.1, if_pos (by decide)]; rfl
  obtain ⟨x1, x2⟩ := m_frun (F := F) (lv := lv) hF hTT hax hmo 7 (by decide) false 0 0 (-1) false (y_on T S1 0).2 V5 (Nat.zero_le _) w5 d4 d5 (by omega) hdp (fun z => (by cases z)) (fun _ => Or.inl rfl)
  have ob3 := y_ob_rR (k := 0) (T := T) h7.2 8 false 0 (-1) (y_on T S1 0).2 ob2
  have kp3 := y_kp_trans kp2 (y_kp_rR (T := T) 8 false 0 (-1) (y_on T S1 0).2)
  have hac3 : y_ac (y_rR T (7 + 1) false 0 (-1) (y_on T S1 0).2) ≤ 200 := by obtain ⟨a, ha, e⟩ := ob3.1.1; rw [y_ac_of ha e]; exact ha
  have fV5 : y_fw y_pz y_py V3 V5 := y_fw_trans (y_fw_of c2 (fun _ z => absurd z List.not_mem_nil) (by decide)) (y_fw_of d6 (by decide) (by decide))
  have stk : ∀ V6, y_fw y_dz y_dy V5 V6 → y_mst T (y_rR T 8 false 0 (-1) (y_on T S1 0).2) V6 := by
    intro V6 f6 s hs
    rw [f6.2.1 47 (by decide), d6.2.1 47 (by decide), c2.2.1 47 (by decide), y_stk_kp kp3]
    exact st1 s hs
  rw [d3', y_bd]
  rcases m_works hF (by omega) x2 with ⟨V6, i1, i2, i3, i4, i5, i6⟩ | ⟨V6, i1, i2, i3, i4, i5, i6, i7, i8⟩
  · rw [i1, y_bd]
    exact fin _ V6 i3.1 i3.2.1 i3.2.2.1 kp3 (stk V6 i4) ob3.1 (y_fw_trans fV5 (y_fw_mono i4 (by decide) (by decide)))
  · rw [i1, y_bd]
    exact fin _ V6 i4 i5 i6 kp3 (stk V6 i8) ob3.1 (y_fw_trans fV5 (y_fw_mono i8 (by decide) (by decide)))
end
