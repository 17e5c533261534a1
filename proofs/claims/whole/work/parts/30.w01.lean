set_option maxRecDepth 100000 in
set_option maxHeartbeats 4000000 in
theorem wX5_modeNamed_l2 {w : zW} (F : Nat) : ∀ (n : Nat) (V0 V1 V2 V3 V4 V5 V6 V7 : zV) (x1 : Int64) (x3 : Int32) (res : Int32), fX5_modeNamed_l2 F n V3 x1 x3 = some res → zR w kX5_modeNamed 0 0 0 (some (.int res)) (zE zds w [V0, V1, V2, V3, V4, V5, V6, V7]) 2 [(0, .ref (w.1 + 9)), (1, .long x1), (3, .int x3)] [] (zE zds w [V0, V1, V2, V3, V4, V5, V6, V7]) := by
  intro n
  induction n with
  | zero =>
    intro V0 V1 V2 V3 V4 V5 V6 V7 x1 x3 res h
    simp [fX5_modeNamed_l2] at h
  | succ n ih =>
    intro V0 V1 V2 V3 V4 V5 V6 V7 x1 x3 res h
    rw [fX5_modeNamed_l2] at h
    refine zR_iload_n dX5_modeNamed_2 2 rfl ?_
    refine zR_aload_n dX5_modeNamed_3 0 rfl ?_
    refine zG_getR dX5_modeNamed_4 zf_X5_29 zd_9 rfl rfl ?_
    refine zG_alen (u := (12 : Int32)) dX5_modeNamed_7 zd_14 (Nat.le_of_ble_eq_true rfl) rfl rfl rfl ?_
    by_cases c1 : (12 : Int32) ≤ x3
    · have h := zif_t h c1
      refine zR_icmp_ge_t (tgt := 30) dX5_modeNamed_8 (by decide) c1 ?_
      refine zR_iconst (x := (-1 : Int32)) dX5_modeNamed_30 (by decide) ?_
      have h := Option.some.inj h
      subst h
      exact zR_iret (x := (-1 : Int32)) dX5_modeNamed_31 rfl rfl
    · have h := zif_f h c1
      refine zR_icmp_ge_f (tgt := 30) dX5_modeNamed_8 (by decide) c1 ?_
      refine zR_aload_n dX5_modeNamed_11 0 rfl ?_
      refine zG_getR dX5_modeNamed_12 zf_X5_29 zd_9 rfl rfl ?_
      refine zR_iload_n dX5_modeNamed_15 2 rfl ?_
      obtain ⟨g2, h⟩ := zchk_some h
      refine zG_lald dX5_modeNamed_16 zd_14 rfl rfl g2 ?_
      refine zR_lload_n dX5_modeNamed_17 1 rfl ?_
      refine zR_lcmp dX5_modeNamed_18 ?_
      by_cases c3 : (lg_cmp (zB V3 5 (x3).toNatClampNeg) x1) = 0
      · have h := zif_t h c3
        refine zR_if_ne_f (tgt := 24) dX5_modeNamed_19 (by decide) c3 ?_
        refine zR_iload_n dX5_modeNamed_22 2 rfl ?_
        have h := Option.some.inj h
        subst h
        exact zR_iret (x := x3) dX5_modeNamed_23 rfl rfl
      · have h := zif_f h c3
        refine zR_if_ne_t (tgt := 24) dX5_modeNamed_19 (by decide) c3 ?_
        refine zR_iinc (u := (x3 + 1)) (lv' := [(0, .ref (w.1 + 9)), (1, .long x1), (3, .int (x3 + 1))]) dX5_modeNamed_24 2 rfl rfl (Nat.le_of_ble_eq_true rfl) rfl ?_
        refine zR_goto (tgt := 2) dX5_modeNamed_27 (by decide) ?_
        exact ih V0 V1 V2 V3 V4 V5 V6 V7 x1 (x3 + 1) _ h
set_option maxRecDepth 100000 in
set_option maxHeartbeats 4000000 in
theorem mX5_modeNamed {w : zW} (F : Nat) (V0 V1 V2 V3 V4 V5 V6 V7 : zV) (x1 : Int64) (res : Int32) (h : fX5_modeNamed F V3 x1 = some res) : zMet w kX5_modeNamed 0 0 0 [.ref (w.1 + 9), .long x1] (zE zds w [V0, V1, V2, V3, V4, V5, V6, V7]) (some (.int res)) (zE zds w [V0, V1, V2, V3, V4, V5, V6, V7]) := by
  refine zMet_of (by decide) (Nat.le_of_ble_eq_true rfl) (Nat.le_refl 0) fun _ => ?_
  show zR w kX5_modeNamed 0 0 0 (some (.int res)) (zE zds w [V0, V1, V2, V3, V4, V5, V6, V7]) 0 [(0, .ref (w.1 + 9)), (1, .long x1)] [] (zE zds w [V0, V1, V2, V3, V4, V5, V6, V7])
  unfold fX5_modeNamed at h
  refine zR_iconst (x := (0 : Int32)) dX5_modeNamed_0 rfl ?_
  refine zR_istore_n (lv' := [(0, .ref (w.1 + 9)), (1, .long x1), (3, .int (0 : Int32))]) dX5_modeNamed_1 (Nat.le_of_ble_eq_true rfl) rfl ?_
  exact wX5_modeNamed_l2 F F V0 V1 V2 V3 V4 V5 V6 V7 x1 (0 : Int32) _ h
set_option maxRecDepth 100000 in
set_option maxHeartbeats 4000000 in
theorem wX5_use_b74 {w : zW} (F : Nat) (V0 V1 V2 V3 V4 V5 V6 V7 : zV) (x1 : Int32) (x6 : Int32) (res : zV) (h : fX5_use_b74 F V1 V3 x1 x6 = some res) : zR w kX5_use 1 0 0 none (zE zds w [V0, res, V2, V3, V4, V5, V6, V7]) 74 [(0, .ref (w.1 + 9)), (1, .int x1), (6, .int x6)] [] (zE zds w [V0, V1, V2, V3, V4, V5, V6, V7]) := by
  unfold fX5_use_b74 at h
  refine zR_iload dX5_use_74 2 rfl ?_
  refine zR_iconst (x := (-1 : Int32)) dX5_use_76 (by decide) ?_
  by_cases c1 : x6 = (-1 : Int32)
  · have h := zif_t h c1
    refine zR_icmp_ne_f (tgt := 92) dX5_use_77 (by decide) c1 ?_
    refine zR_aload_n dX5_use_80 0 rfl ?_
    refine zG_getR dX5_use_81 zf_X5_32 zd_9 rfl rfl ?_
    refine zR_iconst (x := (4 : Int32)) dX5_use_84 rfl ?_
    refine zR_iload_n dX5_use_85 1 rfl ?_
    obtain ⟨q4, hq5, h⟩ := zbd_some h
    refine zR_cV (rest := []) (st1 := []) dX5_use_86 (mX10_blame F V0 V1 V2 V3 V4 V5 V6 V7 (4 : Int32) x1 _ hq5) zc_X5_60 rfl (zE_at zd_2) ⟨_, _, rfl⟩ rfl (Nat.le_of_ble_eq_true rfl) (Nat.le_of_ble_eq_true rfl) rfl ?_
    refine zR_goto (tgt := 102) dX5_use_89 (by decide) ?_
    have h := Option.some.inj h
    subst h
    exact zR_ret dX5_use_102 rfl
  · have h := zif_f h c1
    refine zR_icmp_ne_t (tgt := 92) dX5_use_77 (by decide) c1 ?_
    refine zR_aload_n dX5_use_92 0 rfl ?_
    refine zG_getR dX5_use_93 zf_X5_32 zd_9 rfl rfl ?_
    refine zR_iload_n dX5_use_96 1 rfl ?_
    refine zR_iload dX5_use_97 2 rfl ?_
    obtain ⟨q2, hq3, h⟩ := zbd_some h
    refine zR_cV (rest := []) (st1 := []) dX5_use_99 (mX10_setNumber F V0 V1 V2 V3 V4 V5 V6 V7 x1 x6 _ hq3) zc_X5_77 rfl (zE_at zd_2) ⟨_, _, rfl⟩ rfl (Nat.le_of_ble_eq_true rfl) (Nat.le_of_ble_eq_true rfl) rfl ?_
    have h := Option.some.inj h
    subst h
    exact zR_ret dX5_use_102 rfl
set_option maxRecDepth 100000 in
set_option maxHeartbeats 4000000 in
theorem wX5_use_b61 {w : zW} (F : Nat) (V0 V1 V2 V3 V4 V5 V6 V7 : zV) (x1 : Int32) (x2 : Int32) (x3 : Int64) (x6 : Int32) (res : zV) (h : fX5_use_b61 F V1 V3 x1 x2 x3 x6 = some res) : zR w kX5_use 1 0 0 none (zE zds w [V0, res, V2, V3, V4, V5, V6, V7]) 61 [(0, .ref (w.1 + 9)), (1, .int x1), (2, .int x2), (3, .long x3), (6, .int x6)] [] (zE zds w [V0, V1, V2, V3, V4, V5, V6, V7]) := by
  unfold fX5_use_b61 at h
  refine zR_iload_n dX5_use_61 2 rfl ?_
  refine zR_bipush (x := (7 : Int32)) dX5_use_62 rfl ?_
  by_cases c6 : x2 = (7 : Int32)
  · have h := zif_t h c6
    refine zR_icmp_ne_f (tgt := 74) dX5_use_64 (by decide) c6 ?_
    refine zR_aload_n dX5_use_67 0 rfl ?_
    refine zR_lload_n dX5_use_68 3 rfl ?_
    obtain ⟨q7, hq8, h⟩ := zbd_some h
    refine zR_cV (rest := []) (st1 := [.int q7]) dX5_use_69 (mX5_modeNamed F V0 V1 V2 V3 V4 V5 V6 V7 x3 _ hq8) zc_X5_80 rfl (zE_at zd_9) ⟨_, _, rfl⟩ rfl (Nat.le_of_ble_eq_true rfl) (Nat.le_of_ble_eq_true rfl) rfl ?_
    refine zR_istore (lv' := [(0, .ref (w.1 + 9)), (1, .int x1), (2, .int x2), (3, .long x3), (6, .int q7)]) dX5_use_72 (Nat.le_of_ble_eq_true rfl) rfl ?_
    refine zR_sub (lv' := [(0, .ref (w.1 + 9)), (1, .int x1), (6, .int q7)]) [0, 1, 4] rfl ?_
    exact wX5_use_b74 F V0 V1 V2 V3 V4 V5 V6 V7 x1 q7 _ h
  · have h := zif_f h c6
    refine zR_icmp_ne_t (tgt := 74) dX5_use_64 (by decide) c6 ?_
    refine zR_sub (lv' := [(0, .ref (w.1 + 9)), (1, .int x1), (6, .int x6)]) [0, 1, 4] rfl ?_
    exact wX5_use_b74 F V0 V1 V2 V3 V4 V5 V6 V7 x1 x6 _ h
set_option maxRecDepth 100000 in
set_option maxHeartbeats 4000000 in
theorem wX5_use_b56 {w : zW} (F : Nat) (V0 V1 V2 V3 V4 V5 V6 V7 : zV) (x1 : Int32) (s0 : Int32) (res : zV) (h : fX5_use_b56 F V1 V3 x1 s0 = some res) : zR w kX5_use 1 0 0 none (zE zds w [V0, res, V2, V3, V4, V5, V6, V7]) 56 [(0, .ref (w.1 + 9)), (1, .int x1)] [.int s0] (zE zds w [V0, V1, V2, V3, V4, V5, V6, V7]) := by
  unfold fX5_use_b56 at h
  refine zR_istore (lv' := [(0, .ref (w.1 + 9)), (1, .int x1), (6, .int s0)]) dX5_use_56 (Nat.le_of_ble_eq_true rfl) rfl ?_
  refine zR_goto (tgt := 74) dX5_use_58 (by decide) ?_
  exact wX5_use_b74 F V0 V1 V2 V3 V4 V5 V6 V7 x1 s0 _ h
set_option maxRecDepth 100000 in
set_option maxHeartbeats 4000000 in
theorem mX5_use {w : zW} (F : Nat) (V0 V1 V2 V3 V4 V5 V6 V7 : zV) (x1 : Int32) (x2 : Int32) (res : zV) (h : fX5_use F V1 V3 x1 x2 = some res) : zMet w kX5_use 1 0 0 [.ref (w.1 + 9), .int x1, .int x2] (zE zds w [V0, V1, V2, V3, V4, V5, V6, V7]) none (zE zds w [V0, res, V2, V3, V4, V5, V6, V7]) := by
  refine zMet_of (by decide) (Nat.le_of_ble_eq_true rfl) (Nat.le_refl 0) fun _ => ?_
  show zR w kX5_use 1 0 0 none (zE zds w [V0, res, V2, V3, V4, V5, V6, V7]) 0 [(0, .ref (w.1 + 9)), (1, .int x1), (2, .int x2)] [] (zE zds w [V0, V1, V2, V3, V4, V5, V6, V7])
  unfold fX5_use at h
  refine zR_aload_n dX5_use_0 0 rfl ?_
  refine zG_getR dX5_use_1 zf_X5_32 zd_9 rfl rfl ?_
  refine zR_iload_n dX5_use_4 1 rfl ?_
  obtain ⟨q9, hq10, h⟩ := zbd_some h
  refine zR_cV (rest := []) (st1 := [.long q9]) dX5_use_5 (mX10_valueAt F V0 V1 V2 V3 V4 V5 V6 V7 x1 _ hq10) zc_X5_56 rfl (zE_at zd_2) ⟨_, _, rfl⟩ rfl (Nat.le_of_ble_eq_true rfl) (Nat.le_of_ble_eq_true rfl) rfl ?_
  refine zR_lstore_n (lv' := [(0, .ref (w.1 + 9)), (1, .int x1), (2, .int x2), (3, .long q9)]) dX5_use_8 (Nat.le_of_ble_eq_true rfl) rfl ?_
  refine zR_aload_n dX5_use_9 0 rfl ?_
  refine zR_lload_n dX5_use_10 3 rfl ?_
  obtain ⟨q11, hq12, h⟩ := zbd_some h
  refine zR_cV (rest := []) (st1 := [.int q11]) dX5_use_11 (mX5_telling F V0 V1 V2 V3 V4 V5 V6 V7 q9 _ hq12) zc_X5_73 rfl (zE_at zd_9) ⟨_, _, rfl⟩ rfl (Nat.le_of_ble_eq_true rfl) (Nat.le_of_ble_eq_true rfl) rfl ?_
  refine zR_istore (lv' := [(0, .ref (w.1 + 9)), (1, .int x1), (2, .int x2), (3, .long q9), (5, .int q11)]) dX5_use_14 (Nat.le_of_ble_eq_true rfl) rfl ?_
  refine zR_iconst (x := (-1 : Int32)) dX5_use_16 (by decide) ?_
  refine zR_istore (lv' := [(0, .ref (w.1 + 9)), (1, .int x1), (2, .int x2), (3, .long q9), (5, .int q11), (6, .int (-1 : Int32))]) dX5_use_17 (Nat.le_of_ble_eq_true rfl) rfl ?_
  refine zR_iload dX5_use_19 4 rfl ?_
  by_cases c13 : q11 < 0
  · have h := zif_t h c13
    refine zR_if_lt_t (tgt := 61) dX5_use_21 (by decide) c13 ?_
    refine zR_sub (lv' := [(0, .ref (w.1 + 9)), (1, .int x1), (2, .int x2), (3, .long q9), (6, .int (-1 : Int32))]) [0, 1, 2, 3, 5] rfl ?_
    exact wX5_use_b61 F V0 V1 V2 V3 V4 V5 V6 V7 x1 x2 q9 (-1 : Int32) _ h
  · have h := zif_f h c13
    refine zR_if_lt_f (tgt := 61) dX5_use_21 (by decide) c13 ?_
    refine zR_iload dX5_use_24 4 rfl ?_
    refine zR_aload_n dX5_use_26 0 rfl ?_
    refine zG_getR dX5_use_27 zf_X5_15 zd_9 rfl rfl ?_
    refine zG_alen (u := (76 : Int32)) dX5_use_30 zd_11 (Nat.le_of_ble_eq_true rfl) rfl rfl rfl ?_
    by_cases c14 : (76 : Int32) ≤ q11
    · have h := zif_t h c14
      refine zR_icmp_ge_t (tgt := 61) dX5_use_31 (by decide) c14 ?_
      refine zR_sub (lv' := [(0, .ref (w.1 + 9)), (1, .int x1), (2, .int x2), (3, .long q9), (6, .int (-1 : Int32))]) [0, 1, 2, 3, 5] rfl ?_
      exact wX5_use_b61 F V0 V1 V2 V3 V4 V5 V6 V7 x1 x2 q9 (-1 : Int32) _ h
    · have h := zif_f h c14
      refine zR_icmp_ge_f (tgt := 61) dX5_use_31 (by decide) c14 ?_
      refine zR_aload_n dX5_use_34 0 rfl ?_
      refine zG_getR dX5_use_35 zf_X5_15 zd_9 rfl rfl ?_
      refine zR_iload dX5_use_38 4 rfl ?_
      obtain ⟨g15, h⟩ := zchk_some h
      refine zG_iald dX5_use_40 zd_11 rfl rfl g15 ?_
      refine zR_iload_n dX5_use_41 2 rfl ?_
      by_cases c16 : (zA V3 2 (q11).toNatClampNeg) = x2
      · have h := zif_t h c16
        refine zR_icmp_ne_f (tgt := 55) dX5_use_42 (by decide) c16 ?_
        refine zR_aload_n dX5_use_45 0 rfl ?_
        refine zG_getR dX5_use_46 zf_X5_19 zd_9 rfl rfl ?_
        refine zR_iload dX5_use_49 4 rfl ?_
        obtain ⟨g17, h⟩ := zchk_some h
        refine zG_iald dX5_use_51 zd_12 rfl rfl g17 ?_
        refine zR_goto (tgt := 56) dX5_use_52 (by decide) ?_
        refine zR_sub (lv' := [(0, .ref (w.1 + 9)), (1, .int x1)]) [0, 1] rfl ?_
        exact wX5_use_b56 F V0 V1 V2 V3 V4 V5 V6 V7 x1 (zA V3 3 (q11).toNatClampNeg) _ h
      · have h := zif_f h c16
        refine zR_icmp_ne_t (tgt := 55) dX5_use_42 (by decide) c16 ?_
        refine zR_iconst (x := (-1 : Int32)) dX5_use_55 (by decide) ?_
        refine zR_sub (lv' := [(0, .ref (w.1 + 9)), (1, .int x1)]) [0, 1] rfl ?_
        exact wX5_use_b56 F V0 V1 V2 V3 V4 V5 V6 V7 x1 (-1 : Int32) _ h
set_option maxRecDepth 100000 in
set_option maxHeartbeats 4000000 in
theorem wX5_checkSecondName_b36 {w : zW} (F : Nat) (V0 V1 V2 V3 V4 V5 V6 V7 : zV) (x1 : Int32) (s1 : Int32) (s2 : Int32) (res : zV) (h : fX5_checkSecondName_b36 F V1 V3 x1 s1 s2 = some res) : zR w kX5_checkSecondName 2 0 0 none (zE zds w [V0, res, V2, V3, V4, V5, V6, V7]) 36 [(0, .ref (w.1 + 9)), (1, .int x1)] [.int s2, .int s1, .ref (w.1 + 9)] (zE zds w [V0, V1, V2, V3, V4, V5, V6, V7]) := by
  unfold fX5_checkSecondName_b36 at h
  obtain ⟨q1, hq2, h⟩ := zbd_some h
  refine zR_cV (rest := []) (st1 := []) dX5_checkSecondName_36 (mX5_use F V0 V1 V2 V3 V4 V5 V6 V7 s1 s2 _ hq2) zc_X5_67 rfl (zE_at zd_9) ⟨_, _, rfl⟩ rfl (Nat.le_of_ble_eq_true rfl) (Nat.le_of_ble_eq_true rfl) rfl ?_
  refine zR_aload_n dX5_checkSecondName_39 0 rfl ?_
  refine zG_getR dX5_checkSecondName_40 zf_X5_32 zd_9 rfl rfl ?_
  refine zR_iload_n dX5_checkSecondName_43 1 rfl ?_
  obtain ⟨q3, hq4, h⟩ := zbd_some h
  refine zR_cV (rest := []) (st1 := [.long q3]) dX5_checkSecondName_44 (mX10_valueAt F V0 q1 V2 V3 V4 V5 V6 V7 x1 _ hq4) zc_X5_56 rfl (zE_at zd_2) ⟨_, _, rfl⟩ rfl (Nat.le_of_ble_eq_true rfl) (Nat.le_of_ble_eq_true rfl) rfl ?_
  refine zR_aload_n dX5_checkSecondName_47 0 rfl ?_
  refine zG_getR dX5_checkSecondName_48 zf_X5_32 zd_9 rfl rfl ?_
  refine zR_iload_n dX5_checkSecondName_51 1 rfl ?_
  refine zR_iconst (x := (1 : Int32)) dX5_checkSecondName_52 rfl ?_
  refine zR_isub dX5_checkSecondName_53 ?_
  obtain ⟨q5, hq6, h⟩ := zbd_some h
  refine zR_cV (rest := [.long q3]) (st1 := [.long q5, .long q3]) dX5_checkSecondName_54 (mX10_valueAt F V0 q1 V2 V3 V4 V5 V6 V7 (x1 - (1 : Int32)) _ hq6) zc_X5_56 rfl (zE_at zd_2) ⟨_, _, rfl⟩ rfl (Nat.le_of_ble_eq_true rfl) (Nat.le_of_ble_eq_true rfl) rfl ?_
  refine zR_lcmp dX5_checkSecondName_57 ?_
  by_cases c7 : (lg_cmp q3 q5) = 0
  · have h := zif_t h c7
    refine zR_if_ne_f (tgt := 80) dX5_checkSecondName_58 (by decide) c7 ?_
    refine zR_aload_n dX5_checkSecondName_61 0 rfl ?_
    refine zG_getR dX5_checkSecondName_62 zf_X5_32 zd_9 rfl rfl ?_
    refine zR_iconst (x := (5 : Int32)) dX5_checkSecondName_65 rfl ?_
    refine zR_iload_n dX5_checkSecondName_66 1 rfl ?_
    obtain ⟨q8, hq9, h⟩ := zbd_some h
    refine zR_cV (rest := []) (st1 := []) dX5_checkSecondName_67 (mX10_blame F V0 q1 V2 V3 V4 V5 V6 V7 (5 : Int32) x1 _ hq9) zc_X5_60 rfl (zE_at zd_2) ⟨_, _, rfl⟩ rfl (Nat.le_of_ble_eq_true rfl) (Nat.le_of_ble_eq_true rfl) rfl ?_
    refine zR_goto (tgt := 80) dX5_checkSecondName_70 (by decide) ?_
    have h := Option.some.inj h
    subst h
    exact zR_ret dX5_checkSecondName_80 rfl
  · have h := zif_f h c7
    refine zR_if_ne_t (tgt := 80) dX5_checkSecondName_58 (by decide) c7 ?_
    have h := Option.some.inj h
    subst h
    exact zR_ret dX5_checkSecondName_80 rfl
set_option maxRecDepth 100000 in
set_option maxHeartbeats 4000000 in
theorem wX5_checkSecondName_b24 {w : zW} (F : Nat) (V0 V1 V2 V3 V4 V5 V6 V7 : zV) (x1 : Int32) (x2 : Int32) (res : zV) (h : fX5_checkSecondName_b24 F V1 V3 x1 x2 = some res) : zR w kX5_checkSecondName 2 0 0 none (zE zds w [V0, res, V2, V3, V4, V5, V6, V7]) 24 [(0, .ref (w.1 + 9)), (1, .int x1), (2, .int x2)] [] (zE zds w [V0, V1, V2, V3, V4, V5, V6, V7]) := by
  unfold fX5_checkSecondName_b24 at h
  refine zR_aload_n dX5_checkSecondName_24 0 rfl ?_
  refine zR_iload_n dX5_checkSecondName_25 1 rfl ?_
  refine zR_iload_n dX5_checkSecondName_26 2 rfl ?_
  refine zR_iconst (x := (2 : Int32)) dX5_checkSecondName_27 rfl ?_
  by_cases c10 : x2 = (2 : Int32)
  · have h := zif_t h c10
    refine zR_icmp_ne_f (tgt := 35) dX5_checkSecondName_28 (by decide) c10 ?_
    refine zR_iconst (x := (1 : Int32)) dX5_checkSecondName_31 rfl ?_
    refine zR_goto (tgt := 36) dX5_checkSecondName_32 (by decide) ?_
    refine zR_sub (lv' := [(0, .ref (w.1 + 9)), (1, .int x1)]) [0, 1] rfl ?_
    exact wX5_checkSecondName_b36 F V0 V1 V2 V3 V4 V5 V6 V7 x1 x1 (1 : Int32) _ h
  · have h := zif_f h c10
    refine zR_icmp_ne_t (tgt := 35) dX5_checkSecondName_28 (by decide) c10 ?_
    refine zR_iconst (x := (4 : Int32)) dX5_checkSecondName_35 rfl ?_
    refine zR_sub (lv' := [(0, .ref (w.1 + 9)), (1, .int x1)]) [0, 1] rfl ?_
    exact wX5_checkSecondName_b36 F V0 V1 V2 V3 V4 V5 V6 V7 x1 x1 (4 : Int32) _ h
set_option maxRecDepth 100000 in
set_option maxHeartbeats 4000000 in
theorem mX5_checkSecondName {w : zW} (F : Nat) (V0 V1 V2 V3 V4 V5 V6 V7 : zV) (x1 : Int32) (x2 : Int32) (res : zV) (h : fX5_checkSecondName F V1 V3 x1 x2 = some res) : zMet w kX5_checkSecondName 2 0 0 [.ref (w.1 + 9), .int x1, .int x2] (zE zds w [V0, V1, V2, V3, V4, V5, V6, V7]) none (zE zds w [V0, res, V2, V3, V4, V5, V6, V7]) := by
  refine zMet_of (by decide) (Nat.le_of_ble_eq_true rfl) (Nat.le_refl 0) fun _ => ?_
  show zR w kX5_checkSecondName 2 0 0 none (zE zds w [V0, res, V2, V3, V4, V5, V6, V7]) 0 [(0, .ref (w.1 + 9)), (1, .int x1), (2, .int x2)] [] (zE zds w [V0, V1, V2, V3, V4, V5, V6, V7])
  unfold fX5_checkSecondName at h
  refine zR_iload_n dX5_checkSecondName_0 2 rfl ?_
  refine zR_iconst (x := (3 : Int32)) dX5_checkSecondName_1 rfl ?_
  by_cases c11 : x2 = (3 : Int32)
  · have h := zif_t h c11
    refine zR_icmp_ne_f (tgt := 14) dX5_checkSecondName_2 (by decide) c11 ?_
    refine zR_aload_n dX5_checkSecondName_5 0 rfl ?_
    refine zR_iload_n dX5_checkSecondName_6 1 rfl ?_
    refine zR_iconst (x := (0 : Int32)) dX5_checkSecondName_7 rfl ?_
    obtain ⟨q16, hq17, h⟩ := zbd_some h
    refine zR_cV (rest := []) (st1 := []) dX5_checkSecondName_8 (mX5_use F V0 V1 V2 V3 V4 V5 V6 V7 x1 (0 : Int32) _ hq17) zc_X5_67 rfl (zE_at zd_9) ⟨_, _, rfl⟩ rfl (Nat.le_of_ble_eq_true rfl) (Nat.le_of_ble_eq_true rfl) rfl ?_
    refine zR_goto (tgt := 80) dX5_checkSecondName_11 (by decide) ?_
    have h := Option.some.inj h
    subst h
    exact zR_ret dX5_checkSecondName_80 rfl
  · have h := zif_f h c11
    refine zR_icmp_ne_t (tgt := 14) dX5_checkSecondName_2 (by decide) c11 ?_
    refine zR_iload_n dX5_checkSecondName_14 2 rfl ?_
    refine zR_iconst (x := (2 : Int32)) dX5_checkSecondName_15 rfl ?_
    by_cases c12 : x2 = (2 : Int32)
    · have h := zif_t h c12
      refine zR_icmp_eq_t (tgt := 24) dX5_checkSecondName_16 (by decide) c12 ?_
      exact wX5_checkSecondName_b24 F V0 V1 V2 V3 V4 V5 V6 V7 x1 x2 _ h
    · have h := zif_f h c12
      refine zR_icmp_eq_f (tgt := 24) dX5_checkSecondName_16 (by decide) c12 ?_
      refine zR_iload_n dX5_checkSecondName_19 2 rfl ?_
      refine zR_iconst (x := (5 : Int32)) dX5_checkSecondName_20 rfl ?_
      by_cases c13 : x2 = (5 : Int32)
      · have h := zif_t h c13
        refine zR_icmp_ne_f (tgt := 73) dX5_checkSecondName_21 (by decide) c13 ?_
        exact wX5_checkSecondName_b24 F V0 V1 V2 V3 V4 V5 V6 V7 x1 x2 _ h
      · have h := zif_f h c13
        refine zR_icmp_ne_t (tgt := 73) dX5_checkSecondName_21 (by decide) c13 ?_
        refine zR_aload_n dX5_checkSecondName_73 0 rfl ?_
        refine zR_iload_n dX5_checkSecondName_74 1 rfl ?_
        refine zR_bipush (x := (6 : Int32)) dX5_checkSecondName_75 rfl ?_
        obtain ⟨q14, hq15, h⟩ := zbd_some h
        refine zR_cV (rest := []) (st1 := []) dX5_checkSecondName_77 (mX5_use F V0 V1 V2 V3 V4 V5 V6 V7 x1 (6 : Int32) _ hq15) zc_X5_67 rfl (zE_at zd_9) ⟨_, _, rfl⟩ rfl (Nat.le_of_ble_eq_true rfl) (Nat.le_of_ble_eq_true rfl) rfl ?_
        have h := Option.some.inj h
        subst h
        exact zR_ret dX5_checkSecondName_80 rfl
set_option maxRecDepth 100000 in
set_option maxHeartbeats 4000000 in
theorem wX5_checkName_b203 {w : zW} (F : Nat) (V0 V1 V2 V3 V4 V5 V6 V7 : zV) (x1 : Int32) (res : zV × zV) (h : fX5_checkName_b203 F V1 V3 x1 = some res) : zR w kX5_checkName 3 0 0 none (zE zds w [V0, res.1, V2, res.2, V4, V5, V6, V7]) 203 [(0, .ref (w.1 + 9)), (1, .int x1)] [] (zE zds w [V0, V1, V2, V3, V4, V5, V6, V7]) := by
  unfold fX5_checkName_b203 at h
  refine zR_aload_n dX5_checkName_203 0 rfl ?_
  refine zR_iload_n dX5_checkName_204 1 rfl ?_
  refine zR_bipush (x := (6 : Int32)) dX5_checkName_205 rfl ?_
  obtain ⟨q1, hq2, h⟩ := zbd_some h
  refine zR_cV (rest := []) (st1 := []) dX5_checkName_207 (mX5_use F V0 V1 V2 V3 V4 V5 V6 V7 x1 (6 : Int32) _ hq2) zc_X5_67 rfl (zE_at zd_9) ⟨_, _, rfl⟩ rfl (Nat.le_of_ble_eq_true rfl) (Nat.le_of_ble_eq_true rfl) rfl ?_
  have h := Option.some.inj h
  subst h
  exact zR_ret dX5_checkName_210 rfl
set_option maxRecDepth 100000 in
set_option maxHeartbeats 4000000 in
theorem wX5_checkName_b175 {w : zW} (F : Nat) (V0 V1 V2 V3 V4 V5 V6 V7 : zV) (x1 : Int32) (res : zV × zV) (h : fX5_checkName_b175 F V1 V3 x1 = some res) : zR w kX5_checkName 3 0 0 none (zE zds w [V0, res.1, V2, res.2, V4, V5, V6, V7]) 175 [(0, .ref (w.1 + 9)), (1, .int x1)] [] (zE zds w [V0, V1, V2, V3, V4, V5, V6, V7]) := by
  unfold fX5_checkName_b175 at h
  refine zR_aload_n dX5_checkName_175 0 rfl ?_
  refine zR_iload_n dX5_checkName_176 1 rfl ?_
  refine zR_iconst (x := (0 : Int32)) dX5_checkName_177 rfl ?_
  obtain ⟨q3, hq4, h⟩ := zbd_some h
  refine zR_cV (rest := []) (st1 := []) dX5_checkName_178 (mX5_use F V0 V1 V2 V3 V4 V5 V6 V7 x1 (0 : Int32) _ hq4) zc_X5_67 rfl (zE_at zd_9) ⟨_, _, rfl⟩ rfl (Nat.le_of_ble_eq_true rfl) (Nat.le_of_ble_eq_true rfl) rfl ?_
  refine zR_goto (tgt := 210) dX5_checkName_181 (by decide) ?_
  have h := Option.some.inj h
  subst h
  exact zR_ret dX5_checkName_210 rfl
set_option maxRecDepth 100000 in
set_option maxHeartbeats 4000000 in
theorem wX5_checkName_b157 {w : zW} (F : Nat) (V0 V1 V2 V3 V4 V5 V6 V7 : zV) (x1 : Int32) (res : zV × zV) (h : fX5_checkName_b157 F V1 V3 x1 = some res) : zR w kX5_checkName 3 0 0 none (zE zds w [V0, res.1, V2, res.2, V4, V5, V6, V7]) 157 [(0, .ref (w.1 + 9)), (1, .int x1)] [] (zE zds w [V0, V1, V2, V3, V4, V5, V6, V7]) := by
  unfold fX5_checkName_b157 at h
  refine zR_aload_n dX5_checkName_157 0 rfl ?_
  refine zR_iload_n dX5_checkName_158 1 rfl ?_
  refine zR_iconst (x := (1 : Int32)) dX5_checkName_159 rfl ?_
  obtain ⟨q5, hq6, h⟩ := zbd_some h
  refine zR_cV (rest := []) (st1 := []) dX5_checkName_160 (mX5_use F V0 V1 V2 V3 V4 V5 V6 V7 x1 (1 : Int32) _ hq6) zc_X5_67 rfl (zE_at zd_9) ⟨_, _, rfl⟩ rfl (Nat.le_of_ble_eq_true rfl) (Nat.le_of_ble_eq_true rfl) rfl ?_
  refine zR_goto (tgt := 210) dX5_checkName_163 (by decide) ?_
  have h := Option.some.inj h
  subst h
  exact zR_ret dX5_checkName_210 rfl
set_option maxRecDepth 100000 in
set_option maxHeartbeats 4000000 in
theorem wX5_checkName_b148 {w : zW} (F : Nat) (V0 V1 V2 V3 V4 V5 V6 V7 : zV) (x1 : Int32) (x2 : Int32) (res : zV × zV) (h : fX5_checkName_b148 F V1 V3 x1 x2 = some res) : zR w kX5_checkName 3 0 0 none (zE zds w [V0, res.1, V2, res.2, V4, V5, V6, V7]) 148 [(0, .ref (w.1 + 9)), (1, .int x1), (2, .int x2)] [] (zE zds w [V0, V1, V2, V3, V4, V5, V6, V7]) := by
  unfold fX5_checkName_b148 at h
  refine zR_aload_n dX5_checkName_148 0 rfl ?_
  refine zR_iload_n dX5_checkName_149 1 rfl ?_
  refine zR_iload_n dX5_checkName_150 2 rfl ?_
  obtain ⟨q7, hq8, h⟩ := zbd_some h
  refine zR_cV (rest := []) (st1 := []) dX5_checkName_151 (mX5_tell F V0 V1 V2 V3 V4 V5 V6 V7 x1 x2 _ hq8) zc_X5_64 rfl (zE_at zd_9) ⟨_, _, rfl⟩ rfl (Nat.le_of_ble_eq_true rfl) (Nat.le_of_ble_eq_true rfl) rfl ?_
  refine zR_goto (tgt := 210) dX5_checkName_154 (by decide) ?_
  have h := Option.some.inj h
  subst h
  exact zR_ret dX5_checkName_210 rfl
set_option maxRecDepth 100000 in
set_option maxHeartbeats 4000000 in
theorem mX5_checkName {w : zW} (F : Nat) (V0 V1 V2 V3 V4 V5 V6 V7 : zV) (x1 : Int32) (res : zV × zV) (h : fX5_checkName F V1 V3 x1 = some res) : zMet w kX5_checkName 3 0 0 [.ref (w.1 + 9), .int x1] (zE zds w [V0, V1, V2, V3, V4, V5, V6, V7]) none (zE zds w [V0, res.1, V2, res.2, V4, V5, V6, V7]) := by
  refine zMet_of (by decide) (Nat.le_of_ble_eq_true rfl) (Nat.le_refl 0) fun _ => ?_
  show zR w kX5_checkName 3 0 0 none (zE zds w [V0, res.1, V2, res.2, V4, V5, V6, V7]) 0 [(0, .ref (w.1 + 9)), (1, .int x1)] [] (zE zds w [V0, V1, V2, V3, V4, V5, V6, V7])
  unfold fX5_checkName at h
  refine zR_aload_n dX5_checkName_0 0 rfl ?_
  refine zG_getR dX5_checkName_1 zf_X5_32 zd_9 rfl rfl ?_
  refine zR_iload_n dX5_checkName_4 1 rfl ?_
  refine zR_iconst (x := (1 : Int32)) dX5_checkName_5 rfl ?_
  refine zR_isub dX5_checkName_6 ?_
  obtain ⟨q9, hq10, h⟩ := zbd_some h
  refine zR_cV (rest := []) (st1 := [.int q9]) dX5_checkName_7 (mX10_kindAt F V0 V1 V2 V3 V4 V5 V6 V7 (x1 - (1 : Int32)) _ hq10) zc_X5_48 rfl (zE_at zd_2) ⟨_, _, rfl⟩ rfl (Nat.le_of_ble_eq_true rfl) (Nat.le_of_ble_eq_true rfl) rfl ?_
  refine zR_istore_n (lv' := [(0, .ref (w.1 + 9)), (1, .int x1), (2, .int q9)]) dX5_checkName_10 (Nat.le_of_ble_eq_true rfl) rfl ?_
  refine zR_aload_n dX5_checkName_11 0 rfl ?_
  refine zG_getR dX5_checkName_12 zf_X5_32 zd_9 rfl rfl ?_
  refine zR_iload_n dX5_checkName_15 1 rfl ?_
  refine zR_iconst (x := (2 : Int32)) dX5_checkName_16 rfl ?_
  refine zR_isub dX5_checkName_17 ?_
  obtain ⟨q11, hq12, h⟩ := zbd_some h
  refine zR_cV (rest := []) (st1 := [.int q11]) dX5_checkName_18 (mX10_kindAt F V0 V1 V2 V3 V4 V5 V6 V7 (x1 - (2 : Int32)) _ hq12) zc_X5_48 rfl (zE_at zd_2) ⟨_, _, rfl⟩ rfl (Nat.le_of_ble_eq_true rfl) (Nat.le_of_ble_eq_true rfl) rfl ?_
  refine zR_istore_n (lv' := [(0, .ref (w.1 + 9)), (1, .int x1), (2, .int q9), (3, .int q11)]) dX5_checkName_21 (Nat.le_of_ble_eq_true rfl) rfl ?_
  refine zR_iload_n dX5_checkName_22 2 rfl ?_
  by_cases c13 : q9 = (0 : Int32)
  · have h := zif_t h c13
    refine zR_tabc (tgt := 148) dX5_checkName_23 c13 rfl (by decide) ?_
    refine zR_sub (lv' := [(0, .ref (w.1 + 9)), (1, .int x1), (2, .int q9)]) [0, 1, 2] rfl ?_
    exact wX5_checkName_b148 F V0 V1 V2 V3 V4 V5 V6 V7 x1 q9 _ h
  · have h := zif_f h c13
    by_cases c14 : q9 = (1 : Int32)
    · have h := zif_t h c14
      refine zR_tabc (tgt := 148) dX5_checkName_23 c14 rfl (by decide) ?_
      refine zR_sub (lv' := [(0, .ref (w.1 + 9)), (1, .int x1), (2, .int q9)]) [0, 1, 2] rfl ?_
      exact wX5_checkName_b148 F V0 V1 V2 V3 V4 V5 V6 V7 x1 q9 _ h
    · have h := zif_f h c14
      by_cases c15 : q9 = (2 : Int32)
      · have h := zif_t h c15
        refine zR_tabc (tgt := 157) dX5_checkName_23 c15 rfl (by decide) ?_
        refine zR_sub (lv' := [(0, .ref (w.1 + 9)), (1, .int x1)]) [0, 1] rfl ?_
        exact wX5_checkName_b157 F V0 V1 V2 V3 V4 V5 V6 V7 x1 _ h
      · have h := zif_f h c15
        by_cases c16 : q9 = (3 : Int32)
        · have h := zif_t h c16
          refine zR_tabc (tgt := 148) dX5_checkName_23 c16 rfl (by decide) ?_
          refine zR_sub (lv' := [(0, .ref (w.1 + 9)), (1, .int x1), (2, .int q9)]) [0, 1, 2] rfl ?_
          exact wX5_checkName_b148 F V0 V1 V2 V3 V4 V5 V6 V7 x1 q9 _ h
        · have h := zif_f h c16
          by_cases c17 : q9 = (4 : Int32)
          · have h := zif_t h c17
            refine zR_tabc (tgt := 148) dX5_checkName_23 c17 rfl (by decide) ?_
            refine zR_sub (lv' := [(0, .ref (w.1 + 9)), (1, .int x1), (2, .int q9)]) [0, 1, 2] rfl ?_
            exact wX5_checkName_b148 F V0 V1 V2 V3 V4 V5 V6 V7 x1 q9 _ h
          · have h := zif_f h c17
            by_cases c18 : q9 = (5 : Int32)
            · have h := zif_t h c18
              refine zR_tabc (tgt := 166) dX5_checkName_23 c18 rfl (by decide) ?_
              refine zR_aload_n dX5_checkName_166 0 rfl ?_
              refine zR_iload_n dX5_checkName_167 1 rfl ?_
              refine zR_iconst (x := (4 : Int32)) dX5_checkName_168 rfl ?_
              obtain ⟨q19, hq20, h⟩ := zbd_some h
              refine zR_cV (rest := []) (st1 := []) dX5_checkName_169 (mX5_use F V0 V1 V2 V3 V4 V5 V6 V7 x1 (4 : Int32) _ hq20) zc_X5_67 rfl (zE_at zd_9) ⟨_, _, rfl⟩ rfl (Nat.le_of_ble_eq_true rfl) (Nat.le_of_ble_eq_true rfl) rfl ?_
              refine zR_goto (tgt := 210) dX5_checkName_172 (by decide) ?_
              have h := Option.some.inj h
              subst h
              exact zR_ret dX5_checkName_210 rfl
            · have h := zif_f h c18
              by_cases c21 : q9 = (6 : Int32)
              · have h := zif_t h c21
                refine zR_tabc (tgt := 148) dX5_checkName_23 c21 rfl (by decide) ?_
                refine zR_sub (lv' := [(0, .ref (w.1 + 9)), (1, .int x1), (2, .int q9)]) [0, 1, 2] rfl ?_
                exact wX5_checkName_b148 F V0 V1 V2 V3 V4 V5 V6 V7 x1 q9 _ h
              · have h := zif_f h c21
                by_cases c22 : q9 = (7 : Int32)
                · have h := zif_t h c22
                  refine zR_tabc (tgt := 148) dX5_checkName_23 c22 rfl (by decide) ?_
                  refine zR_sub (lv' := [(0, .ref (w.1 + 9)), (1, .int x1), (2, .int q9)]) [0, 1, 2] rfl ?_
                  exact wX5_checkName_b148 F V0 V1 V2 V3 V4 V5 V6 V7 x1 q9 _ h
                · have h := zif_f h c22
                  by_cases c23 : q9 = (8 : Int32)
                  · have h := zif_t h c23
                    refine zR_tabc (tgt := 175) dX5_checkName_23 c23 rfl (by decide) ?_
                    refine zR_sub (lv' := [(0, .ref (w.1 + 9)), (1, .int x1)]) [0, 1] rfl ?_
                    exact wX5_checkName_b175 F V0 V1 V2 V3 V4 V5 V6 V7 x1 _ h
                  · have h := zif_f h c23
                    by_cases c24 : q9 = (9 : Int32)
                    · have h := zif_t h c24
                      refine zR_tabc (tgt := 203) dX5_checkName_23 c24 rfl (by decide) ?_
                      refine zR_sub (lv' := [(0, .ref (w.1 + 9)), (1, .int x1)]) [0, 1] rfl ?_
                      exact wX5_checkName_b203 F V0 V1 V2 V3 V4 V5 V6 V7 x1 _ h
                    · have h := zif_f h c24
                      by_cases c25 : q9 = (10 : Int32)
                      · have h := zif_t h c25
                        refine zR_tabc (tgt := 203) dX5_checkName_23 c25 rfl (by decide) ?_
                        refine zR_sub (lv' := [(0, .ref (w.1 + 9)), (1, .int x1)]) [0, 1] rfl ?_
                        exact wX5_checkName_b203 F V0 V1 V2 V3 V4 V5 V6 V7 x1 _ h
                      · have h := zif_f h c25
                        by_cases c26 : q9 = (11 : Int32)
                        · have h := zif_t h c26
                          refine zR_tabc (tgt := 175) dX5_checkName_23 c26 rfl (by decide) ?_
                          refine zR_sub (lv' := [(0, .ref (w.1 + 9)), (1, .int x1)]) [0, 1] rfl ?_
                          exact wX5_checkName_b175 F V0 V1 V2 V3 V4 V5 V6 V7 x1 _ h
                        · have h := zif_f h c26
                          by_cases c27 : q9 = (12 : Int32)
                          · have h := zif_t h c27
                            refine zR_tabc (tgt := 203) dX5_checkName_23 c27 rfl (by decide) ?_
                            refine zR_sub (lv' := [(0, .ref (w.1 + 9)), (1, .int x1)]) [0, 1] rfl ?_
                            exact wX5_checkName_b203 F V0 V1 V2 V3 V4 V5 V6 V7 x1 _ h
                          · have h := zif_f h c27
                            by_cases c28 : q9 = (13 : Int32)
                            · have h := zif_t h c28
                              refine zR_tabc (tgt := 203) dX5_checkName_23 c28 rfl (by decide) ?_
                              refine zR_sub (lv' := [(0, .ref (w.1 + 9)), (1, .int x1)]) [0, 1] rfl ?_
                              exact wX5_checkName_b203 F V0 V1 V2 V3 V4 V5 V6 V7 x1 _ h
                            · have h := zif_f h c28
                              by_cases c29 : q9 = (14 : Int32)
                              · have h := zif_t h c29
                                refine zR_tabc (tgt := 203) dX5_checkName_23 c29 rfl (by decide) ?_
                                refine zR_sub (lv' := [(0, .ref (w.1 + 9)), (1, .int x1)]) [0, 1] rfl ?_
                                exact wX5_checkName_b203 F V0 V1 V2 V3 V4 V5 V6 V7 x1 _ h
                              · have h := zif_f h c29
                                by_cases c30 : q9 = (15 : Int32)
                                · have h := zif_t h c30
                                  refine zR_tabc (tgt := 203) dX5_checkName_23 c30 rfl (by decide) ?_
                                  refine zR_sub (lv' := [(0, .ref (w.1 + 9)), (1, .int x1)]) [0, 1] rfl ?_
                                  exact wX5_checkName_b203 F V0 V1 V2 V3 V4 V5 V6 V7 x1 _ h
                                · have h := zif_f h c30
                                  by_cases c31 : q9 = (16 : Int32)
                                  · have h := zif_t h c31
                                    refine zR_tabc (tgt := 203) dX5_checkName_23 c31 rfl (by decide) ?_
                                    refine zR_sub (lv' := [(0, .ref (w.1 + 9)), (1, .int x1)]) [0, 1] rfl ?_
                                    exact wX5_checkName_b203 F V0 V1 V2 V3 V4 V5 V6 V7 x1 _ h
                                  · have h := zif_f h c31
                                    by_cases c32 : q9 = (17 : Int32)
                                    · have h := zif_t h c32
                                      refine zR_tabc (tgt := 203) dX5_checkName_23 c32 rfl (by decide) ?_
                                      refine zR_sub (lv' := [(0, .ref (w.1 + 9)), (1, .int x1)]) [0, 1] rfl ?_
                                      exact wX5_checkName_b203 F V0 V1 V2 V3 V4 V5 V6 V7 x1 _ h
                                    · have h := zif_f h c32
                                      by_cases c33 : q9 = (18 : Int32)
                                      · have h := zif_t h c33
                                        refine zR_tabc (tgt := 184) dX5_checkName_23 c33 rfl (by decide) ?_
                                        refine zR_aload_n dX5_checkName_184 0 rfl ?_
                                        refine zR_iload_n dX5_checkName_185 1 rfl ?_
                                        refine zR_bipush (x := (7 : Int32)) dX5_checkName_186 rfl ?_
                                        obtain ⟨q34, hq35, h⟩ := zbd_some h
                                        refine zR_cV (rest := []) (st1 := []) dX5_checkName_188 (mX5_use F V0 V1 V2 V3 V4 V5 V6 V7 x1 (7 : Int32) _ hq35) zc_X5_67 rfl (zE_at zd_9) ⟨_, _, rfl⟩ rfl (Nat.le_of_ble_eq_true rfl) (Nat.le_of_ble_eq_true rfl) rfl ?_
                                        refine zR_goto (tgt := 210) dX5_checkName_191 (by decide) ?_
                                        have h := Option.some.inj h
                                        subst h
                                        exact zR_ret dX5_checkName_210 rfl
                                      · have h := zif_f h c33
                                        by_cases c36 : q9 = (19 : Int32)
                                        · have h := zif_t h c36
                                          refine zR_tabc (tgt := 203) dX5_checkName_23 c36 rfl (by decide) ?_
                                          refine zR_sub (lv' := [(0, .ref (w.1 + 9)), (1, .int x1)]) [0, 1] rfl ?_
                                          exact wX5_checkName_b203 F V0 V1 V2 V3 V4 V5 V6 V7 x1 _ h
                                        · have h := zif_f h c36
                                          by_cases c37 : q9 = (20 : Int32)
                                          · have h := zif_t h c37
                                            refine zR_tabc (tgt := 157) dX5_checkName_23 c37 rfl (by decide) ?_
                                            refine zR_sub (lv' := [(0, .ref (w.1 + 9)), (1, .int x1)]) [0, 1] rfl ?_
                                            exact wX5_checkName_b157 F V0 V1 V2 V3 V4 V5 V6 V7 x1 _ h
                                          · have h := zif_f h c37
                                            by_cases c38 : q9 = (21 : Int32)
                                            · have h := zif_t h c38
                                              refine zR_tabc (tgt := 203) dX5_checkName_23 c38 rfl (by decide) ?_
                                              refine zR_sub (lv' := [(0, .ref (w.1 + 9)), (1, .int x1)]) [0, 1] rfl ?_
                                              exact wX5_checkName_b203 F V0 V1 V2 V3 V4 V5 V6 V7 x1 _ h
                                            · have h := zif_f h c38
                                              by_cases c39 : q9 = (22 : Int32)
                                              · have h := zif_t h c39
                                                refine zR_tabc (tgt := 203) dX5_checkName_23 c39 rfl (by decide) ?_
                                                refine zR_sub (lv' := [(0, .ref (w.1 + 9)), (1, .int x1)]) [0, 1] rfl ?_
                                                exact wX5_checkName_b203 F V0 V1 V2 V3 V4 V5 V6 V7 x1 _ h
                                              · have h := zif_f h c39
                                                by_cases c40 : q9 = (23 : Int32)
                                                · have h := zif_t h c40
                                                  refine zR_tabc (tgt := 203) dX5_checkName_23 c40 rfl (by decide) ?_
                                                  refine zR_sub (lv' := [(0, .ref (w.1 + 9)), (1, .int x1)]) [0, 1] rfl ?_
                                                  exact wX5_checkName_b203 F V0 V1 V2 V3 V4 V5 V6 V7 x1 _ h
                                                · have h := zif_f h c40
                                                  by_cases c41 : q9 = (24 : Int32)
                                                  · have h := zif_t h c41
                                                    refine zR_tabc (tgt := 203) dX5_checkName_23 c41 rfl (by decide) ?_
                                                    refine zR_sub (lv' := [(0, .ref (w.1 + 9)), (1, .int x1)]) [0, 1] rfl ?_
                                                    exact wX5_checkName_b203 F V0 V1 V2 V3 V4 V5 V6 V7 x1 _ h
                                                  · have h := zif_f h c41
                                                    by_cases c42 : q9 = (25 : Int32)
                                                    · have h := zif_t h c42
                                                      refine zR_tabc (tgt := 203) dX5_checkName_23 c42 rfl (by decide) ?_
                                                      refine zR_sub (lv' := [(0, .ref (w.1 + 9)), (1, .int x1)]) [0, 1] rfl ?_
                                                      exact wX5_checkName_b203 F V0 V1 V2 V3 V4 V5 V6 V7 x1 _ h
                                                    · have h := zif_f h c42
                                                      by_cases c43 : q9 = (26 : Int32)
                                                      · have h := zif_t h c43
                                                        refine zR_tabc (tgt := 203) dX5_checkName_23 c43 rfl (by decide) ?_
                                                        refine zR_sub (lv' := [(0, .ref (w.1 + 9)), (1, .int x1)]) [0, 1] rfl ?_
                                                        exact wX5_checkName_b203 F V0 V1 V2 V3 V4 V5 V6 V7 x1 _ h
                                                      · have h := zif_f h c43
                                                        by_cases c44 : q9 = (27 : Int32)
                                                        · have h := zif_t h c44
                                                          refine zR_tabc (tgt := 194) dX5_checkName_23 c44 rfl (by decide) ?_
                                                          refine zR_aload_n dX5_checkName_194 0 rfl ?_
                                                          refine zR_iload_n dX5_checkName_195 1 rfl ?_
                                                          refine zR_iload_n dX5_checkName_196 3 rfl ?_
                                                          obtain ⟨q45, hq46, h⟩ := zbd_some h
                                                          refine zR_cV (rest := []) (st1 := []) dX5_checkName_197 (mX5_checkSecondName F V0 V1 V2 V3 V4 V5 V6 V7 x1 q11 _ hq46) zc_X5_70 rfl (zE_at zd_9) ⟨_, _, rfl⟩ rfl (Nat.le_of_ble_eq_true rfl) (Nat.le_of_ble_eq_true rfl) rfl ?_
                                                          refine zR_goto (tgt := 210) dX5_checkName_200 (by decide) ?_
                                                          have h := Option.some.inj h
                                                          subst h
                                                          exact zR_ret dX5_checkName_210 rfl
                                                        · have h := zif_f h c44
                                                          refine zR_tabO (tgt := 203) dX5_checkName_23 (by have u0 := zne c13 (n := 0) rfl; have u1 := zne c14 (n := 1) rfl; have u2 := zne c15 (n := 2) rfl; have u3 := zne c16 (n := 3) rfl; have u4 := zne c17 (n := 4) rfl; have u5 := zne c18 (n := 5) rfl; have u6 := zne c21 (n := 6) rfl; have u7 := zne c22 (n := 7) rfl; have u8 := zne c23 (n := 8) rfl; have u9 := zne c24 (n := 9) rfl; have u10 := zne c25 (n := 10) rfl; have u11 := zne c26 (n := 11) rfl; have u12 := zne c27 (n := 12) rfl; have u13 := zne c28 (n := 13) rfl; have u14 := zne c29 (n := 14) rfl; have u15 := zne c30 (n := 15) rfl; have u16 := zne c31 (n := 16) rfl; have u17 := zne c32 (n := 17) rfl; have u18 := zne c33 (n := 18) rfl; have u19 := zne c36 (n := 19) rfl; have u20 := zne c37 (n := 20) rfl; have u21 := zne c38 (n := 21) rfl; have u22 := zne c39 (n := 22) rfl; have u23 := zne c40 (n := 23) rfl; have u24 := zne c41 (n := 24) rfl; have u25 := zne c42 (n := 25) rfl; have u26 := zne c43 (n := 26) rfl; have u27 := zne c44 (n := 27) rfl; omega) (by decide) ?_
                                                          refine zR_sub (lv' := [(0, .ref (w.1 + 9)), (1, .int x1)]) [0, 1] rfl ?_
                                                          exact wX5_checkName_b203 F V0 V1 V2 V3 V4 V5 V6 V7 x1 _ h
set_option maxRecDepth 100000 in
set_option maxHeartbeats 4000000 in
theorem wX5_check_b127 {w : zW} (F : Nat) (k35 : zV → zV → Int32 → Option (zV × zV)) (hk35 : ∀ (V0 V1 V2 V3 V4 V5 V6 V7 : zV) (x1 : Int32) (res : zV × zV), k35 V1 V3 x1 = some res → zR w kX5_check 4 0 0 none (zE zds w [V0, res.1, V2, res.2, V4, V5, V6, V7]) 35 [(0, .ref (w.1 + 9)), (1, .int x1)] [] (zE zds w [V0, V1, V2, V3, V4, V5, V6, V7])) (V0 V1 V2 V3 V4 V5 V6 V7 : zV) (x1 : Int32) (res : zV × zV) (h : fX5_check_b127 F k35 V1 V3 x1 = some res) : zR w kX5_check 4 0 0 none (zE zds w [V0, res.1, V2, res.2, V4, V5, V6, V7]) 127 [(0, .ref (w.1 + 9)), (1, .int x1)] [] (zE zds w [V0, V1, V2, V3, V4, V5, V6, V7]) := by
  unfold fX5_check_b127 at h
  refine zR_iinc (u := (x1 + 1)) (lv' := [(0, .ref (w.1 + 9)), (1, .int (x1 + 1))]) dX5_check_127 1 rfl rfl (Nat.le_of_ble_eq_true rfl) rfl ?_
  refine zR_goto (tgt := 35) dX5_check_130 (by decide) ?_
  exact hk35 V0 V1 V2 V3 V4 V5 V6 V7 (x1 + 1) _ h
set_option maxRecDepth 100000 in
set_option maxHeartbeats 4000000 in
theorem wX5_check_l35 {w : zW} (F : Nat) : ∀ (n : Nat) (V0 V1 V2 V3 V4 V5 V6 V7 : zV) (x1 : Int32) (res : zV × zV), fX5_check_l35 F n V1 V3 x1 = some res → zR w kX5_check 4 0 0 none (zE zds w [V0, res.1, V2, res.2, V4, V5, V6, V7]) 35 [(0, .ref (w.1 + 9)), (1, .int x1)] [] (zE zds w [V0, V1, V2, V3, V4, V5, V6, V7]) := by
  intro n
  induction n with
  | zero =>
    intro V0 V1 V2 V3 V4 V5 V6 V7 x1 res h
    simp [fX5_check_l35] at h
  | succ n ih =>
    intro V0 V1 V2 V3 V4 V5 V6 V7 x1 res h
    rw [fX5_check_l35] at h
    refine zR_iload_n dX5_check_35 1 rfl ?_
    refine zR_aload_n dX5_check_36 0 rfl ?_
    refine zG_getR dX5_check_37 zf_X5_32 zd_9 rfl rfl ?_
    obtain ⟨q1, hq2, h⟩ := zbd_some h
    refine zR_cV (rest := [.int x1]) (st1 := [.int q1, .int x1]) dX5_check_40 (mX10_size F V0 V1 V2 V3 V4 V5 V6 V7 _ hq2) zc_X5_39 rfl (zE_at zd_2) ⟨_, _, rfl⟩ rfl (Nat.le_of_ble_eq_true rfl) (Nat.le_of_ble_eq_true rfl) rfl ?_
    by_cases c3 : q1 ≤ x1
    · have h := zif_t h c3
      refine zR_icmp_ge_t (tgt := 133) dX5_check_43 (by decide) c3 ?_
      have h := Option.some.inj h
      subst h
      exact zR_ret dX5_check_133 rfl
    · have h := zif_f h c3
      refine zR_icmp_ge_f (tgt := 133) dX5_check_43 (by decide) c3 ?_
      refine zR_aload_n dX5_check_46 0 rfl ?_
      refine zG_getR dX5_check_47 zf_X5_32 zd_9 rfl rfl ?_
      refine zG_getI dX5_check_50 zf_X5_45 zd_2 rfl rfl ?_
      by_cases c4 : (zI V1 0 5) = 0
      · have h := zif_t h c4
        refine zR_if_ne_f (tgt := 133) dX5_check_53 (by decide) c4 ?_
        refine zR_aload_n dX5_check_56 0 rfl ?_
        refine zG_getR dX5_check_57 zf_X5_32 zd_9 rfl rfl ?_
        refine zR_iload_n dX5_check_60 1 rfl ?_
        obtain ⟨q5, hq6, h⟩ := zbd_some h
        refine zR_cV (rest := []) (st1 := [.int q5]) dX5_check_61 (mX10_kindAt F V0 V1 V2 V3 V4 V5 V6 V7 x1 _ hq6) zc_X5_48 rfl (zE_at zd_2) ⟨_, _, rfl⟩ rfl (Nat.le_of_ble_eq_true rfl) (Nat.le_of_ble_eq_true rfl) rfl ?_
        refine zR_bipush (x := (27 : Int32)) dX5_check_64 rfl ?_
        by_cases c7 : q5 = (27 : Int32)
        · have h := zif_t h c7
          refine zR_icmp_ne_f (tgt := 77) dX5_check_66 (by decide) c7 ?_
          refine zR_aload_n dX5_check_69 0 rfl ?_
          refine zR_iload_n dX5_check_70 1 rfl ?_
          obtain ⟨q19, hq20, h⟩ := zbd_some h
          refine zR_cV (rest := []) (st1 := []) dX5_check_71 (mX5_checkName F V0 V1 V2 V3 V4 V5 V6 V7 x1 _ hq20) zc_X5_52 rfl (zE_at zd_9) ⟨_, _, rfl⟩ rfl (Nat.le_of_ble_eq_true rfl) (Nat.le_of_ble_eq_true rfl) rfl ?_
          refine zR_goto (tgt := 127) dX5_check_74 (by decide) ?_
          exact wX5_check_b127 F (fX5_check_l35 F n) ih V0 q19.1 V2 q19.2 V4 V5 V6 V7 x1 _ h
        · have h := zif_f h c7
          refine zR_icmp_ne_t (tgt := 77) dX5_check_66 (by decide) c7 ?_
          refine zR_aload_n dX5_check_77 0 rfl ?_
          refine zG_getR dX5_check_78 zf_X5_32 zd_9 rfl rfl ?_
          refine zR_iload_n dX5_check_81 1 rfl ?_
          obtain ⟨q8, hq9, h⟩ := zbd_some h
          refine zR_cV (rest := []) (st1 := [.int q8]) dX5_check_82 (mX10_kindAt F V0 V1 V2 V3 V4 V5 V6 V7 x1 _ hq9) zc_X5_48 rfl (zE_at zd_2) ⟨_, _, rfl⟩ rfl (Nat.le_of_ble_eq_true rfl) (Nat.le_of_ble_eq_true rfl) rfl ?_
          refine zR_bipush (x := (28 : Int32)) dX5_check_85 rfl ?_
          by_cases c10 : q8 = (28 : Int32)
          · have h := zif_t h c10
            refine zR_icmp_ne_f (tgt := 127) dX5_check_87 (by decide) c10 ?_
            refine zR_aload_n dX5_check_90 0 rfl ?_
            refine zG_getR dX5_check_91 zf_X5_32 zd_9 rfl rfl ?_
            refine zR_iload_n dX5_check_94 1 rfl ?_
            refine zR_iconst (x := (1 : Int32)) dX5_check_95 rfl ?_
            refine zR_isub dX5_check_96 ?_
            obtain ⟨q11, hq12, h⟩ := zbd_some h
            refine zR_cV (rest := []) (st1 := [.int q11]) dX5_check_97 (mX10_kindAt F V0 V1 V2 V3 V4 V5 V6 V7 (x1 - (1 : Int32)) _ hq12) zc_X5_48 rfl (zE_at zd_2) ⟨_, _, rfl⟩ rfl (Nat.le_of_ble_eq_true rfl) (Nat.le_of_ble_eq_true rfl) rfl ?_
            refine zR_bipush (x := (9 : Int32)) dX5_check_100 rfl ?_
            by_cases c13 : q11 = (9 : Int32)
            · have h := zif_t h c13
              refine zR_icmp_ne_f (tgt := 127) dX5_check_102 (by decide) c13 ?_
              refine zR_aload_n dX5_check_105 0 rfl ?_
              refine zG_getR dX5_check_106 zf_X5_32 zd_9 rfl rfl ?_
              refine zR_iload_n dX5_check_109 1 rfl ?_
              obtain ⟨q14, hq15, h⟩ := zbd_some h
              refine zR_cV (rest := []) (st1 := [.long q14]) dX5_check_110 (mX10_valueAt F V0 V1 V2 V3 V4 V5 V6 V7 x1 _ hq15) zc_X5_56 rfl (zE_at zd_2) ⟨_, _, rfl⟩ rfl (Nat.le_of_ble_eq_true rfl) (Nat.le_of_ble_eq_true rfl) rfl ?_
              refine zR_lconst (x := (0 : Int64)) dX5_check_113 rfl ?_
              refine zR_lcmp dX5_check_114 ?_
              by_cases c16 : (lg_cmp q14 (0 : Int64)) = 0
              · have h := zif_t h c16
                refine zR_if_ne_f (tgt := 127) dX5_check_115 (by decide) c16 ?_
                refine zR_aload_n dX5_check_118 0 rfl ?_
                refine zG_getR dX5_check_119 zf_X5_32 zd_9 rfl rfl ?_
                refine zR_iconst (x := (5 : Int32)) dX5_check_122 rfl ?_
                refine zR_iload_n dX5_check_123 1 rfl ?_
                obtain ⟨q17, hq18, h⟩ := zbd_some h
                refine zR_cV (rest := []) (st1 := []) dX5_check_124 (mX10_blame F V0 V1 V2 V3 V4 V5 V6 V7 (5 : Int32) x1 _ hq18) zc_X5_60 rfl (zE_at zd_2) ⟨_, _, rfl⟩ rfl (Nat.le_of_ble_eq_true rfl) (Nat.le_of_ble_eq_true rfl) rfl ?_
                exact wX5_check_b127 F (fX5_check_l35 F n) ih V0 q17 V2 V3 V4 V5 V6 V7 x1 _ h
              · have h := zif_f h c16
                refine zR_if_ne_t (tgt := 127) dX5_check_115 (by decide) c16 ?_
                exact wX5_check_b127 F (fX5_check_l35 F n) ih V0 V1 V2 V3 V4 V5 V6 V7 x1 _ h
            · have h := zif_f h c13
              refine zR_icmp_ne_t (tgt := 127) dX5_check_102 (by decide) c13 ?_
              exact wX5_check_b127 F (fX5_check_l35 F n) ih V0 V1 V2 V3 V4 V5 V6 V7 x1 _ h
          · have h := zif_f h c10
            refine zR_icmp_ne_t (tgt := 127) dX5_check_87 (by decide) c10 ?_
            exact wX5_check_b127 F (fX5_check_l35 F n) ih V0 V1 V2 V3 V4 V5 V6 V7 x1 _ h
      · have h := zif_f h c4
        refine zR_if_ne_t (tgt := 133) dX5_check_53 (by decide) c4 ?_
        have h := Option.some.inj h
        subst h
        exact zR_ret dX5_check_133 rfl
set_option maxRecDepth 100000 in
set_option maxHeartbeats 4000000 in
theorem wX5_check_l7 {w : zW} (F : Nat) : ∀ (n : Nat) (V0 V1 V2 V3 V4 V5 V6 V7 : zV) (x1 : Int32) (res : zV × zV), fX5_check_l7 F n V1 V3 x1 = some res → zR w kX5_check 4 0 0 none (zE zds w [V0, res.1, V2, res.2, V4, V5, V6, V7]) 7 [(0, .ref (w.1 + 9)), (1, .int x1)] [] (zE zds w [V0, V1, V2, V3, V4, V5, V6, V7]) := by
  intro n
  induction n with
  | zero =>
    intro V0 V1 V2 V3 V4 V5 V6 V7 x1 res h
    simp [fX5_check_l7] at h
  | succ n ih =>
    intro V0 V1 V2 V3 V4 V5 V6 V7 x1 res h
    rw [fX5_check_l7] at h
    refine zR_iload_n dX5_check_7 1 rfl ?_
    refine zR_aload_n dX5_check_8 0 rfl ?_
    refine zG_getR dX5_check_9 zf_X5_26 zd_9 rfl rfl ?_
    refine zG_alen (u := (27 : Int32)) dX5_check_12 zd_13 (Nat.le_of_ble_eq_true rfl) rfl rfl rfl ?_
    by_cases c21 : (27 : Int32) ≤ x1
    · have h := zif_t h c21
      refine zR_icmp_ge_t (tgt := 29) dX5_check_13 (by decide) c21 ?_
      refine zR_aload_n dX5_check_29 0 rfl ?_
      obtain ⟨q22, hq23, h⟩ := zbd_some h
      refine zR_cV (rest := []) (st1 := []) dX5_check_30 (mX5_gatherModes F V0 V1 V2 V3 V4 V5 V6 V7 _ hq23) zc_X5_36 rfl (zE_at zd_9) ⟨_, _, rfl⟩ rfl (Nat.le_of_ble_eq_true rfl) (Nat.le_of_ble_eq_true rfl) rfl ?_
      refine zR_iconst (x := (0 : Int32)) dX5_check_33 rfl ?_
      refine zR_istore_n (lv' := [(0, .ref (w.1 + 9)), (1, .int (0 : Int32))]) dX5_check_34 (Nat.le_of_ble_eq_true rfl) rfl ?_
      exact wX5_check_l35 F F V0 V1 V2 q22 V4 V5 V6 V7 (0 : Int32) _ h
    · have h := zif_f h c21
      refine zR_icmp_ge_f (tgt := 29) dX5_check_13 (by decide) c21 ?_
      refine zR_aload_n dX5_check_16 0 rfl ?_
      refine zG_getR dX5_check_17 zf_X5_26 zd_9 rfl rfl ?_
      refine zR_iload_n dX5_check_20 1 rfl ?_
      refine zR_iconst (x := (0 : Int32)) dX5_check_21 rfl ?_
      obtain ⟨g24, h⟩ := zchk_some h
      obtain ⟨V3_25, e26, h⟩ := zlet_some h
      refine zG_iast zds_ok dX5_check_22 zd_13 rfl rfl g24 e26 rfl ?_
      refine zR_iinc (u := (x1 + 1)) (lv' := [(0, .ref (w.1 + 9)), (1, .int (x1 + 1))]) dX5_check_23 1 rfl rfl (Nat.le_of_ble_eq_true rfl) rfl ?_
      refine zR_goto (tgt := 7) dX5_check_26 (by decide) ?_
      exact ih V0 V1 V2 V3_25 V4 V5 V6 V7 (x1 + 1) _ h
set_option maxRecDepth 100000 in
set_option maxHeartbeats 4000000 in
theorem mX5_check {w : zW} (F : Nat) (V0 V1 V2 V3 V4 V5 V6 V7 : zV) (res : zV × zV) (h : fX5_check F V1 V3 = some res) : zMet w kX5_check 4 0 0 [.ref (w.1 + 9)] (zE zds w [V0, V1, V2, V3, V4, V5, V6, V7]) none (zE zds w [V0, res.1, V2, res.2, V4, V5, V6, V7]) := by
  refine zMet_of (by decide) (Nat.le_of_ble_eq_true rfl) (Nat.le_refl 0) fun _ => ?_
  show zR w kX5_check 4 0 0 none (zE zds w [V0, res.1, V2, res.2, V4, V5, V6, V7]) 0 [(0, .ref (w.1 + 9))] [] (zE zds w [V0, V1, V2, V3, V4, V5, V6, V7])
  unfold fX5_check at h
  refine zR_aload_n dX5_check_0 0 rfl ?_
  refine zR_iconst (x := (0 : Int32)) dX5_check_1 rfl ?_
  obtain ⟨V3_27, e28, h⟩ := zlet_some h
  refine zG_putI zds_ok dX5_check_2 zf_X5_22 zt_X5_4 zd_9 rfl rfl e28 rfl ?_
  refine zR_iconst (x := (0 : Int32)) dX5_check_5 rfl ?_
  refine zR_istore_n (lv' := [(0, .ref (w.1 + 9)), (1, .int (0 : Int32))]) dX5_check_6 (Nat.le_of_ble_eq_true rfl) rfl ?_
  exact wX5_check_l7 F F V0 V1 V2 V3_27 V4 V5 V6 V7 (0 : Int32) _ h
set_option maxRecDepth 100000 in
set_option maxHeartbeats 4000000 in
theorem mX10_numberAt {w : zW} (F : Nat) (V0 V1 V2 V3 V4 V5 V6 V7 : zV) (x1 : Int32) (res : Int32) (h : fX10_numberAt F V1 x1 = some res) : zMet w kX10_numberAt 1 0 0 [.ref (w.1 + 2), .int x1] (zE zds w [V0, V1, V2, V3, V4, V5, V6, V7]) (some (.int res)) (zE zds w [V0, V1, V2, V3, V4, V5, V6, V7]) := by
  refine zMet_of (by decide) (Nat.le_of_ble_eq_true rfl) (Nat.le_refl 0) fun _ => ?_
  show zR w kX10_numberAt 1 0 0 (some (.int res)) (zE zds w [V0, V1, V2, V3, V4, V5, V6, V7]) 0 [(0, .ref (w.1 + 2)), (1, .int x1)] [] (zE zds w [V0, V1, V2, V3, V4, V5, V6, V7])
  unfold fX10_numberAt at h
  refine zR_aload_n dX10_numberAt_0 0 rfl ?_
  refine zR_iload_n dX10_numberAt_1 1 rfl ?_
  obtain ⟨q1, hq2, h⟩ := zbd_some h
  refine zR_cV (rest := []) (st1 := [.long q1]) dX10_numberAt_2 (mX10_valueAt F V0 V1 V2 V3 V4 V5 V6 V7 x1 _ hq2) zc_X10_94 rfl (zE_at zd_2) ⟨_, _, rfl⟩ rfl (Nat.le_of_ble_eq_true rfl) (Nat.le_of_ble_eq_true rfl) rfl ?_
  refine zR_l2i dX10_numberAt_5 ?_
  have h := Option.some.inj h
  subst h
  exact zR_iret (x := (q1).toInt32) dX10_numberAt_6 rfl rfl
set_option maxRecDepth 100000 in
set_option maxHeartbeats 4000000 in
theorem mX9_setApart {w : zW} (F : Nat) (V0 V1 V2 V3 V4 V5 V6 V7 : zV) (x1 : Int32) (x2 : Int32) (res : zV) (h : fX9_setApart F V4 x1 x2 = some res) : zMet w kX9_setApart 0 0 0 [.ref (w.1 + 15), .int x1, .int x2] (zE zds w [V0, V1, V2, V3, V4, V5, V6, V7]) none (zE zds w [V0, V1, V2, V3, res, V5, V6, V7]) := by
  refine zMet_of (by decide) (Nat.le_of_ble_eq_true rfl) (Nat.le_refl 0) fun _ => ?_
  show zR w kX9_setApart 0 0 0 none (zE zds w [V0, V1, V2, V3, res, V5, V6, V7]) 0 [(0, .ref (w.1 + 15)), (1, .int x1), (2, .int x2)] [] (zE zds w [V0, V1, V2, V3, V4, V5, V6, V7])
  unfold fX9_setApart at h
  refine zR_iload_n dX9_setApart_0 1 rfl ?_
  by_cases c1 : x1 < 0
  · have h := zif_t h c1
    refine zR_if_lt_t (tgt := 50) dX9_setApart_1 (by decide) c1 ?_
    have h := Option.some.inj h
    subst h
    exact zR_ret dX9_setApart_50 rfl
  · have h := zif_f h c1
    refine zR_if_lt_f (tgt := 50) dX9_setApart_1 (by decide) c1 ?_
    refine zR_iload_n dX9_setApart_4 1 rfl ?_
    refine zR_aload_n dX9_setApart_5 0 rfl ?_
    refine zG_getR dX9_setApart_6 zf_X9_21 zd_15 rfl rfl ?_
    refine zG_alen (u := (8 : Int32)) dX9_setApart_9 zd_19 (Nat.le_of_ble_eq_true rfl) rfl rfl rfl ?_
    by_cases c2 : (8 : Int32) ≤ x1
    · have h := zif_t h c2
      refine zR_icmp_ge_t (tgt := 50) dX9_setApart_10 (by decide) c2 ?_
      have h := Option.some.inj h
      subst h
      exact zR_ret dX9_setApart_50 rfl
    · have h := zif_f h c2
      refine zR_icmp_ge_f (tgt := 50) dX9_setApart_10 (by decide) c2 ?_
      refine zR_iload_n dX9_setApart_13 2 rfl ?_
      by_cases c3 : x2 < 0
      · have h := zif_t h c3
        refine zR_if_lt_t (tgt := 50) dX9_setApart_14 (by decide) c3 ?_
        have h := Option.some.inj h
        subst h
        exact zR_ret dX9_setApart_50 rfl
      · have h := zif_f h c3
        refine zR_if_lt_f (tgt := 50) dX9_setApart_14 (by decide) c3 ?_
        refine zR_iload_n dX9_setApart_17 2 rfl ?_
        refine zR_aload_n dX9_setApart_18 0 rfl ?_
        refine zG_getR dX9_setApart_19 zf_X9_21 zd_15 rfl rfl ?_
        refine zG_alen (u := (8 : Int32)) dX9_setApart_22 zd_19 (Nat.le_of_ble_eq_true rfl) rfl rfl rfl ?_
        by_cases c4 : (8 : Int32) ≤ x2
        · have h := zif_t h c4
          refine zR_icmp_ge_t (tgt := 50) dX9_setApart_23 (by decide) c4 ?_
          have h := Option.some.inj h
          subst h
          exact zR_ret dX9_setApart_50 rfl
        · have h := zif_f h c4
          refine zR_icmp_ge_f (tgt := 50) dX9_setApart_23 (by decide) c4 ?_
          refine zR_aload_n dX9_setApart_26 0 rfl ?_
          refine zG_getR dX9_setApart_27 zf_X9_21 zd_15 rfl rfl ?_
          refine zR_iload_n dX9_setApart_30 1 rfl ?_
          refine zR_dup2 dX9_setApart_31 rfl rfl ?_
          obtain ⟨g5, h⟩ := zchk_some h
          refine zG_iald dX9_setApart_32 zd_19 rfl rfl g5 ?_
          refine zR_iconst (x := (1 : Int32)) dX9_setApart_33 rfl ?_
          refine zR_iload_n dX9_setApart_34 2 rfl ?_
          refine zR_ishl dX9_setApart_35 ?_
          refine zR_ior dX9_setApart_36 ?_
          obtain ⟨g6, h⟩ := zchk_some h
          obtain ⟨V4_7, e8, h⟩ := zlet_some h
          refine zG_iast zds_ok dX9_setApart_37 zd_19 rfl rfl g6 e8 rfl ?_
          refine zR_aload_n dX9_setApart_38 0 rfl ?_
          refine zG_getR dX9_setApart_39 zf_X9_21 zd_15 rfl rfl ?_
          refine zR_iload_n dX9_setApart_42 2 rfl ?_
          refine zR_dup2 dX9_setApart_43 rfl rfl ?_
          obtain ⟨g9, h⟩ := zchk_some h
          refine zG_iald dX9_setApart_44 zd_19 rfl rfl g9 ?_
          refine zR_iconst (x := (1 : Int32)) dX9_setApart_45 rfl ?_
          refine zR_iload_n dX9_setApart_46 1 rfl ?_
          refine zR_ishl dX9_setApart_47 ?_
          refine zR_ior dX9_setApart_48 ?_
          obtain ⟨g10, h⟩ := zchk_some h
          obtain ⟨V4_11, e12, h⟩ := zlet_some h
          refine zG_iast zds_ok dX9_setApart_49 zd_19 rfl rfl g10 e12 rfl ?_
          have h := Option.some.inj h
          subst h
          exact zR_ret dX9_setApart_50 rfl
set_option maxRecDepth 100000 in
set_option maxHeartbeats 4000000 in
theorem wX9_takeOne_b270 {w : zW} (F : Nat) (V0 V1 V2 V3 V4 V5 V6 V7 : zV) (s1 : Int32) (s2 : Int32) (res : zV) (h : fX9_takeOne_b270 F V1 V4 s1 s2 = some res) : zR w kX9_takeOne 2 0 0 none (zE zds w [V0, V1, V2, V3, res, V5, V6, V7]) 270 [] [.int s2, .int s1, .ref (w.1 + 26)] (zE zds w [V0, V1, V2, V3, V4, V5, V6, V7]) := by
  unfold fX9_takeOne_b270 at h
  obtain ⟨g1, h⟩ := zchk_some h
  obtain ⟨V4_2, e3, h⟩ := zlet_some h
  refine zG_iast zds_ok dX9_takeOne_270 zd_26 rfl rfl g1 e3 rfl ?_
  have h := Option.some.inj h
  subst h
  exact zR_ret dX9_takeOne_271 rfl
set_option maxRecDepth 100000 in
set_option maxHeartbeats 4000000 in
theorem wX9_takeOne_b216 {w : zW} (F : Nat) (V0 V1 V2 V3 V4 V5 V6 V7 : zV) (x2 : Int32) (x3 : Int32) (x4 : Int32) (x6 : Int32) (res : zV) (h : fX9_takeOne_b216 F V1 V4 x2 x3 x4 x6 = some res) : zR w kX9_takeOne 2 0 0 none (zE zds w [V0, V1, V2, V3, res, V5, V6, V7]) 216 [(0, .ref (w.1 + 15)), (1, .ref (w.1 + 2)), (2, .int x2), (3, .int x3), (4, .int x4), (6, .int x6)] [] (zE zds w [V0, V1, V2, V3, V4, V5, V6, V7]) := by
  unfold fX9_takeOne_b216 at h
  refine zR_iload_n dX9_takeOne_216 3 rfl ?_
  refine zR_bipush (x := (7 : Int32)) dX9_takeOne_217 rfl ?_
  by_cases c4 : x3 = (7 : Int32)
  · have h := zif_t h c4
    refine zR_icmp_ne_f (tgt := 271) dX9_takeOne_219 (by decide) c4 ?_
    refine zR_iload dX9_takeOne_222 4 rfl ?_
    refine zR_aload_n dX9_takeOne_224 0 rfl ?_
    refine zG_getR dX9_takeOne_225 zf_X9_39 zd_15 rfl rfl ?_
    refine zG_alen (u := (12 : Int32)) dX9_takeOne_228 zd_25 (Nat.le_of_ble_eq_true rfl) rfl rfl rfl ?_
    by_cases c5 : (12 : Int32) ≤ x4
    · have h := zif_t h c5
      refine zR_icmp_ge_t (tgt := 271) dX9_takeOne_229 (by decide) c5 ?_
      have h := Option.some.inj h
      subst h
      exact zR_ret dX9_takeOne_271 rfl
    · have h := zif_f h c5
      refine zR_icmp_ge_f (tgt := 271) dX9_takeOne_229 (by decide) c5 ?_
      refine zR_aload_n dX9_takeOne_232 0 rfl ?_
      refine zG_getR dX9_takeOne_233 zf_X9_39 zd_15 rfl rfl ?_
      refine zR_iload dX9_takeOne_236 4 rfl ?_
      refine zR_iload dX9_takeOne_238 5 rfl ?_
      obtain ⟨g6, h⟩ := zchk_some h
      obtain ⟨V4_7, e8, h⟩ := zlet_some h
      refine zG_iast zds_ok dX9_takeOne_240 zd_25 rfl rfl g6 e8 rfl ?_
      refine zR_aload_n dX9_takeOne_241 0 rfl ?_
      refine zG_getR dX9_takeOne_242 zf_X9_42 zd_15 rfl rfl ?_
      refine zR_iload dX9_takeOne_245 4 rfl ?_
      refine zR_aload_n dX9_takeOne_247 1 rfl ?_
      refine zR_iload_n dX9_takeOne_248 2 rfl ?_
      refine zR_iconst (x := (3 : Int32)) dX9_takeOne_249 rfl ?_
      refine zR_iadd dX9_takeOne_250 ?_
      obtain ⟨q9, hq10, h⟩ := zbd_some h
      refine zR_cV (rest := [.int x4, .ref (w.1 + 26)]) (st1 := [.int q9, .int x4, .ref (w.1 + 26)]) dX9_takeOne_251 (mX10_kindAt F V0 V1 V2 V3 V4_7 V5 V6 V7 (x2 + (3 : Int32)) _ hq10) zc_X9_61 rfl (zE_at zd_2) ⟨_, _, rfl⟩ rfl (Nat.le_of_ble_eq_true rfl) (Nat.le_of_ble_eq_true rfl) rfl ?_
      refine zR_bipush (x := (9 : Int32)) dX9_takeOne_254 rfl ?_
      by_cases c11 : q9 = (9 : Int32)
      · have h := zif_t h c11
        refine zR_icmp_ne_f (tgt := 269) dX9_takeOne_256 (by decide) c11 ?_
        refine zR_aload_n dX9_takeOne_259 1 rfl ?_
        refine zR_iload_n dX9_takeOne_260 2 rfl ?_
        refine zR_iconst (x := (4 : Int32)) dX9_takeOne_261 rfl ?_
        refine zR_iadd dX9_takeOne_262 ?_
        obtain ⟨q12, hq13, h⟩ := zbd_some h
        refine zR_cV (rest := [.int x4, .ref (w.1 + 26)]) (st1 := [.int q12, .int x4, .ref (w.1 + 26)]) dX9_takeOne_263 (mX10_numberAt F V0 V1 V2 V3 V4_7 V5 V6 V7 (x2 + (4 : Int32)) _ hq13) zc_X9_79 rfl (zE_at zd_2) ⟨_, _, rfl⟩ rfl (Nat.le_of_ble_eq_true rfl) (Nat.le_of_ble_eq_true rfl) rfl ?_
        refine zR_goto (tgt := 270) dX9_takeOne_266 (by decide) ?_
        refine zR_sub (lv' := []) [] rfl ?_
        exact wX9_takeOne_b270 F V0 V1 V2 V3 V4_7 V5 V6 V7 x4 q12 _ h
      · have h := zif_f h c11
        refine zR_icmp_ne_t (tgt := 269) dX9_takeOne_256 (by decide) c11 ?_
        refine zR_iconst (x := (0 : Int32)) dX9_takeOne_269 rfl ?_
        refine zR_sub (lv' := []) [] rfl ?_
        exact wX9_takeOne_b270 F V0 V1 V2 V3 V4_7 V5 V6 V7 x4 (0 : Int32) _ h
  · have h := zif_f h c4
    refine zR_icmp_ne_t (tgt := 271) dX9_takeOne_219 (by decide) c4 ?_
    have h := Option.some.inj h
    subst h
    exact zR_ret dX9_takeOne_271 rfl
set_option maxRecDepth 100000 in
set_option maxHeartbeats 4000000 in
theorem wX9_takeOne_b188 {w : zW} (F : Nat) (V0 V1 V2 V3 V4 V5 V6 V7 : zV) (x2 : Int32) (x3 : Int32) (x4 : Int32) (x6 : Int32) (res : zV) (h : fX9_takeOne_b188 F V1 V4 x2 x3 x4 x6 = some res) : zR w kX9_takeOne 2 0 0 none (zE zds w [V0, V1, V2, V3, res, V5, V6, V7]) 188 [(0, .ref (w.1 + 15)), (1, .ref (w.1 + 2)), (2, .int x2), (3, .int x3), (4, .int x4), (6, .int x6)] [] (zE zds w [V0, V1, V2, V3, V4, V5, V6, V7]) := by
  unfold fX9_takeOne_b188 at h
  refine zR_iload_n dX9_takeOne_188 3 rfl ?_
  refine zR_bipush (x := (6 : Int32)) dX9_takeOne_189 rfl ?_
  by_cases c14 : x3 = (6 : Int32)
  · have h := zif_t h c14
    refine zR_icmp_ne_f (tgt := 216) dX9_takeOne_191 (by decide) c14 ?_
    refine zR_iload dX9_takeOne_194 4 rfl ?_
    refine zR_aload_n dX9_takeOne_196 0 rfl ?_
    refine zG_getR dX9_takeOne_197 zf_X9_36 zd_15 rfl rfl ?_
    refine zG_alen (u := (16 : Int32)) dX9_takeOne_200 zd_24 (Nat.le_of_ble_eq_true rfl) rfl rfl rfl ?_
    by_cases c15 : (16 : Int32) ≤ x4
    · have h := zif_t h c15
      refine zR_icmp_ge_t (tgt := 216) dX9_takeOne_201 (by decide) c15 ?_
      exact wX9_takeOne_b216 F V0 V1 V2 V3 V4 V5 V6 V7 x2 x3 x4 x6 _ h
    · have h := zif_f h c15
      refine zR_icmp_ge_f (tgt := 216) dX9_takeOne_201 (by decide) c15 ?_
      refine zR_aload_n dX9_takeOne_204 0 rfl ?_
      refine zG_getR dX9_takeOne_205 zf_X9_36 zd_15 rfl rfl ?_
      refine zR_iload dX9_takeOne_208 4 rfl ?_
      refine zR_iload dX9_takeOne_210 5 rfl ?_
      obtain ⟨g16, h⟩ := zchk_some h
      obtain ⟨V4_17, e18, h⟩ := zlet_some h
      refine zG_iast zds_ok dX9_takeOne_212 zd_24 rfl rfl g16 e18 rfl ?_
      refine zR_goto (tgt := 271) dX9_takeOne_213 (by decide) ?_
      have h := Option.some.inj h
      subst h
      exact zR_ret dX9_takeOne_271 rfl
  · have h := zif_f h c14
    refine zR_icmp_ne_t (tgt := 216) dX9_takeOne_191 (by decide) c14 ?_
    exact wX9_takeOne_b216 F V0 V1 V2 V3 V4 V5 V6 V7 x2 x3 x4 x6 _ h
set_option maxRecDepth 100000 in
set_option maxHeartbeats 4000000 in
theorem wX9_takeOne_b184 {w : zW} (F : Nat) (V0 V1 V2 V3 V4 V5 V6 V7 : zV) (s1 : Int32) (s2 : Int32) (res : zV) (h : fX9_takeOne_b184 F V1 V4 s1 s2 = some res) : zR w kX9_takeOne 2 0 0 none (zE zds w [V0, V1, V2, V3, res, V5, V6, V7]) 184 [] [.int s2, .int s1, .ref (w.1 + 23)] (zE zds w [V0, V1, V2, V3, V4, V5, V6, V7]) := by
  unfold fX9_takeOne_b184 at h
  obtain ⟨g19, h⟩ := zchk_some h
  obtain ⟨V4_20, e21, h⟩ := zlet_some h
  refine zG_iast zds_ok dX9_takeOne_184 zd_23 rfl rfl g19 e21 rfl ?_
  refine zR_goto (tgt := 271) dX9_takeOne_185 (by decide) ?_
  have h := Option.some.inj h
  subst h
  exact zR_ret dX9_takeOne_271 rfl
set_option maxRecDepth 100000 in
set_option maxHeartbeats 4000000 in
theorem wX9_takeOne_b122 {w : zW} (F : Nat) (V0 V1 V2 V3 V4 V5 V6 V7 : zV) (x2 : Int32) (x3 : Int32) (x4 : Int32) (x5 : Int32) (x6 : Int32) (res : zV) (h : fX9_takeOne_b122 F V1 V4 x2 x3 x4 x5 x6 = some res) : zR w kX9_takeOne 2 0 0 none (zE zds w [V0, V1, V2, V3, res, V5, V6, V7]) 122 [(0, .ref (w.1 + 15)), (1, .ref (w.1 + 2)), (2, .int x2), (3, .int x3), (4, .int x4), (5, .int x5), (6, .int x6)] [] (zE zds w [V0, V1, V2, V3, V4, V5, V6, V7]) := by
  unfold fX9_takeOne_b122 at h
  refine zR_iload_n dX9_takeOne_122 3 rfl ?_
  refine zR_iconst (x := (5 : Int32)) dX9_takeOne_123 rfl ?_
  by_cases c22 : x3 = (5 : Int32)
  · have h := zif_t h c22
    refine zR_icmp_ne_f (tgt := 188) dX9_takeOne_124 (by decide) c22 ?_
    refine zR_iload dX9_takeOne_127 4 rfl ?_
    refine zR_aload_n dX9_takeOne_129 0 rfl ?_
    refine zG_getR dX9_takeOne_130 zf_X9_33 zd_15 rfl rfl ?_
    refine zG_alen (u := (24 : Int32)) dX9_takeOne_133 zd_23 (Nat.le_of_ble_eq_true rfl) rfl rfl rfl ?_
    by_cases c23 : (24 : Int32) ≤ x4
    · have h := zif_t h c23
      refine zR_icmp_ge_t (tgt := 188) dX9_takeOne_134 (by decide) c23 ?_
      refine zR_sub (lv' := [(0, .ref (w.1 + 15)), (1, .ref (w.1 + 2)), (2, .int x2), (3, .int x3), (4, .int x4), (6, .int x6)]) [0, 1, 2, 3, 4, 6] rfl ?_
      exact wX9_takeOne_b188 F V0 V1 V2 V3 V4 V5 V6 V7 x2 x3 x4 x6 _ h
    · have h := zif_f h c23
      refine zR_icmp_ge_f (tgt := 188) dX9_takeOne_134 (by decide) c23 ?_
      refine zR_aload_n dX9_takeOne_137 0 rfl ?_
      refine zG_getR dX9_takeOne_138 zf_X9_27 zd_15 rfl rfl ?_
      refine zR_iload dX9_takeOne_141 4 rfl ?_
      refine zR_iload dX9_takeOne_143 5 rfl ?_
      obtain ⟨g24, h⟩ := zchk_some h
      obtain ⟨V4_25, e26, h⟩ := zlet_some h
      refine zG_iast zds_ok dX9_takeOne_145 zd_21 rfl rfl g24 e26 rfl ?_
      refine zR_aload_n dX9_takeOne_146 0 rfl ?_
      refine zG_getR dX9_takeOne_147 zf_X9_30 zd_15 rfl rfl ?_
      refine zR_iload dX9_takeOne_150 4 rfl ?_
      refine zR_iload dX9_takeOne_152 6 rfl ?_
      obtain ⟨g27, h⟩ := zchk_some h
      obtain ⟨V4_28, e29, h⟩ := zlet_some h
      refine zG_iast zds_ok dX9_takeOne_154 zd_22 rfl rfl g27 e29 rfl ?_
      refine zR_aload_n dX9_takeOne_155 0 rfl ?_
      refine zG_getR dX9_takeOne_156 zf_X9_33 zd_15 rfl rfl ?_
      refine zR_iload dX9_takeOne_159 4 rfl ?_
      refine zR_aload_n dX9_takeOne_161 1 rfl ?_
      refine zR_iload_n dX9_takeOne_162 2 rfl ?_
      refine zR_iconst (x := (3 : Int32)) dX9_takeOne_163 rfl ?_
      refine zR_iadd dX9_takeOne_164 ?_
      obtain ⟨q30, hq31, h⟩ := zbd_some h
      refine zR_cV (rest := [.int x4, .ref (w.1 + 23)]) (st1 := [.int q30, .int x4, .ref (w.1 + 23)]) dX9_takeOne_165 (mX10_kindAt F V0 V1 V2 V3 V4_28 V5 V6 V7 (x2 + (3 : Int32)) _ hq31) zc_X9_61 rfl (zE_at zd_2) ⟨_, _, rfl⟩ rfl (Nat.le_of_ble_eq_true rfl) (Nat.le_of_ble_eq_true rfl) rfl ?_
      refine zR_bipush (x := (8 : Int32)) dX9_takeOne_168 rfl ?_
      by_cases c32 : q30 = (8 : Int32)
      · have h := zif_t h c32
        refine zR_icmp_ne_f (tgt := 183) dX9_takeOne_170 (by decide) c32 ?_
        refine zR_aload_n dX9_takeOne_173 1 rfl ?_
        refine zR_iload_n dX9_takeOne_174 2 rfl ?_
        refine zR_iconst (x := (4 : Int32)) dX9_takeOne_175 rfl ?_
        refine zR_iadd dX9_takeOne_176 ?_
        obtain ⟨q33, hq34, h⟩ := zbd_some h
        refine zR_cV (rest := [.int x4, .ref (w.1 + 23)]) (st1 := [.int q33, .int x4, .ref (w.1 + 23)]) dX9_takeOne_177 (mX10_numberAt F V0 V1 V2 V3 V4_28 V5 V6 V7 (x2 + (4 : Int32)) _ hq34) zc_X9_79 rfl (zE_at zd_2) ⟨_, _, rfl⟩ rfl (Nat.le_of_ble_eq_true rfl) (Nat.le_of_ble_eq_true rfl) rfl ?_
        refine zR_goto (tgt := 184) dX9_takeOne_180 (by decide) ?_
        refine zR_sub (lv' := []) [] rfl ?_
        exact wX9_takeOne_b184 F V0 V1 V2 V3 V4_28 V5 V6 V7 x4 q33 _ h
      · have h := zif_f h c32
        refine zR_icmp_ne_t (tgt := 183) dX9_takeOne_170 (by decide) c32 ?_
        refine zR_iconst (x := (-1 : Int32)) dX9_takeOne_183 (by decide) ?_
        refine zR_sub (lv' := []) [] rfl ?_
        exact wX9_takeOne_b184 F V0 V1 V2 V3 V4_28 V5 V6 V7 x4 (-1 : Int32) _ h
  · have h := zif_f h c22
    refine zR_icmp_ne_t (tgt := 188) dX9_takeOne_124 (by decide) c22 ?_
    refine zR_sub (lv' := [(0, .ref (w.1 + 15)), (1, .ref (w.1 + 2)), (2, .int x2), (3, .int x3), (4, .int x4), (6, .int x6)]) [0, 1, 2, 3, 4, 6] rfl ?_
    exact wX9_takeOne_b188 F V0 V1 V2 V3 V4 V5 V6 V7 x2 x3 x4 x6 _ h
set_option maxRecDepth 100000 in
set_option maxHeartbeats 4000000 in
theorem wX9_takeOne_b79 {w : zW} (F : Nat) (V0 V1 V2 V3 V4 V5 V6 V7 : zV) (x2 : Int32) (x3 : Int32) (x4 : Int32) (x5 : Int32) (x6 : Int32) (res : zV) (h : fX9_takeOne_b79 F V1 V4 x2 x3 x4 x5 x6 = some res) : zR w kX9_takeOne 2 0 0 none (zE zds w [V0, V1, V2, V3, res, V5, V6, V7]) 79 [(0, .ref (w.1 + 15)), (1, .ref (w.1 + 2)), (2, .int x2), (3, .int x3), (4, .int x4), (5, .int x5), (6, .int x6)] [] (zE zds w [V0, V1, V2, V3, V4, V5, V6, V7]) := by
  unfold fX9_takeOne_b79 at h
  refine zR_iload_n dX9_takeOne_79 3 rfl ?_
  refine zR_iconst (x := (2 : Int32)) dX9_takeOne_80 rfl ?_
  by_cases c35 : x3 = (2 : Int32)
  · have h := zif_t h c35
    refine zR_icmp_ne_f (tgt := 95) dX9_takeOne_81 (by decide) c35 ?_
    refine zR_aload_n dX9_takeOne_84 0 rfl ?_
    refine zR_iload dX9_takeOne_85 5 rfl ?_
    refine zR_iload dX9_takeOne_87 6 rfl ?_
    obtain ⟨q41, hq42, h⟩ := zbd_some h
    refine zR_cV (rest := []) (st1 := []) dX9_takeOne_89 (mX9_setApart F V0 V1 V2 V3 V4 V5 V6 V7 x5 x6 _ hq42) zc_X9_82 rfl (zE_at zd_15) ⟨_, _, rfl⟩ rfl (Nat.le_of_ble_eq_true rfl) (Nat.le_of_ble_eq_true rfl) rfl ?_
    refine zR_goto (tgt := 271) dX9_takeOne_92 (by decide) ?_
    have h := Option.some.inj h
    subst h
    exact zR_ret dX9_takeOne_271 rfl
  · have h := zif_f h c35
    refine zR_icmp_ne_t (tgt := 95) dX9_takeOne_81 (by decide) c35 ?_
    refine zR_iload_n dX9_takeOne_95 3 rfl ?_
    refine zR_iconst (x := (3 : Int32)) dX9_takeOne_96 rfl ?_
    by_cases c36 : x3 = (3 : Int32)
    · have h := zif_t h c36
      refine zR_icmp_ne_f (tgt := 122) dX9_takeOne_97 (by decide) c36 ?_
      refine zR_iload dX9_takeOne_100 4 rfl ?_
      refine zR_aload_n dX9_takeOne_102 0 rfl ?_
      refine zG_getR dX9_takeOne_103 zf_X9_24 zd_15 rfl rfl ?_
      refine zG_alen (u := (16 : Int32)) dX9_takeOne_106 zd_20 (Nat.le_of_ble_eq_true rfl) rfl rfl rfl ?_
      by_cases c37 : (16 : Int32) ≤ x4
      · have h := zif_t h c37
        refine zR_icmp_ge_t (tgt := 122) dX9_takeOne_107 (by decide) c37 ?_
        exact wX9_takeOne_b122 F V0 V1 V2 V3 V4 V5 V6 V7 x2 x3 x4 x5 x6 _ h
      · have h := zif_f h c37
        refine zR_icmp_ge_f (tgt := 122) dX9_takeOne_107 (by decide) c37 ?_
        refine zR_aload_n dX9_takeOne_110 0 rfl ?_
        refine zG_getR dX9_takeOne_111 zf_X9_24 zd_15 rfl rfl ?_
        refine zR_iload dX9_takeOne_114 4 rfl ?_
        refine zR_iload dX9_takeOne_116 6 rfl ?_
        obtain ⟨g38, h⟩ := zchk_some h
        obtain ⟨V4_39, e40, h⟩ := zlet_some h
        refine zG_iast zds_ok dX9_takeOne_118 zd_20 rfl rfl g38 e40 rfl ?_
        refine zR_goto (tgt := 271) dX9_takeOne_119 (by decide) ?_
        have h := Option.some.inj h
        subst h
        exact zR_ret dX9_takeOne_271 rfl
    · have h := zif_f h c36
      refine zR_icmp_ne_t (tgt := 122) dX9_takeOne_97 (by decide) c36 ?_
      exact wX9_takeOne_b122 F V0 V1 V2 V3 V4 V5 V6 V7 x2 x3 x4 x5 x6 _ h
set_option maxRecDepth 100000 in
set_option maxHeartbeats 4000000 in
theorem wX9_takeOne_b52 {w : zW} (F : Nat) (V0 V1 V2 V3 V4 V5 V6 V7 : zV) (x2 : Int32) (x3 : Int32) (x4 : Int32) (x5 : Int32) (x6 : Int32) (res : zV) (h : fX9_takeOne_b52 F V1 V4 x2 x3 x4 x5 x6 = some res) : zR w kX9_takeOne 2 0 0 none (zE zds w [V0, V1, V2, V3, res, V5, V6, V7]) 52 [(0, .ref (w.1 + 15)), (1, .ref (w.1 + 2)), (2, .int x2), (3, .int x3), (4, .int x4), (5, .int x5), (6, .int x6)] [] (zE zds w [V0, V1, V2, V3, V4, V5, V6, V7]) := by
  unfold fX9_takeOne_b52 at h
  refine zR_iload_n dX9_takeOne_52 3 rfl ?_
  refine zR_iconst (x := (1 : Int32)) dX9_takeOne_53 rfl ?_
  by_cases c43 : x3 = (1 : Int32)
  · have h := zif_t h c43
    refine zR_icmp_ne_f (tgt := 79) dX9_takeOne_54 (by decide) c43 ?_
    refine zR_iload dX9_takeOne_57 4 rfl ?_
    refine zR_aload_n dX9_takeOne_59 0 rfl ?_
    refine zG_getR dX9_takeOne_60 zf_X9_18 zd_15 rfl rfl ?_
    refine zG_alen (u := (8 : Int32)) dX9_takeOne_63 zd_18 (Nat.le_of_ble_eq_true rfl) rfl rfl rfl ?_
    by_cases c44 : (8 : Int32) ≤ x4
    · have h := zif_t h c44
      refine zR_icmp_ge_t (tgt := 79) dX9_takeOne_64 (by decide) c44 ?_
      exact wX9_takeOne_b79 F V0 V1 V2 V3 V4 V5 V6 V7 x2 x3 x4 x5 x6 _ h
    · have h := zif_f h c44
      refine zR_icmp_ge_f (tgt := 79) dX9_takeOne_64 (by decide) c44 ?_
      refine zR_aload_n dX9_takeOne_67 0 rfl ?_
      refine zG_getR dX9_takeOne_68 zf_X9_18 zd_15 rfl rfl ?_
      refine zR_iload dX9_takeOne_71 4 rfl ?_
      refine zR_iload dX9_takeOne_73 6 rfl ?_
      obtain ⟨g45, h⟩ := zchk_some h
      obtain ⟨V4_46, e47, h⟩ := zlet_some h
      refine zG_iast zds_ok dX9_takeOne_75 zd_18 rfl rfl g45 e47 rfl ?_
      refine zR_goto (tgt := 271) dX9_takeOne_76 (by decide) ?_
      have h := Option.some.inj h
      subst h
      exact zR_ret dX9_takeOne_271 rfl
  · have h := zif_f h c43
    refine zR_icmp_ne_t (tgt := 79) dX9_takeOne_54 (by decide) c43 ?_
    exact wX9_takeOne_b79 F V0 V1 V2 V3 V4 V5 V6 V7 x2 x3 x4 x5 x6 _ h
set_option maxRecDepth 100000 in
set_option maxHeartbeats 4000000 in
theorem mX9_takeOne {w : zW} (F : Nat) (V0 V1 V2 V3 V4 V5 V6 V7 : zV) (x2 : Int32) (x3 : Int32) (res : zV) (h : fX9_takeOne F V1 V4 x2 x3 = some res) : zMet w kX9_takeOne 2 0 0 [.ref (w.1 + 15), .ref (w.1 + 2), .int x2, .int x3] (zE zds w [V0, V1, V2, V3, V4, V5, V6, V7]) none (zE zds w [V0, V1, V2, V3, res, V5, V6, V7]) := by
  refine zMet_of (by decide) (Nat.le_of_ble_eq_true rfl) (Nat.le_refl 0) fun _ => ?_
  show zR w kX9_takeOne 2 0 0 none (zE zds w [V0, V1, V2, V3, res, V5, V6, V7]) 0 [(0, .ref (w.1 + 15)), (1, .ref (w.1 + 2)), (2, .int x2), (3, .int x3)] [] (zE zds w [V0, V1, V2, V3, V4, V5, V6, V7])
  unfold fX9_takeOne at h
  refine zR_aload_n dX9_takeOne_0 0 rfl ?_
  refine zG_getR dX9_takeOne_1 zf_X9_9 zd_15 rfl rfl ?_
  refine zR_iload_n dX9_takeOne_4 3 rfl ?_
  obtain ⟨g48, h⟩ := zchk_some h
  refine zG_iald dX9_takeOne_5 zd_16 rfl rfl g48 ?_
  obtain ⟨y49, e50, h⟩ := zlet_some h
  refine zR_nmI e50 ?_
  refine zR_istore (lv' := [(0, .ref (w.1 + 15)), (1, .ref (w.1 + 2)), (2, .int x2), (3, .int x3), (4, .int y49)]) dX9_takeOne_6 (Nat.le_of_ble_eq_true rfl) rfl ?_
  refine zR_aload_n dX9_takeOne_8 1 rfl ?_
  refine zR_iload_n dX9_takeOne_9 2 rfl ?_
  refine zR_iconst (x := (1 : Int32)) dX9_takeOne_10 rfl ?_
  refine zR_iadd dX9_takeOne_11 ?_
  obtain ⟨q51, hq52, h⟩ := zbd_some h
  refine zR_cV (rest := []) (st1 := [.int q51]) dX9_takeOne_12 (mX10_numberAt F V0 V1 V2 V3 V4 V5 V6 V7 (x2 + (1 : Int32)) _ hq52) zc_X9_79 rfl (zE_at zd_2) ⟨_, _, rfl⟩ rfl (Nat.le_of_ble_eq_true rfl) (Nat.le_of_ble_eq_true rfl) rfl ?_
  refine zR_istore (lv' := [(0, .ref (w.1 + 15)), (1, .ref (w.1 + 2)), (2, .int x2), (3, .int x3), (4, .int y49), (5, .int q51)]) dX9_takeOne_15 (Nat.le_of_ble_eq_true rfl) rfl ?_
  refine zR_aload_n dX9_takeOne_17 1 rfl ?_
  refine zR_iload_n dX9_takeOne_18 2 rfl ?_
  refine zR_iconst (x := (2 : Int32)) dX9_takeOne_19 rfl ?_
  refine zR_iadd dX9_takeOne_20 ?_
  obtain ⟨q53, hq54, h⟩ := zbd_some h
  refine zR_cV (rest := []) (st1 := [.int q53]) dX9_takeOne_21 (mX10_numberAt F V0 V1 V2 V3 V4 V5 V6 V7 (x2 + (2 : Int32)) _ hq54) zc_X9_79 rfl (zE_at zd_2) ⟨_, _, rfl⟩ rfl (Nat.le_of_ble_eq_true rfl) (Nat.le_of_ble_eq_true rfl) rfl ?_
  refine zR_istore (lv' := [(0, .ref (w.1 + 15)), (1, .ref (w.1 + 2)), (2, .int x2), (3, .int x3), (4, .int y49), (5, .int q51), (6, .int q53)]) dX9_takeOne_24 (Nat.le_of_ble_eq_true rfl) rfl ?_
  refine zR_iload_n dX9_takeOne_26 3 rfl ?_
  by_cases c55 : x3 = 0
  · have h := zif_t h c55
    refine zR_if_ne_f (tgt := 52) dX9_takeOne_27 (by decide) c55 ?_
    refine zR_iload dX9_takeOne_30 4 rfl ?_
    refine zR_aload_n dX9_takeOne_32 0 rfl ?_
    refine zG_getR dX9_takeOne_33 zf_X9_15 zd_15 rfl rfl ?_
    refine zG_alen (u := (16 : Int32)) dX9_takeOne_36 zd_17 (Nat.le_of_ble_eq_true rfl) rfl rfl rfl ?_
    by_cases c56 : (16 : Int32) ≤ y49
    · have h := zif_t h c56
      refine zR_icmp_ge_t (tgt := 52) dX9_takeOne_37 (by decide) c56 ?_
      exact wX9_takeOne_b52 F V0 V1 V2 V3 V4 V5 V6 V7 x2 x3 y49 q51 q53 _ h
    · have h := zif_f h c56
      refine zR_icmp_ge_f (tgt := 52) dX9_takeOne_37 (by decide) c56 ?_
      refine zR_aload_n dX9_takeOne_40 0 rfl ?_
      refine zG_getR dX9_takeOne_41 zf_X9_15 zd_15 rfl rfl ?_
      refine zR_iload dX9_takeOne_44 4 rfl ?_
      refine zR_iload dX9_takeOne_46 6 rfl ?_
      obtain ⟨g57, h⟩ := zchk_some h
      obtain ⟨V4_58, e59, h⟩ := zlet_some h
      refine zG_iast zds_ok dX9_takeOne_48 zd_17 rfl rfl g57 e59 rfl ?_
      refine zR_goto (tgt := 271) dX9_takeOne_49 (by decide) ?_
      have h := Option.some.inj h
      subst h
      exact zR_ret dX9_takeOne_271 rfl
  · have h := zif_f h c55
    refine zR_if_ne_t (tgt := 52) dX9_takeOne_27 (by decide) c55 ?_
    exact wX9_takeOne_b52 F V0 V1 V2 V3 V4 V5 V6 V7 x2 x3 y49 q51 q53 _ h
set_option maxRecDepth 100000 in
set_option maxHeartbeats 4000000 in
theorem wX9_putInOrder_b70 {w : zW} (F : Nat) (k2 : zV → Int32 → Option (zV)) (hk2 : ∀ (V0 V1 V2 V3 V4 V5 V6 V7 : zV) (x1 : Int32) (res : zV), k2 V4 x1 = some res → zR w kX9_putInOrder 0 0 0 none (zE zds w [V0, V1, V2, V3, res, V5, V6, V7]) 2 [(0, .ref (w.1 + 15)), (1, .int x1)] [] (zE zds w [V0, V1, V2, V3, V4, V5, V6, V7])) (V0 V1 V2 V3 V4 V5 V6 V7 : zV) (x1 : Int32) (x2 : Int32) (res : zV) (h : fX9_putInOrder_b70 F k2 V4 x1 x2 = some res) : zR w kX9_putInOrder 0 0 0 none (zE zds w [V0, V1, V2, V3, res, V5, V6, V7]) 70 [(0, .ref (w.1 + 15)), (1, .int x1), (2, .int x2)] [] (zE zds w [V0, V1, V2, V3, V4, V5, V6, V7]) := by
  unfold fX9_putInOrder_b70 at h
  refine zR_aload_n dX9_putInOrder_70 0 rfl ?_
  refine zG_getR dX9_putInOrder_71 zf_X9_45 zd_15 rfl rfl ?_
  refine zR_iload_n dX9_putInOrder_74 2 rfl ?_
  refine zR_iload_n dX9_putInOrder_75 1 rfl ?_
  obtain ⟨g1, h⟩ := zchk_some h
  obtain ⟨V4_2, e3, h⟩ := zlet_some h
  refine zG_iast zds_ok dX9_putInOrder_76 zd_27 rfl rfl g1 e3 rfl ?_
  refine zR_iinc (u := (x1 + 1)) (lv' := [(0, .ref (w.1 + 15)), (1, .int (x1 + 1)), (2, .int x2)]) dX9_putInOrder_77 1 rfl rfl (Nat.le_of_ble_eq_true rfl) rfl ?_
  refine zR_goto (tgt := 2) dX9_putInOrder_80 (by decide) ?_
  refine zR_sub (lv' := [(0, .ref (w.1 + 15)), (1, .int (x1 + 1))]) [0, 1] rfl ?_
  exact hk2 V0 V1 V2 V3 V4_2 V5 V6 V7 (x1 + 1) _ h
set_option maxRecDepth 100000 in
set_option maxHeartbeats 4000000 in
theorem wX9_putInOrder_l24 {w : zW} (F : Nat) (k2 : zV → Int32 → Option (zV)) (hk2 : ∀ (V0 V1 V2 V3 V4 V5 V6 V7 : zV) (x1 : Int32) (res : zV), k2 V4 x1 = some res → zR w kX9_putInOrder 0 0 0 none (zE zds w [V0, V1, V2, V3, res, V5, V6, V7]) 2 [(0, .ref (w.1 + 15)), (1, .int x1)] [] (zE zds w [V0, V1, V2, V3, V4, V5, V6, V7])) : ∀ (n : Nat) (V0 V1 V2 V3 V4 V5 V6 V7 : zV) (x1 : Int32) (x2 : Int32) (res : zV), fX9_putInOrder_l24 F k2 n V4 x1 x2 = some res → zR w kX9_putInOrder 0 0 0 none (zE zds w [V0, V1, V2, V3, res, V5, V6, V7]) 24 [(0, .ref (w.1 + 15)), (1, .int x1), (2, .int x2)] [] (zE zds w [V0, V1, V2, V3, V4, V5, V6, V7]) := by
  intro n
  induction n with
  | zero =>
    intro V0 V1 V2 V3 V4 V5 V6 V7 x1 x2 res h
    simp [fX9_putInOrder_l24] at h
  | succ n ih =>
    intro V0 V1 V2 V3 V4 V5 V6 V7 x1 x2 res h
    rw [fX9_putInOrder_l24] at h
    refine zR_iload_n dX9_putInOrder_24 2 rfl ?_
    by_cases c4 : x2 ≤ 0
    · have h := zif_t h c4
      refine zR_if_le_t (tgt := 70) dX9_putInOrder_25 (by decide) c4 ?_
      exact wX9_putInOrder_b70 F k2 hk2 V0 V1 V2 V3 V4 V5 V6 V7 x1 x2 _ h
    · have h := zif_f h c4
      refine zR_if_le_f (tgt := 70) dX9_putInOrder_25 (by decide) c4 ?_
      refine zR_aload_n dX9_putInOrder_28 0 rfl ?_
      refine zG_getR dX9_putInOrder_29 zf_X9_39 zd_15 rfl rfl ?_
      refine zR_aload_n dX9_putInOrder_32 0 rfl ?_
      refine zG_getR dX9_putInOrder_33 zf_X9_45 zd_15 rfl rfl ?_
      refine zR_iload_n dX9_putInOrder_36 2 rfl ?_
      refine zR_iconst (x := (1 : Int32)) dX9_putInOrder_37 rfl ?_
      refine zR_isub dX9_putInOrder_38 ?_
      obtain ⟨g5, h⟩ := zchk_some h
      refine zG_iald dX9_putInOrder_39 zd_27 rfl rfl g5 ?_
      obtain ⟨g6, h⟩ := zchk_some h
      refine zG_iald dX9_putInOrder_40 zd_25 rfl rfl g6 ?_
      refine zR_aload_n dX9_putInOrder_41 0 rfl ?_
      refine zG_getR dX9_putInOrder_42 zf_X9_39 zd_15 rfl rfl ?_
      refine zR_iload_n dX9_putInOrder_45 1 rfl ?_
      obtain ⟨g7, h⟩ := zchk_some h
      refine zG_iald dX9_putInOrder_46 zd_25 rfl rfl g7 ?_
      by_cases c8 : (zA V4 10 (x1).toNatClampNeg) ≤ (zA V4 10 ((zA V4 12 ((x2 - (1 : Int32))).toNatClampNeg)).toNatClampNeg)
      · have h := zif_t h c8
        refine zR_icmp_ge_t (tgt := 70) dX9_putInOrder_47 (by decide) c8 ?_
        exact wX9_putInOrder_b70 F k2 hk2 V0 V1 V2 V3 V4 V5 V6 V7 x1 x2 _ h
      · have h := zif_f h c8
        refine zR_icmp_ge_f (tgt := 70) dX9_putInOrder_47 (by decide) c8 ?_
        refine zR_aload_n dX9_putInOrder_50 0 rfl ?_
        refine zG_getR dX9_putInOrder_51 zf_X9_45 zd_15 rfl rfl ?_
        refine zR_iload_n dX9_putInOrder_54 2 rfl ?_
        refine zR_aload_n dX9_putInOrder_55 0 rfl ?_
        refine zG_getR dX9_putInOrder_56 zf_X9_45 zd_15 rfl rfl ?_
        refine zR_iload_n dX9_putInOrder_59 2 rfl ?_
        refine zR_iconst (x := (1 : Int32)) dX9_putInOrder_60 rfl ?_
        refine zR_isub dX9_putInOrder_61 ?_
        obtain ⟨g9, h⟩ := zchk_some h
        refine zG_iald dX9_putInOrder_62 zd_27 rfl rfl g9 ?_
        obtain ⟨g10, h⟩ := zchk_some h
        obtain ⟨V4_11, e12, h⟩ := zlet_some h
        refine zG_iast zds_ok dX9_putInOrder_63 zd_27 rfl rfl g10 e12 rfl ?_
        refine zR_iinc (u := (x2 + (-1))) (lv' := [(0, .ref (w.1 + 15)), (1, .int x1), (2, .int (x2 + (-1)))]) dX9_putInOrder_64 2 rfl (by rw [show Int32.ofInt (-1) = (-1 : Int32) from by decide]) (Nat.le_of_ble_eq_true rfl) rfl ?_
        refine zR_goto (tgt := 24) dX9_putInOrder_67 (by decide) ?_
        exact ih V0 V1 V2 V3 V4_11 V5 V6 V7 x1 (x2 + (-1)) _ h
set_option maxRecDepth 100000 in
set_option maxHeartbeats 4000000 in
theorem wX9_putInOrder_l2 {w : zW} (F : Nat) : ∀ (n : Nat) (V0 V1 V2 V3 V4 V5 V6 V7 : zV) (x1 : Int32) (res : zV), fX9_putInOrder_l2 F n V4 x1 = some res → zR w kX9_putInOrder 0 0 0 none (zE zds w [V0, V1, V2, V3, res, V5, V6, V7]) 2 [(0, .ref (w.1 + 15)), (1, .int x1)] [] (zE zds w [V0, V1, V2, V3, V4, V5, V6, V7]) := by
  intro n
  induction n with
  | zero =>
    intro V0 V1 V2 V3 V4 V5 V6 V7 x1 res h
    simp [fX9_putInOrder_l2] at h
  | succ n ih =>
    intro V0 V1 V2 V3 V4 V5 V6 V7 x1 res h
    rw [fX9_putInOrder_l2] at h
    refine zR_iload_n dX9_putInOrder_2 1 rfl ?_
    refine zR_aload_n dX9_putInOrder_3 0 rfl ?_
    refine zG_getR dX9_putInOrder_4 zf_X9_9 zd_15 rfl rfl ?_
    refine zR_bipush (x := (7 : Int32)) dX9_putInOrder_7 rfl ?_
    refine zG_iald dX9_putInOrder_9 zd_16 rfl rfl (show zix (7 : Int32) 27 from by decide) ?_
    by_cases c13 : (zA V4 1 ((7 : Int32)).toNatClampNeg) ≤ x1
    · have h := zif_t h c13
      refine zR_icmp_ge_t (tgt := 83) dX9_putInOrder_10 (by decide) c13 ?_
      have h := Option.some.inj h
      subst h
      exact zR_ret dX9_putInOrder_83 rfl
    · have h := zif_f h c13
      refine zR_icmp_ge_f (tgt := 83) dX9_putInOrder_10 (by decide) c13 ?_
      refine zR_iload_n dX9_putInOrder_13 1 rfl ?_
      refine zR_aload_n dX9_putInOrder_14 0 rfl ?_
      refine zG_getR dX9_putInOrder_15 zf_X9_45 zd_15 rfl rfl ?_
      refine zG_alen (u := (12 : Int32)) dX9_putInOrder_18 zd_27 (Nat.le_of_ble_eq_true rfl) rfl rfl rfl ?_
      by_cases c14 : (12 : Int32) ≤ x1
      · have h := zif_t h c14
        refine zR_icmp_ge_t (tgt := 83) dX9_putInOrder_19 (by decide) c14 ?_
        have h := Option.some.inj h
        subst h
        exact zR_ret dX9_putInOrder_83 rfl
      · have h := zif_f h c14
        refine zR_icmp_ge_f (tgt := 83) dX9_putInOrder_19 (by decide) c14 ?_
        refine zR_iload_n dX9_putInOrder_22 1 rfl ?_
        refine zR_istore_n (lv' := [(0, .ref (w.1 + 15)), (1, .int x1), (2, .int x1)]) dX9_putInOrder_23 (Nat.le_of_ble_eq_true rfl) rfl ?_
        exact wX9_putInOrder_l24 F (fX9_putInOrder_l2 F n) ih F V0 V1 V2 V3 V4 V5 V6 V7 x1 x1 _ h
set_option maxRecDepth 100000 in
set_option maxHeartbeats 4000000 in
theorem mX9_putInOrder {w : zW} (F : Nat) (V0 V1 V2 V3 V4 V5 V6 V7 : zV) (res : zV) (h : fX9_putInOrder F V4 = some res) : zMet w kX9_putInOrder 0 0 0 [.ref (w.1 + 15)] (zE zds w [V0, V1, V2, V3, V4, V5, V6, V7]) none (zE zds w [V0, V1, V2, V3, res, V5, V6, V7]) := by
  refine zMet_of (by decide) (Nat.le_of_ble_eq_true rfl) (Nat.le_refl 0) fun _ => ?_
  show zR w kX9_putInOrder 0 0 0 none (zE zds w [V0, V1, V2, V3, res, V5, V6, V7]) 0 [(0, .ref (w.1 + 15))] [] (zE zds w [V0, V1, V2, V3, V4, V5, V6, V7])
  unfold fX9_putInOrder at h
  refine zR_iconst (x := (0 : Int32)) dX9_putInOrder_0 rfl ?_
  refine zR_istore_n (lv' := [(0, .ref (w.1 + 15)), (1, .int (0 : Int32))]) dX9_putInOrder_1 (Nat.le_of_ble_eq_true rfl) rfl ?_
  exact wX9_putInOrder_l2 F F V0 V1 V2 V3 V4 V5 V6 V7 (0 : Int32) _ h
set_option maxRecDepth 100000 in
set_option maxHeartbeats 4000000 in
theorem wX6_openRule_b50 {w : zW} (F : Nat) (V0 V1 V2 V3 V4 V5 V6 V7 : zV) (res : zV) (h : fX6_openRule_b50 F V1 V4 = some res) : zR w kX6_openRule 2 0 0 none (zE zds w [V0, V1, V2, V3, res, V5, V6, V7]) 50 [(0, .ref (w.1 + 28))] [] (zE zds w [V0, V1, V2, V3, V4, V5, V6, V7]) := by
  unfold fX6_openRule_b50 at h
  refine zR_aload_n dX6_openRule_50 0 rfl ?_
  refine zG_getR dX6_openRule_51 zf_X6_32 zd_28 rfl rfl ?_
  refine zR_aload_n dX6_openRule_54 0 rfl ?_
  refine zG_getI dX6_openRule_55 zf_X6_23 zd_28 rfl rfl ?_
  refine zR_iconst (x := (-1 : Int32)) dX6_openRule_58 (by decide) ?_
  obtain ⟨g1, h⟩ := zchk_some h
  obtain ⟨V4_2, e3, h⟩ := zlet_some h
  refine zG_iast zds_ok dX6_openRule_59 zd_33 rfl rfl g1 e3 rfl ?_
  refine zR_aload_n dX6_openRule_60 0 rfl ?_
  refine zG_getR dX6_openRule_61 zf_X6_35 zd_28 rfl rfl ?_
  refine zR_aload_n dX6_openRule_64 0 rfl ?_
  refine zG_getI dX6_openRule_65 zf_X6_23 zd_28 rfl rfl ?_
  refine zR_sipush (x := (1000 : Int32)) dX6_openRule_68 rfl ?_
  obtain ⟨g4, h⟩ := zchk_some h
  obtain ⟨V4_5, e6, h⟩ := zlet_some h
  refine zG_iast zds_ok dX6_openRule_71 zd_34 rfl rfl g4 e6 rfl ?_
  refine zR_aload_n dX6_openRule_72 0 rfl ?_
  refine zG_getR dX6_openRule_73 zf_X6_38 zd_28 rfl rfl ?_
  refine zR_aload_n dX6_openRule_76 0 rfl ?_
  refine zG_getI dX6_openRule_77 zf_X6_23 zd_28 rfl rfl ?_
  refine zR_iconst (x := (0 : Int32)) dX6_openRule_80 rfl ?_
  obtain ⟨g7, h⟩ := zchk_some h
  obtain ⟨V4_8, e9, h⟩ := zlet_some h
  refine zG_zast zds_ok dX6_openRule_81 zd_35 rfl rfl g7 e9 rfl ?_
  refine zR_aload_n dX6_openRule_82 0 rfl ?_
  refine zG_getR dX6_openRule_83 zf_X6_42 zd_28 rfl rfl ?_
  refine zR_aload_n dX6_openRule_86 0 rfl ?_
  refine zG_getI dX6_openRule_87 zf_X6_23 zd_28 rfl rfl ?_
  refine zR_iconst (x := (0 : Int32)) dX6_openRule_90 rfl ?_
  obtain ⟨g10, h⟩ := zchk_some h
  obtain ⟨V4_11, e12, h⟩ := zlet_some h
  refine zG_zast zds_ok dX6_openRule_91 zd_36 rfl rfl g10 e12 rfl ?_
  have h := Option.some.inj h
  subst h
  exact zR_ret dX6_openRule_92 rfl
set_option maxRecDepth 100000 in
set_option maxHeartbeats 4000000 in
theorem wX6_openRule_b49 {w : zW} (F : Nat) (V0 V1 V2 V3 V4 V5 V6 V7 : zV) (s1 : Int32) (s2 : Int32) (res : zV) (h : fX6_openRule_b49 F V1 V4 s1 s2 = some res) : zR w kX6_openRule 2 0 0 none (zE zds w [V0, V1, V2, V3, res, V5, V6, V7]) 49 [(0, .ref (w.1 + 28))] [.int s2, .int s1, .ref (w.1 + 32)] (zE zds w [V0, V1, V2, V3, V4, V5, V6, V7]) := by
  unfold fX6_openRule_b49 at h
  obtain ⟨g13, h⟩ := zchk_some h
  obtain ⟨V4_14, e15, h⟩ := zlet_some h
  refine zG_iast zds_ok dX6_openRule_49 zd_32 rfl rfl g13 e15 rfl ?_
  exact wX6_openRule_b50 F V0 V1 V2 V3 V4_14 V5 V6 V7 _ h
set_option maxRecDepth 100000 in
set_option maxHeartbeats 4000000 in
theorem mX6_openRule {w : zW} (F : Nat) (V0 V1 V2 V3 V4 V5 V6 V7 : zV) (x2 : Int32) (res : zV) (h : fX6_openRule F V1 V4 x2 = some res) : zMet w kX6_openRule 2 0 0 [.ref (w.1 + 28), .ref (w.1 + 2), .int x2] (zE zds w [V0, V1, V2, V3, V4, V5, V6, V7]) none (zE zds w [V0, V1, V2, V3, res, V5, V6, V7]) := by
  refine zMet_of (by decide) (Nat.le_of_ble_eq_true rfl) (Nat.le_refl 0) fun _ => ?_
  show zR w kX6_openRule 2 0 0 none (zE zds w [V0, V1, V2, V3, res, V5, V6, V7]) 0 [(0, .ref (w.1 + 28)), (1, .ref (w.1 + 2)), (2, .int x2)] [] (zE zds w [V0, V1, V2, V3, V4, V5, V6, V7])
  unfold fX6_openRule at h
  refine zR_aload_n dX6_openRule_0 1 rfl ?_
  refine zR_iload_n dX6_openRule_1 2 rfl ?_
  obtain ⟨q16, hq17, h⟩ := zbd_some h
  refine zR_cV (rest := []) (st1 := [.int q16]) dX6_openRule_2 (mX10_kindAt F V0 V1 V2 V3 V4 V5 V6 V7 x2 _ hq17) zc_X6_62 rfl (zE_at zd_2) ⟨_, _, rfl⟩ rfl (Nat.le_of_ble_eq_true rfl) (Nat.le_of_ble_eq_true rfl) rfl ?_
  refine zR_istore_n (lv' := [(0, .ref (w.1 + 28)), (1, .ref (w.1 + 2)), (2, .int x2), (3, .int q16)]) dX6_openRule_5 (Nat.le_of_ble_eq_true rfl) rfl ?_
  refine zR_iload_n dX6_openRule_6 3 rfl ?_
  refine zR_bipush (x := (27 : Int32)) dX6_openRule_7 rfl ?_
  by_cases c18 : q16 = (27 : Int32)
  · have h := zif_t h c18
    refine zR_icmp_ne_f (tgt := 29) dX6_openRule_9 (by decide) c18 ?_
    refine zR_aload_n dX6_openRule_12 0 rfl ?_
    refine zG_getR dX6_openRule_13 zf_X6_29 zd_28 rfl rfl ?_
    refine zR_aload_n dX6_openRule_16 0 rfl ?_
    refine zG_getI dX6_openRule_17 zf_X6_23 zd_28 rfl rfl ?_
    refine zR_aload_n dX6_openRule_20 1 rfl ?_
    refine zR_iload_n dX6_openRule_21 2 rfl ?_
    obtain ⟨q20, hq21, h⟩ := zbd_some h
    refine zR_cV (rest := [.int (zI V4 13 3), .ref (w.1 + 32)]) (st1 := [.int q20, .int (zI V4 13 3), .ref (w.1 + 32)]) dX6_openRule_22 (mX10_numberAt F V0 V1 V2 V3 V4 V5 V6 V7 x2 _ hq21) zc_X6_66 rfl (zE_at zd_2) ⟨_, _, rfl⟩ rfl (Nat.le_of_ble_eq_true rfl) (Nat.le_of_ble_eq_true rfl) rfl ?_
    obtain ⟨g22, h⟩ := zchk_some h
    obtain ⟨V4_23, e24, h⟩ := zlet_some h
    refine zG_iast zds_ok dX6_openRule_25 zd_32 rfl rfl g22 e24 rfl ?_
    refine zR_goto (tgt := 50) dX6_openRule_26 (by decide) ?_
    refine zR_sub (lv' := [(0, .ref (w.1 + 28))]) [0] rfl ?_
    exact wX6_openRule_b50 F V0 V1 V2 V3 V4_23 V5 V6 V7 _ h
  · have h := zif_f h c18
    refine zR_icmp_ne_t (tgt := 29) dX6_openRule_9 (by decide) c18 ?_
    refine zR_aload_n dX6_openRule_29 0 rfl ?_
    refine zG_getR dX6_openRule_30 zf_X6_29 zd_28 rfl rfl ?_
    refine zR_aload_n dX6_openRule_33 0 rfl ?_
    refine zG_getI dX6_openRule_34 zf_X6_23 zd_28 rfl rfl ?_
    refine zR_iload_n dX6_openRule_37 3 rfl ?_
    refine zR_bipush (x := (12 : Int32)) dX6_openRule_38 rfl ?_
    by_cases c19 : q16 = (12 : Int32)
    · have h := zif_t h c19
      refine zR_icmp_ne_f (tgt := 47) dX6_openRule_40 (by decide) c19 ?_
      refine zR_iconst (x := (-1 : Int32)) dX6_openRule_43 (by decide) ?_
      refine zR_goto (tgt := 49) dX6_openRule_44 (by decide) ?_
      refine zR_sub (lv' := [(0, .ref (w.1 + 28))]) [0] rfl ?_
      exact wX6_openRule_b49 F V0 V1 V2 V3 V4 V5 V6 V7 (zI V4 13 3) (-1 : Int32) _ h
    · have h := zif_f h c19
      refine zR_icmp_ne_t (tgt := 47) dX6_openRule_40 (by decide) c19 ?_
      refine zR_bipush (x := (-2 : Int32)) dX6_openRule_47 (by decide) ?_
      refine zR_sub (lv' := [(0, .ref (w.1 + 28))]) [0] rfl ?_
      exact wX6_openRule_b49 F V0 V1 V2 V3 V4 V5 V6 V7 (zI V4 13 3) (-2 : Int32) _ h
set_option maxRecDepth 100000 in
set_option maxHeartbeats 4000000 in
theorem mX6_nodeOf {w : zW} (F : Nat) (S : zS) (x0 : Int32) (x1 : Int32) (res : Int32) (h : fX6_nodeOf F x0 x1 = some res) : zMet w kX6_nodeOf 0 0 0 [.int x0, .int x1] S (some (.int res)) S := by
  refine zMet_of (by decide) (Nat.le_of_ble_eq_true rfl) (Nat.le_refl 0) fun _ => ?_
  show zR w kX6_nodeOf 0 0 0 (some (.int res)) S 0 [(0, .int x0), (1, .int x1)] [] S
  unfold fX6_nodeOf at h
  refine zR_iload_n dX6_nodeOf_0 1 rfl ?_
  refine zR_iconst (x := (-1 : Int32)) dX6_nodeOf_1 (by decide) ?_
  by_cases c1 : x1 = (-1 : Int32)
  · have h := zif_t h c1
    refine zR_icmp_ne_f (tgt := 11) dX6_nodeOf_2 (by decide) c1 ?_
    refine zR_iconst (x := (2 : Int32)) dX6_nodeOf_5 rfl ?_
    refine zR_iload_n dX6_nodeOf_6 0 rfl ?_
    refine zR_imul dX6_nodeOf_7 ?_
    refine zR_goto (tgt := 16) dX6_nodeOf_8 (by decide) ?_
    have h := Option.some.inj h
    subst h
    exact zR_iret (x := ((2 : Int32) * x0)) dX6_nodeOf_16 rfl rfl
  · have h := zif_f h c1
    refine zR_icmp_ne_t (tgt := 11) dX6_nodeOf_2 (by decide) c1 ?_
    refine zR_iconst (x := (2 : Int32)) dX6_nodeOf_11 rfl ?_
    refine zR_iload_n dX6_nodeOf_12 0 rfl ?_
    refine zR_imul dX6_nodeOf_13 ?_
    refine zR_iconst (x := (1 : Int32)) dX6_nodeOf_14 rfl ?_
    refine zR_iadd dX6_nodeOf_15 ?_
    have h := Option.some.inj h
    subst h
    exact zR_iret (x := (((2 : Int32) * x0) + (1 : Int32))) dX6_nodeOf_16 rfl rfl
set_option maxRecDepth 100000 in
set_option maxHeartbeats 4000000 in
theorem mX6_addLead {w : zW} (F : Nat) (V0 V1 V2 V3 V4 V5 V6 V7 : zV) (x1 : Int32) (x2 : Int32) (res : zV) (h : fX6_addLead F V4 x1 x2 = some res) : zMet w kX6_addLead 0 0 0 [.ref (w.1 + 28), .int x1, .int x2] (zE zds w [V0, V1, V2, V3, V4, V5, V6, V7]) none (zE zds w [V0, V1, V2, V3, res, V5, V6, V7]) := by
  refine zMet_of (by decide) (Nat.le_of_ble_eq_true rfl) (Nat.le_refl 0) fun _ => ?_
  show zR w kX6_addLead 0 0 0 none (zE zds w [V0, V1, V2, V3, res, V5, V6, V7]) 0 [(0, .ref (w.1 + 28)), (1, .int x1), (2, .int x2)] [] (zE zds w [V0, V1, V2, V3, V4, V5, V6, V7])
  unfold fX6_addLead at h
  refine zR_iload_n dX6_addLead_0 1 rfl ?_
  by_cases c1 : x1 < 0
  · have h := zif_t h c1
    refine zR_if_lt_t (tgt := 38) dX6_addLead_1 (by decide) c1 ?_
    have h := Option.some.inj h
    subst h
    exact zR_ret dX6_addLead_38 rfl
  · have h := zif_f h c1
    refine zR_if_lt_f (tgt := 38) dX6_addLead_1 (by decide) c1 ?_
    refine zR_iload_n dX6_addLead_4 1 rfl ?_
    refine zR_aload_n dX6_addLead_5 0 rfl ?_
    refine zG_getR dX6_addLead_6 zf_X6_45 zd_28 rfl rfl ?_
    refine zG_alen (u := (24 : Int32)) dX6_addLead_9 zd_37 (Nat.le_of_ble_eq_true rfl) rfl rfl rfl ?_
    by_cases c2 : (24 : Int32) ≤ x1
    · have h := zif_t h c2
      refine zR_icmp_ge_t (tgt := 38) dX6_addLead_10 (by decide) c2 ?_
      have h := Option.some.inj h
      subst h
      exact zR_ret dX6_addLead_38 rfl
    · have h := zif_f h c2
      refine zR_icmp_ge_f (tgt := 38) dX6_addLead_10 (by decide) c2 ?_
      refine zR_iload_n dX6_addLead_13 2 rfl ?_
      by_cases c3 : x2 < 0
      · have h := zif_t h c3
        refine zR_if_lt_t (tgt := 38) dX6_addLead_14 (by decide) c3 ?_
        have h := Option.some.inj h
        subst h
        exact zR_ret dX6_addLead_38 rfl
      · have h := zif_f h c3
        refine zR_if_lt_f (tgt := 38) dX6_addLead_14 (by decide) c3 ?_
        refine zR_iload_n dX6_addLead_17 2 rfl ?_
        refine zR_aload_n dX6_addLead_18 0 rfl ?_
        refine zG_getR dX6_addLead_19 zf_X6_45 zd_28 rfl rfl ?_
        refine zG_alen (u := (24 : Int32)) dX6_addLead_22 zd_37 (Nat.le_of_ble_eq_true rfl) rfl rfl rfl ?_
        by_cases c4 : (24 : Int32) ≤ x2
        · have h := zif_t h c4
          refine zR_icmp_ge_t (tgt := 38) dX6_addLead_23 (by decide) c4 ?_
          have h := Option.some.inj h
          subst h
          exact zR_ret dX6_addLead_38 rfl
        · have h := zif_f h c4
          refine zR_icmp_ge_f (tgt := 38) dX6_addLead_23 (by decide) c4 ?_
          refine zR_aload_n dX6_addLead_26 0 rfl ?_
          refine zG_getR dX6_addLead_27 zf_X6_45 zd_28 rfl rfl ?_
          refine zR_iload_n dX6_addLead_30 1 rfl ?_
          refine zR_dup2 dX6_addLead_31 rfl rfl ?_
          obtain ⟨g5, h⟩ := zchk_some h
          refine zG_iald dX6_addLead_32 zd_37 rfl rfl g5 ?_
          refine zR_iconst (x := (1 : Int32)) dX6_addLead_33 rfl ?_
          refine zR_iload_n dX6_addLead_34 2 rfl ?_
          refine zR_ishl dX6_addLead_35 ?_
          refine zR_ior dX6_addLead_36 ?_
          obtain ⟨g6, h⟩ := zchk_some h
          obtain ⟨V4_7, e8, h⟩ := zlet_some h
          refine zG_iast zds_ok dX6_addLead_37 zd_37 rfl rfl g6 e8 rfl ?_
          have h := Option.some.inj h
          subst h
          exact zR_ret dX6_addLead_38 rfl
set_option maxRecDepth 100000 in
set_option maxHeartbeats 4000000 in
theorem wX6_takeIntoRule_b162 {w : zW} (F : Nat) (V0 V1 V2 V3 V4 V5 V6 V7 : zV) (x1 : Int32) (x4 : Int32) (x5 : Int32) (res : zV) (h : fX6_takeIntoRule_b162 F V4 x1 x4 x5 = some res) : zR w kX6_takeIntoRule 1 0 0 none (zE zds w [V0, V1, V2, V3, res, V5, V6, V7]) 162 [(0, .ref (w.1 + 28)), (1, .int x1), (4, .int x4), (5, .int x5)] [] (zE zds w [V0, V1, V2, V3, V4, V5, V6, V7]) := by
  unfold fX6_takeIntoRule_b162 at h
  refine zR_aload_n dX6_takeIntoRule_162 0 rfl ?_
  refine zG_getR dX6_takeIntoRule_163 zf_X6_29 zd_28 rfl rfl ?_
  refine zR_iload_n dX6_takeIntoRule_166 1 rfl ?_
  obtain ⟨g1, h⟩ := zchk_some h
  refine zG_iald dX6_takeIntoRule_167 zd_32 rfl rfl g1 ?_
  by_cases c2 : 0 ≤ (zA V4 17 (x1).toNatClampNeg)
  · have h := zif_t h c2
    refine zR_if_ge_t (tgt := 200) dX6_takeIntoRule_168 (by decide) c2 ?_
    have h := Option.some.inj h
    subst h
    exact zR_ret dX6_takeIntoRule_200 rfl
  · have h := zif_f h c2
    refine zR_if_ge_f (tgt := 200) dX6_takeIntoRule_168 (by decide) c2 ?_
    refine zR_iload dX6_takeIntoRule_171 3 rfl ?_
    refine zR_bipush (x := (19 : Int32)) dX6_takeIntoRule_173 rfl ?_
    by_cases c3 : x5 = (19 : Int32)
    · have h := zif_t h c3
      refine zR_icmp_ne_f (tgt := 200) dX6_takeIntoRule_175 (by decide) c3 ?_
      refine zR_aload_n dX6_takeIntoRule_178 0 rfl ?_
      refine zR_iload dX6_takeIntoRule_179 2 rfl ?_
      refine zR_aload_n dX6_takeIntoRule_181 0 rfl ?_
      refine zG_getR dX6_takeIntoRule_182 zf_X6_29 zd_28 rfl rfl ?_
      refine zR_iload_n dX6_takeIntoRule_185 1 rfl ?_
      obtain ⟨g4, h⟩ := zchk_some h
      refine zG_iald dX6_takeIntoRule_186 zd_32 rfl rfl g4 ?_
      obtain ⟨q5, hq6, h⟩ := zbd_some h
      refine zR_cS (rest := [.ref (w.1 + 28)]) (st1 := [.int q5, .ref (w.1 + 28)]) dX6_takeIntoRule_187 (mX6_nodeOf F (zE zds w [V0, V1, V2, V3, V4, V5, V6, V7]) x4 (zA V4 17 (x1).toNatClampNeg) _ hq6) zc_X6_81 rfl rfl (Nat.le_of_ble_eq_true rfl) (Nat.le_of_ble_eq_true rfl) rfl ?_
      refine zR_iload dX6_takeIntoRule_190 2 rfl ?_
      refine zR_bipush (x := (-2 : Int32)) dX6_takeIntoRule_192 (by decide) ?_
      obtain ⟨q7, hq8, h⟩ := zbd_some h
      refine zR_cS (rest := [.int q5, .ref (w.1 + 28)]) (st1 := [.int q7, .int q5, .ref (w.1 + 28)]) dX6_takeIntoRule_194 (mX6_nodeOf F (zE zds w [V0, V1, V2, V3, V4, V5, V6, V7]) x4 (-2 : Int32) _ hq8) zc_X6_81 rfl rfl (Nat.le_of_ble_eq_true rfl) (Nat.le_of_ble_eq_true rfl) rfl ?_
      obtain ⟨q9, hq10, h⟩ := zbd_some h
      refine zR_cV (rest := []) (st1 := []) dX6_takeIntoRule_197 (mX6_addLead F V0 V1 V2 V3 V4 V5 V6 V7 q5 q7 _ hq10) zc_X6_84 rfl (zE_at zd_28) ⟨_, _, rfl⟩ rfl (Nat.le_of_ble_eq_true rfl) (Nat.le_of_ble_eq_true rfl) rfl ?_
      have h := Option.some.inj h
      subst h
      exact zR_ret dX6_takeIntoRule_200 rfl
    · have h := zif_f h c3
      refine zR_icmp_ne_t (tgt := 200) dX6_takeIntoRule_175 (by decide) c3 ?_
      have h := Option.some.inj h
      subst h
      exact zR_ret dX6_takeIntoRule_200 rfl
set_option maxRecDepth 100000 in
set_option maxHeartbeats 4000000 in
theorem wX6_takeIntoRule_b123 {w : zW} (F : Nat) (V0 V1 V2 V3 V4 V5 V6 V7 : zV) (x1 : Int32) (x3 : Int32) (x4 : Int32) (x5 : Int32) (res : zV) (h : fX6_takeIntoRule_b123 F V4 x1 x3 x4 x5 = some res) : zR w kX6_takeIntoRule 1 0 0 none (zE zds w [V0, V1, V2, V3, res, V5, V6, V7]) 123 [(0, .ref (w.1 + 28)), (1, .int x1), (3, .int x3), (4, .int x4), (5, .int x5)] [] (zE zds w [V0, V1, V2, V3, V4, V5, V6, V7]) := by
  unfold fX6_takeIntoRule_b123 at h
  refine zR_aload_n dX6_takeIntoRule_123 0 rfl ?_
  refine zG_getR dX6_takeIntoRule_124 zf_X6_29 zd_28 rfl rfl ?_
  refine zR_iload_n dX6_takeIntoRule_127 1 rfl ?_
  obtain ⟨g11, h⟩ := zchk_some h
  refine zG_iald dX6_takeIntoRule_128 zd_32 rfl rfl g11 ?_
  by_cases c12 : 0 ≤ (zA V4 17 (x1).toNatClampNeg)
  · have h := zif_t h c12
    refine zR_if_ge_t (tgt := 162) dX6_takeIntoRule_129 (by decide) c12 ?_
    refine zR_sub (lv' := [(0, .ref (w.1 + 28)), (1, .int x1), (4, .int x4), (5, .int x5)]) [0, 1, 3, 4] rfl ?_
    exact wX6_takeIntoRule_b162 F V0 V1 V2 V3 V4 V5 V6 V7 x1 x4 x5 _ h
  · have h := zif_f h c12
    refine zR_if_ge_f (tgt := 162) dX6_takeIntoRule_129 (by decide) c12 ?_
    refine zR_iload dX6_takeIntoRule_132 4 rfl ?_
    refine zR_bipush (x := (18 : Int32)) dX6_takeIntoRule_134 rfl ?_
    by_cases c13 : x5 = (18 : Int32)
    · have h := zif_t h c13
      refine zR_icmp_ne_f (tgt := 162) dX6_takeIntoRule_136 (by decide) c13 ?_
      refine zR_aload_n dX6_takeIntoRule_139 0 rfl ?_
      refine zR_iload dX6_takeIntoRule_140 3 rfl ?_
      refine zR_aload_n dX6_takeIntoRule_142 0 rfl ?_
      refine zG_getR dX6_takeIntoRule_143 zf_X6_29 zd_28 rfl rfl ?_
      refine zR_iload_n dX6_takeIntoRule_146 1 rfl ?_
      obtain ⟨g14, h⟩ := zchk_some h
      refine zG_iald dX6_takeIntoRule_147 zd_32 rfl rfl g14 ?_
      obtain ⟨q15, hq16, h⟩ := zbd_some h
      refine zR_cS (rest := [.ref (w.1 + 28)]) (st1 := [.int q15, .ref (w.1 + 28)]) dX6_takeIntoRule_148 (mX6_nodeOf F (zE zds w [V0, V1, V2, V3, V4, V5, V6, V7]) x4 (zA V4 17 (x1).toNatClampNeg) _ hq16) zc_X6_81 rfl rfl (Nat.le_of_ble_eq_true rfl) (Nat.le_of_ble_eq_true rfl) rfl ?_
      refine zR_iload_n dX6_takeIntoRule_151 2 rfl ?_
      refine zR_iconst (x := (-1 : Int32)) dX6_takeIntoRule_152 (by decide) ?_
      obtain ⟨q17, hq18, h⟩ := zbd_some h
      refine zR_cS (rest := [.int q15, .ref (w.1 + 28)]) (st1 := [.int q17, .int q15, .ref (w.1 + 28)]) dX6_takeIntoRule_153 (mX6_nodeOf F (zE zds w [V0, V1, V2, V3, V4, V5, V6, V7]) x3 (-1 : Int32) _ hq18) zc_X6_81 rfl rfl (Nat.le_of_ble_eq_true rfl) (Nat.le_of_ble_eq_true rfl) rfl ?_
      obtain ⟨q19, hq20, h⟩ := zbd_some h
      refine zR_cV (rest := []) (st1 := []) dX6_takeIntoRule_156 (mX6_addLead F V0 V1 V2 V3 V4 V5 V6 V7 q15 q17 _ hq20) zc_X6_84 rfl (zE_at zd_28) ⟨_, _, rfl⟩ rfl (Nat.le_of_ble_eq_true rfl) (Nat.le_of_ble_eq_true rfl) rfl ?_
      refine zR_goto (tgt := 200) dX6_takeIntoRule_159 (by decide) ?_
      have h := Option.some.inj h
      subst h
      exact zR_ret dX6_takeIntoRule_200 rfl
    · have h := zif_f h c13
      refine zR_icmp_ne_t (tgt := 162) dX6_takeIntoRule_136 (by decide) c13 ?_
      refine zR_sub (lv' := [(0, .ref (w.1 + 28)), (1, .int x1), (4, .int x4), (5, .int x5)]) [0, 1, 3, 4] rfl ?_
      exact wX6_takeIntoRule_b162 F V0 V1 V2 V3 V4 V5 V6 V7 x1 x4 x5 _ h
set_option maxRecDepth 100000 in
set_option maxHeartbeats 4000000 in
theorem wX6_takeIntoRule_b116 {w : zW} (F : Nat) (V0 V1 V2 V3 V4 V5 V6 V7 : zV) (x1 : Int32) (x3 : Int32) (x4 : Int32) (x5 : Int32) (res : zV) (h : fX6_takeIntoRule_b116 F V4 x1 x3 x4 x5 = some res) : zR w kX6_takeIntoRule 1 0 0 none (zE zds w [V0, V1, V2, V3, res, V5, V6, V7]) 116 [(0, .ref (w.1 + 28)), (1, .int x1), (3, .int x3), (4, .int x4), (5, .int x5)] [] (zE zds w [V0, V1, V2, V3, V4, V5, V6, V7]) := by
  unfold fX6_takeIntoRule_b116 at h
  refine zR_aload_n dX6_takeIntoRule_116 0 rfl ?_
  refine zG_getR dX6_takeIntoRule_117 zf_X6_38 zd_28 rfl rfl ?_
  refine zR_iload_n dX6_takeIntoRule_120 1 rfl ?_
  refine zR_iconst (x := (1 : Int32)) dX6_takeIntoRule_121 rfl ?_
  obtain ⟨g21, h⟩ := zchk_some h
  obtain ⟨V4_22, e23, h⟩ := zlet_some h
  refine zG_zast zds_ok dX6_takeIntoRule_122 zd_35 rfl rfl g21 e23 rfl ?_
  exact wX6_takeIntoRule_b123 F V0 V1 V2 V3 V4_22 V5 V6 V7 x1 x3 x4 x5 _ h
set_option maxRecDepth 100000 in
set_option maxHeartbeats 4000000 in
theorem mX6_takeIntoRule {w : zW} (F : Nat) (V0 V1 V2 V3 V4 V5 V6 V7 : zV) (x1 : Int32) (x2 : Int32) (x3 : Int32) (x4 : Int32) (res : zV) (h : fX6_takeIntoRule F V4 x1 x2 x3 x4 = some res) : zMet w kX6_takeIntoRule 1 0 0 [.ref (w.1 + 28), .int x1, .int x2, .int x3, .int x4] (zE zds w [V0, V1, V2, V3, V4, V5, V6, V7]) none (zE zds w [V0, V1, V2, V3, res, V5, V6, V7]) := by
  refine zMet_of (by decide) (Nat.le_of_ble_eq_true rfl) (Nat.le_refl 0) fun _ => ?_
  show zR w kX6_takeIntoRule 1 0 0 none (zE zds w [V0, V1, V2, V3, res, V5, V6, V7]) 0 [(0, .ref (w.1 + 28)), (1, .int x1), (2, .int x2), (3, .int x3), (4, .int x4)] [] (zE zds w [V0, V1, V2, V3, V4, V5, V6, V7])
  unfold fX6_takeIntoRule at h
  refine zR_iload_n dX6_takeIntoRule_0 1 rfl ?_
  by_cases c24 : x1 < 0
  · have h := zif_t h c24
    refine zR_if_lt_t (tgt := 31) dX6_takeIntoRule_1 (by decide) c24 ?_
    have h := Option.some.inj h
    subst h
    exact zR_ret dX6_takeIntoRule_31 rfl
  · have h := zif_f h c24
    refine zR_if_lt_f (tgt := 31) dX6_takeIntoRule_1 (by decide) c24 ?_
    refine zR_iload_n dX6_takeIntoRule_4 1 rfl ?_
    refine zR_aload_n dX6_takeIntoRule_5 0 rfl ?_
    refine zG_getR dX6_takeIntoRule_6 zf_X6_29 zd_28 rfl rfl ?_
    refine zG_alen (u := (80 : Int32)) dX6_takeIntoRule_9 zd_32 (Nat.le_of_ble_eq_true rfl) rfl rfl rfl ?_
    by_cases c25 : (80 : Int32) ≤ x1
    · have h := zif_t h c25
      refine zR_icmp_ge_t (tgt := 31) dX6_takeIntoRule_10 (by decide) c25 ?_
      have h := Option.some.inj h
      subst h
      exact zR_ret dX6_takeIntoRule_31 rfl
    · have h := zif_f h c25
      refine zR_icmp_ge_f (tgt := 31) dX6_takeIntoRule_10 (by decide) c25 ?_
      refine zR_iload dX6_takeIntoRule_13 4 rfl ?_
      by_cases c26 : x4 < 0
      · have h := zif_t h c26
        refine zR_if_lt_t (tgt := 31) dX6_takeIntoRule_15 (by decide) c26 ?_
        have h := Option.some.inj h
        subst h
        exact zR_ret dX6_takeIntoRule_31 rfl
      · have h := zif_f h c26
        refine zR_if_lt_f (tgt := 31) dX6_takeIntoRule_15 (by decide) c26 ?_
        refine zR_iload_n dX6_takeIntoRule_18 2 rfl ?_
        by_cases c27 : x2 < 0
        · have h := zif_t h c27
          refine zR_if_lt_t (tgt := 31) dX6_takeIntoRule_19 (by decide) c27 ?_
          have h := Option.some.inj h
          subst h
          exact zR_ret dX6_takeIntoRule_31 rfl
        · have h := zif_f h c27
          refine zR_if_lt_f (tgt := 31) dX6_takeIntoRule_19 (by decide) c27 ?_
          refine zR_iload_n dX6_takeIntoRule_22 2 rfl ?_
          refine zR_aload_n dX6_takeIntoRule_23 0 rfl ?_
          refine zG_getR dX6_takeIntoRule_24 zf_X6_9 zd_28 rfl rfl ?_
          refine zG_alen (u := (1000 : Int32)) dX6_takeIntoRule_27 zd_29 (Nat.le_of_ble_eq_true rfl) rfl rfl rfl ?_
          by_cases c28 : x2 < (1000 : Int32)
          · have h := zif_t h c28
            refine zR_icmp_lt_t (tgt := 32) dX6_takeIntoRule_28 (by decide) c28 ?_
            refine zR_aload_n dX6_takeIntoRule_32 0 rfl ?_
            refine zG_getR dX6_takeIntoRule_33 zf_X6_9 zd_28 rfl rfl ?_
            refine zR_iload_n dX6_takeIntoRule_36 2 rfl ?_
            obtain ⟨g29, h⟩ := zchk_some h
            refine zG_bald dX6_takeIntoRule_37 zd_29 rfl rfl g29 ?_
            obtain ⟨y30, e31, h⟩ := zlet_some h
            refine zR_nmI e31 ?_
            refine zR_istore (lv' := [(0, .ref (w.1 + 28)), (1, .int x1), (2, .int x2), (3, .int x3), (4, .int x4), (5, .int y30)]) dX6_takeIntoRule_38 (Nat.le_of_ble_eq_true rfl) rfl ?_
            refine zR_iload dX6_takeIntoRule_40 5 rfl ?_
            refine zR_bipush (x := (14 : Int32)) dX6_takeIntoRule_42 rfl ?_
            by_cases c32 : y30 = (14 : Int32)
            · have h := zif_t h c32
              refine zR_icmp_ne_f (tgt := 59) dX6_takeIntoRule_44 (by decide) c32 ?_
              refine zR_aload_n dX6_takeIntoRule_47 0 rfl ?_
              refine zG_getR dX6_takeIntoRule_48 zf_X6_32 zd_28 rfl rfl ?_
              refine zR_iload_n dX6_takeIntoRule_51 1 rfl ?_
              refine zR_iload_n dX6_takeIntoRule_52 2 rfl ?_
              refine zR_iconst (x := (1 : Int32)) dX6_takeIntoRule_53 rfl ?_
              refine zR_iadd dX6_takeIntoRule_54 ?_
              obtain ⟨g44, h⟩ := zchk_some h
              obtain ⟨V4_45, e46, h⟩ := zlet_some h
              refine zG_iast zds_ok dX6_takeIntoRule_55 zd_33 rfl rfl g44 e46 rfl ?_
              refine zR_goto (tgt := 123) dX6_takeIntoRule_56 (by decide) ?_
              refine zR_sub (lv' := [(0, .ref (w.1 + 28)), (1, .int x1), (3, .int x3), (4, .int x4), (5, .int y30)]) [0, 1, 3, 4, 5] rfl ?_
              exact wX6_takeIntoRule_b123 F V0 V1 V2 V3 V4_45 V5 V6 V7 x1 x3 x4 y30 _ h
            · have h := zif_f h c32
              refine zR_icmp_ne_t (tgt := 59) dX6_takeIntoRule_44 (by decide) c32 ?_
              refine zR_iload dX6_takeIntoRule_59 5 rfl ?_
              refine zR_bipush (x := (30 : Int32)) dX6_takeIntoRule_61 rfl ?_
              by_cases c33 : y30 = (30 : Int32)
              · have h := zif_t h c33
                refine zR_icmp_ne_f (tgt := 78) dX6_takeIntoRule_63 (by decide) c33 ?_
                refine zR_aload_n dX6_takeIntoRule_66 0 rfl ?_
                refine zG_getR dX6_takeIntoRule_67 zf_X6_35 zd_28 rfl rfl ?_
                refine zR_iload_n dX6_takeIntoRule_70 1 rfl ?_
                refine zR_iload_n dX6_takeIntoRule_71 2 rfl ?_
                refine zR_iconst (x := (1 : Int32)) dX6_takeIntoRule_72 rfl ?_
                refine zR_iadd dX6_takeIntoRule_73 ?_
                obtain ⟨g41, h⟩ := zchk_some h
                obtain ⟨V4_42, e43, h⟩ := zlet_some h
                refine zG_iast zds_ok dX6_takeIntoRule_74 zd_34 rfl rfl g41 e43 rfl ?_
                refine zR_goto (tgt := 123) dX6_takeIntoRule_75 (by decide) ?_
                refine zR_sub (lv' := [(0, .ref (w.1 + 28)), (1, .int x1), (3, .int x3), (4, .int x4), (5, .int y30)]) [0, 1, 3, 4, 5] rfl ?_
                exact wX6_takeIntoRule_b123 F V0 V1 V2 V3 V4_42 V5 V6 V7 x1 x3 x4 y30 _ h
              · have h := zif_f h c33
                refine zR_icmp_ne_t (tgt := 78) dX6_takeIntoRule_63 (by decide) c33 ?_
                refine zR_iload dX6_takeIntoRule_78 5 rfl ?_
                refine zR_bipush (x := (21 : Int32)) dX6_takeIntoRule_80 rfl ?_
                by_cases c34 : y30 = (21 : Int32)
                · have h := zif_t h c34
                  refine zR_icmp_ne_f (tgt := 95) dX6_takeIntoRule_82 (by decide) c34 ?_
                  refine zR_aload_n dX6_takeIntoRule_85 0 rfl ?_
                  refine zG_getR dX6_takeIntoRule_86 zf_X6_42 zd_28 rfl rfl ?_
                  refine zR_iload_n dX6_takeIntoRule_89 1 rfl ?_
                  refine zR_iconst (x := (1 : Int32)) dX6_takeIntoRule_90 rfl ?_
                  obtain ⟨g38, h⟩ := zchk_some h
                  obtain ⟨V4_39, e40, h⟩ := zlet_some h
                  refine zG_zast zds_ok dX6_takeIntoRule_91 zd_36 rfl rfl g38 e40 rfl ?_
                  refine zR_goto (tgt := 123) dX6_takeIntoRule_92 (by decide) ?_
                  refine zR_sub (lv' := [(0, .ref (w.1 + 28)), (1, .int x1), (3, .int x3), (4, .int x4), (5, .int y30)]) [0, 1, 3, 4, 5] rfl ?_
                  exact wX6_takeIntoRule_b123 F V0 V1 V2 V3 V4_39 V5 V6 V7 x1 x3 x4 y30 _ h
                · have h := zif_f h c34
                  refine zR_icmp_ne_t (tgt := 95) dX6_takeIntoRule_82 (by decide) c34 ?_
                  refine zR_iload dX6_takeIntoRule_95 5 rfl ?_
                  refine zR_bipush (x := (16 : Int32)) dX6_takeIntoRule_97 rfl ?_
                  by_cases c35 : y30 = (16 : Int32)
                  · have h := zif_t h c35
                    refine zR_icmp_eq_t (tgt := 116) dX6_takeIntoRule_99 (by decide) c35 ?_
                    refine zR_sub (lv' := [(0, .ref (w.1 + 28)), (1, .int x1), (3, .int x3), (4, .int x4), (5, .int y30)]) [0, 1, 3, 4, 5] rfl ?_
                    exact wX6_takeIntoRule_b116 F V0 V1 V2 V3 V4 V5 V6 V7 x1 x3 x4 y30 _ h
                  · have h := zif_f h c35
                    refine zR_icmp_eq_f (tgt := 116) dX6_takeIntoRule_99 (by decide) c35 ?_
                    refine zR_iload dX6_takeIntoRule_102 5 rfl ?_
                    refine zR_bipush (x := (18 : Int32)) dX6_takeIntoRule_104 rfl ?_
                    by_cases c36 : y30 = (18 : Int32)
                    · have h := zif_t h c36
                      refine zR_icmp_eq_t (tgt := 116) dX6_takeIntoRule_106 (by decide) c36 ?_
                      refine zR_sub (lv' := [(0, .ref (w.1 + 28)), (1, .int x1), (3, .int x3), (4, .int x4), (5, .int y30)]) [0, 1, 3, 4, 5] rfl ?_
                      exact wX6_takeIntoRule_b116 F V0 V1 V2 V3 V4 V5 V6 V7 x1 x3 x4 y30 _ h
                    · have h := zif_f h c36
                      refine zR_icmp_eq_f (tgt := 116) dX6_takeIntoRule_106 (by decide) c36 ?_
                      refine zR_iload dX6_takeIntoRule_109 5 rfl ?_
                      refine zR_bipush (x := (23 : Int32)) dX6_takeIntoRule_111 rfl ?_
                      by_cases c37 : y30 = (23 : Int32)
                      · have h := zif_t h c37
                        refine zR_icmp_ne_f (tgt := 123) dX6_takeIntoRule_113 (by decide) c37 ?_
                        refine zR_sub (lv' := [(0, .ref (w.1 + 28)), (1, .int x1), (3, .int x3), (4, .int x4), (5, .int y30)]) [0, 1, 3, 4, 5] rfl ?_
                        exact wX6_takeIntoRule_b116 F V0 V1 V2 V3 V4 V5 V6 V7 x1 x3 x4 y30 _ h
                      · have h := zif_f h c37
                        refine zR_icmp_ne_t (tgt := 123) dX6_takeIntoRule_113 (by decide) c37 ?_
                        refine zR_sub (lv' := [(0, .ref (w.1 + 28)), (1, .int x1), (3, .int x3), (4, .int x4), (5, .int y30)]) [0, 1, 3, 4, 5] rfl ?_
                        exact wX6_takeIntoRule_b123 F V0 V1 V2 V3 V4 V5 V6 V7 x1 x3 x4 y30 _ h
          · have h := zif_f h c28
            refine zR_icmp_lt_f (tgt := 32) dX6_takeIntoRule_28 (by decide) c28 ?_
            have h := Option.some.inj h
            subst h
            exact zR_ret dX6_takeIntoRule_31 rfl
set_option maxRecDepth 100000 in
set_option maxHeartbeats 4000000 in
theorem wX6_findRing_b104 {w : zW} (F : Nat) (k77 : zV → Int32 → Option (zV)) (hk77 : ∀ (V0 V1 V2 V3 V4 V5 V6 V7 : zV) (x2 : Int32) (res : zV), k77 V4 x2 = some res → zR w kX6_findRing 1 0 0 none (zE zds w [V0, V1, V2, V3, res, V5, V6, V7]) 77 [(0, .ref (w.1 + 28)), (2, .int x2)] [] (zE zds w [V0, V1, V2, V3, V4, V5, V6, V7])) (V0 V1 V2 V3 V4 V5 V6 V7 : zV) (x2 : Int32) (res : zV) (h : fX6_findRing_b104 F k77 V4 x2 = some res) : zR w kX6_findRing 1 0 0 none (zE zds w [V0, V1, V2, V3, res, V5, V6, V7]) 104 [(0, .ref (w.1 + 28)), (2, .int x2)] [] (zE zds w [V0, V1, V2, V3, V4, V5, V6, V7]) := by
  unfold fX6_findRing_b104 at h
  refine zR_iinc (u := (x2 + (-1))) (lv' := [(0, .ref (w.1 + 28)), (2, .int (x2 + (-1)))]) dX6_findRing_104 1 rfl (by rw [show Int32.ofInt (-1) = (-1 : Int32) from by decide]) (Nat.le_of_ble_eq_true rfl) rfl ?_
  refine zR_goto (tgt := 77) dX6_findRing_107 (by decide) ?_
  exact hk77 V0 V1 V2 V3 V4 V5 V6 V7 (x2 + (-1)) _ h
set_option maxRecDepth 100000 in
set_option maxHeartbeats 4000000 in
theorem wX6_findRing_l77 {w : zW} (F : Nat) : ∀ (n : Nat) (V0 V1 V2 V3 V4 V5 V6 V7 : zV) (x2 : Int32) (res : zV), fX6_findRing_l77 F n V4 x2 = some res → zR w kX6_findRing 1 0 0 none (zE zds w [V0, V1, V2, V3, res, V5, V6, V7]) 77 [(0, .ref (w.1 + 28)), (2, .int x2)] [] (zE zds w [V0, V1, V2, V3, V4, V5, V6, V7]) := by
  intro n
  induction n with
  | zero =>
    intro V0 V1 V2 V3 V4 V5 V6 V7 x2 res h
    simp [fX6_findRing_l77] at h
  | succ n ih =>
    intro V0 V1 V2 V3 V4 V5 V6 V7 x2 res h
    rw [fX6_findRing_l77] at h
    refine zR_iload_n dX6_findRing_77 1 rfl ?_
    by_cases c1 : x2 < 0
    · have h := zif_t h c1
      refine zR_if_lt_t (tgt := 110) dX6_findRing_78 (by decide) c1 ?_
      have h := Option.some.inj h
      subst h
      exact zR_ret dX6_findRing_110 rfl
    · have h := zif_f h c1
      refine zR_if_lt_f (tgt := 110) dX6_findRing_78 (by decide) c1 ?_
      refine zR_aload_n dX6_findRing_81 0 rfl ?_
      refine zG_getR dX6_findRing_82 zf_X6_45 zd_28 rfl rfl ?_
      refine zR_iconst (x := (2 : Int32)) dX6_findRing_85 rfl ?_
      refine zR_iload_n dX6_findRing_86 1 rfl ?_
      refine zR_imul dX6_findRing_87 ?_
      obtain ⟨g2, h⟩ := zchk_some h
      refine zG_iald dX6_findRing_88 zd_37 rfl rfl g2 ?_
      refine zR_iconst (x := (2 : Int32)) dX6_findRing_89 rfl ?_
      refine zR_iload_n dX6_findRing_90 1 rfl ?_
      refine zR_imul dX6_findRing_91 ?_
      refine zR_ishr dX6_findRing_92 ?_
      refine zR_iconst (x := (1 : Int32)) dX6_findRing_93 rfl ?_
      refine zR_iand dX6_findRing_94 ?_
      refine zR_iconst (x := (1 : Int32)) dX6_findRing_95 rfl ?_
      by_cases c3 : (((zA V4 22 (((2 : Int32) * x2)).toNatClampNeg) >>> (((2 : Int32) * x2) &&& 31)) &&& (1 : Int32)) = (1 : Int32)
      · have h := zif_t h c3
        refine zR_icmp_ne_f (tgt := 104) dX6_findRing_96 (by decide) c3 ?_
        refine zR_aload_n dX6_findRing_99 0 rfl ?_
        refine zR_iload_n dX6_findRing_100 1 rfl ?_
        obtain ⟨V4_4, e5, h⟩ := zlet_some h
        refine zG_putI zds_ok dX6_findRing_101 zf_X6_48 zt_X6_11 zd_28 rfl rfl e5 rfl ?_
        exact wX6_findRing_b104 F (fX6_findRing_l77 F n) ih V0 V1 V2 V3 V4_4 V5 V6 V7 x2 _ h
      · have h := zif_f h c3
        refine zR_icmp_ne_t (tgt := 104) dX6_findRing_96 (by decide) c3 ?_
        exact wX6_findRing_b104 F (fX6_findRing_l77 F n) ih V0 V1 V2 V3 V4 V5 V6 V7 x2 _ h
set_option maxRecDepth 100000 in
set_option maxHeartbeats 4000000 in
theorem wX6_findRing_b51 {w : zW} (F : Nat) (k13 : zV → Int32 → Int32 → Int32 → Option (zV)) (hk13 : ∀ (V0 V1 V2 V3 V4 V5 V6 V7 : zV) (x1 : Int32) (x2 : Int32) (x3 : Int32) (res : zV), k13 V4 x1 x2 x3 = some res → zR w kX6_findRing 1 0 0 none (zE zds w [V0, V1, V2, V3, res, V5, V6, V7]) 13 [(0, .ref (w.1 + 28)), (1, .int x1), (2, .int x2), (3, .int x3)] [] (zE zds w [V0, V1, V2, V3, V4, V5, V6, V7])) (V0 V1 V2 V3 V4 V5 V6 V7 : zV) (x1 : Int32) (x2 : Int32) (x3 : Int32) (res : zV) (h : fX6_findRing_b51 F k13 V4 x1 x2 x3 = some res) : zR w kX6_findRing 1 0 0 none (zE zds w [V0, V1, V2, V3, res, V5, V6, V7]) 51 [(0, .ref (w.1 + 28)), (1, .int x1), (2, .int x2), (3, .int x3)] [] (zE zds w [V0, V1, V2, V3, V4, V5, V6, V7]) := by
  unfold fX6_findRing_b51 at h
  refine zR_iinc (u := (x3 + 1)) (lv' := [(0, .ref (w.1 + 28)), (1, .int x1), (2, .int x2), (3, .int (x3 + 1))]) dX6_findRing_51 3 rfl rfl (Nat.le_of_ble_eq_true rfl) rfl ?_
  refine zR_goto (tgt := 13) dX6_findRing_54 (by decide) ?_
  exact hk13 V0 V1 V2 V3 V4 V5 V6 V7 x1 x2 (x3 + 1) _ h
set_option maxRecDepth 100000 in
set_option maxHeartbeats 4000000 in
theorem wX6_findRing_l13 {w : zW} (F : Nat) (k2 : zV → Int32 → Int32 → Option (zV)) (hk2 : ∀ (V0 V1 V2 V3 V4 V5 V6 V7 : zV) (x1 : Int32) (x2 : Int32) (res : zV), k2 V4 x1 x2 = some res → zR w kX6_findRing 1 0 0 none (zE zds w [V0, V1, V2, V3, res, V5, V6, V7]) 2 [(0, .ref (w.1 + 28)), (1, .int x1), (2, .int x2)] [] (zE zds w [V0, V1, V2, V3, V4, V5, V6, V7])) : ∀ (n : Nat) (V0 V1 V2 V3 V4 V5 V6 V7 : zV) (x1 : Int32) (x2 : Int32) (x3 : Int32) (res : zV), fX6_findRing_l13 F k2 n V4 x1 x2 x3 = some res → zR w kX6_findRing 1 0 0 none (zE zds w [V0, V1, V2, V3, res, V5, V6, V7]) 13 [(0, .ref (w.1 + 28)), (1, .int x1), (2, .int x2), (3, .int x3)] [] (zE zds w [V0, V1, V2, V3, V4, V5, V6, V7]) := by
  intro n
  induction n with
  | zero =>
    intro V0 V1 V2 V3 V4 V5 V6 V7 x1 x2 x3 res h
    simp [fX6_findRing_l13] at h
  | succ n ih =>
    intro V0 V1 V2 V3 V4 V5 V6 V7 x1 x2 x3 res h
    rw [fX6_findRing_l13] at h
    refine zR_iload_n dX6_findRing_13 3 rfl ?_
    refine zR_aload_n dX6_findRing_14 0 rfl ?_
    refine zG_getR dX6_findRing_15 zf_X6_45 zd_28 rfl rfl ?_
    refine zG_alen (u := (24 : Int32)) dX6_findRing_18 zd_37 (Nat.le_of_ble_eq_true rfl) rfl rfl rfl ?_
    by_cases c6 : (24 : Int32) ≤ x3
    · have h := zif_t h c6
      refine zR_icmp_ge_t (tgt := 57) dX6_findRing_19 (by decide) c6 ?_
      refine zR_iinc (u := (x2 + 1)) (lv' := [(0, .ref (w.1 + 28)), (1, .int x1), (2, .int (x2 + 1)), (3, .int x3)]) dX6_findRing_57 2 rfl rfl (Nat.le_of_ble_eq_true rfl) rfl ?_
      refine zR_goto (tgt := 2) dX6_findRing_60 (by decide) ?_
      refine zR_sub (lv' := [(0, .ref (w.1 + 28)), (1, .int x1), (2, .int (x2 + 1))]) [0, 1, 2] rfl ?_
      exact hk2 V0 V1 V2 V3 V4 V5 V6 V7 x1 (x2 + 1) _ h
    · have h := zif_f h c6
      refine zR_icmp_ge_f (tgt := 57) dX6_findRing_19 (by decide) c6 ?_
      refine zR_aload_n dX6_findRing_22 0 rfl ?_
      refine zG_getR dX6_findRing_23 zf_X6_45 zd_28 rfl rfl ?_
      refine zR_iload_n dX6_findRing_26 3 rfl ?_
      obtain ⟨g7, h⟩ := zchk_some h
      refine zG_iald dX6_findRing_27 zd_37 rfl rfl g7 ?_
      refine zR_iload_n dX6_findRing_28 2 rfl ?_
      refine zR_ishr dX6_findRing_29 ?_
      refine zR_iconst (x := (1 : Int32)) dX6_findRing_30 rfl ?_
      refine zR_iand dX6_findRing_31 ?_
      refine zR_iconst (x := (1 : Int32)) dX6_findRing_32 rfl ?_
      by_cases c8 : (((zA V4 22 (x3).toNatClampNeg) >>> (x2 &&& 31)) &&& (1 : Int32)) = (1 : Int32)
      · have h := zif_t h c8
        refine zR_icmp_ne_f (tgt := 51) dX6_findRing_33 (by decide) c8 ?_
        refine zR_aload_n dX6_findRing_36 0 rfl ?_
        refine zG_getR dX6_findRing_37 zf_X6_45 zd_28 rfl rfl ?_
        refine zR_iload_n dX6_findRing_40 3 rfl ?_
        refine zR_dup2 dX6_findRing_41 rfl rfl ?_
        obtain ⟨g9, h⟩ := zchk_some h
        refine zG_iald dX6_findRing_42 zd_37 rfl rfl g9 ?_
        refine zR_aload_n dX6_findRing_43 0 rfl ?_
        refine zG_getR dX6_findRing_44 zf_X6_45 zd_28 rfl rfl ?_
        refine zR_iload_n dX6_findRing_47 2 rfl ?_
        obtain ⟨g10, h⟩ := zchk_some h
        refine zG_iald dX6_findRing_48 zd_37 rfl rfl g10 ?_
        refine zR_ior dX6_findRing_49 ?_
        obtain ⟨g11, h⟩ := zchk_some h
        obtain ⟨V4_12, e13, h⟩ := zlet_some h
        refine zG_iast zds_ok dX6_findRing_50 zd_37 rfl rfl g11 e13 rfl ?_
        exact wX6_findRing_b51 F (fX6_findRing_l13 F k2 n) ih V0 V1 V2 V3 V4_12 V5 V6 V7 x1 x2 x3 _ h
      · have h := zif_f h c8
        refine zR_icmp_ne_t (tgt := 51) dX6_findRing_33 (by decide) c8 ?_
        exact wX6_findRing_b51 F (fX6_findRing_l13 F k2 n) ih V0 V1 V2 V3 V4 V5 V6 V7 x1 x2 x3 _ h
set_option maxRecDepth 100000 in
set_option maxHeartbeats 4000000 in
theorem wX6_findRing_l2 {w : zW} (F : Nat) : ∀ (n : Nat) (V0 V1 V2 V3 V4 V5 V6 V7 : zV) (x1 : Int32) (x2 : Int32) (res : zV), fX6_findRing_l2 F n V4 x1 x2 = some res → zR w kX6_findRing 1 0 0 none (zE zds w [V0, V1, V2, V3, res, V5, V6, V7]) 2 [(0, .ref (w.1 + 28)), (1, .int x1), (2, .int x2)] [] (zE zds w [V0, V1, V2, V3, V4, V5, V6, V7]) := by
  intro n
  induction n with
  | zero =>
    intro V0 V1 V2 V3 V4 V5 V6 V7 x1 x2 res h
    simp [fX6_findRing_l2] at h
  | succ n ih =>
    intro V0 V1 V2 V3 V4 V5 V6 V7 x1 x2 res h
    rw [fX6_findRing_l2] at h
    refine zR_iload_n dX6_findRing_2 2 rfl ?_
    refine zR_aload_n dX6_findRing_3 0 rfl ?_
    refine zG_getR dX6_findRing_4 zf_X6_45 zd_28 rfl rfl ?_
    refine zG_alen (u := (24 : Int32)) dX6_findRing_7 zd_37 (Nat.le_of_ble_eq_true rfl) rfl rfl rfl ?_
    by_cases c14 : (24 : Int32) ≤ x2
    · have h := zif_t h c14
      refine zR_icmp_ge_t (tgt := 63) dX6_findRing_8 (by decide) c14 ?_
      refine zR_aload_n dX6_findRing_63 0 rfl ?_
      refine zR_iconst (x := (-1 : Int32)) dX6_findRing_64 (by decide) ?_
      obtain ⟨V4_15, e16, h⟩ := zlet_some h
      refine zG_putI zds_ok dX6_findRing_65 zf_X6_48 zt_X6_11 zd_28 rfl rfl e16 rfl ?_
      refine zR_iload_n dX6_findRing_68 1 rfl ?_
      refine zR_bipush (x := (12 : Int32)) dX6_findRing_69 rfl ?_
      refine zR_mmin dX6_findRing_71 zmw_X6_56 (Nat.le_of_ble_eq_true rfl) (Nat.le_of_ble_eq_true rfl) ?_
      refine zR_iconst (x := (1 : Int32)) dX6_findRing_74 rfl ?_
      refine zR_isub dX6_findRing_75 ?_
      obtain ⟨y17, e18, h⟩ := zlet_some h
      refine zR_nmI e18 ?_
      refine zR_istore_n (lv' := [(0, .ref (w.1 + 28)), (1, .int x1), (2, .int y17)]) dX6_findRing_76 (Nat.le_of_ble_eq_true rfl) rfl ?_
      refine zR_sub (lv' := [(0, .ref (w.1 + 28)), (2, .int y17)]) [0, 2] rfl ?_
      exact wX6_findRing_l77 F F V0 V1 V2 V3 V4_15 V5 V6 V7 y17 _ h
    · have h := zif_f h c14
      refine zR_icmp_ge_f (tgt := 63) dX6_findRing_8 (by decide) c14 ?_
      refine zR_iconst (x := (0 : Int32)) dX6_findRing_11 rfl ?_
      refine zR_istore_n (lv' := [(0, .ref (w.1 + 28)), (1, .int x1), (2, .int x2), (3, .int (0 : Int32))]) dX6_findRing_12 (Nat.le_of_ble_eq_true rfl) rfl ?_
      exact wX6_findRing_l13 F (fX6_findRing_l2 F n) ih F V0 V1 V2 V3 V4 V5 V6 V7 x1 x2 (0 : Int32) _ h
set_option maxRecDepth 100000 in
set_option maxHeartbeats 4000000 in
theorem mX6_findRing {w : zW} (F : Nat) (V0 V1 V2 V3 V4 V5 V6 V7 : zV) (x1 : Int32) (res : zV) (h : fX6_findRing F V4 x1 = some res) : zMet w kX6_findRing 1 0 0 [.ref (w.1 + 28), .int x1] (zE zds w [V0, V1, V2, V3, V4, V5, V6, V7]) none (zE zds w [V0, V1, V2, V3, res, V5, V6, V7]) := by
  refine zMet_of (by decide) (Nat.le_of_ble_eq_true rfl) (Nat.le_refl 0) fun _ => ?_
  show zR w kX6_findRing 1 0 0 none (zE zds w [V0, V1, V2, V3, res, V5, V6, V7]) 0 [(0, .ref (w.1 + 28)), (1, .int x1)] [] (zE zds w [V0, V1, V2, V3, V4, V5, V6, V7])
  unfold fX6_findRing at h
  refine zR_iconst (x := (0 : Int32)) dX6_findRing_0 rfl ?_
  refine zR_istore_n (lv' := [(0, .ref (w.1 + 28)), (1, .int x1), (2, .int (0 : Int32))]) dX6_findRing_1 (Nat.le_of_ble_eq_true rfl) rfl ?_
  exact wX6_findRing_l2 F F V0 V1 V2 V3 V4 V5 V6 V7 x1 (0 : Int32) _ h
set_option maxRecDepth 100000 in
set_option maxHeartbeats 4000000 in
theorem wX6_takeFrom_l181 {w : zW} (F : Nat) : ∀ (n : Nat) (V0 V1 V2 V3 V4 V5 V6 V7 : zV) (x2 : Int32) (x3 : Int32) (res : zV), fX6_takeFrom_l181 F n V1 V4 x2 x3 = some res → zR w kX6_takeFrom 3 0 0 none (zE zds w [V0, V1, V2, V3, res, V5, V6, V7]) 181 [(0, .ref (w.1 + 28)), (2, .int x2), (3, .int x3)] [] (zE zds w [V0, V1, V2, V3, V4, V5, V6, V7]) := by
  intro n
  induction n with
  | zero =>
    intro V0 V1 V2 V3 V4 V5 V6 V7 x2 x3 res h
    simp [fX6_takeFrom_l181] at h
  | succ n ih =>
    intro V0 V1 V2 V3 V4 V5 V6 V7 x2 x3 res h
    rw [fX6_takeFrom_l181] at h
    refine zR_iload_n dX6_takeFrom_181 2 rfl ?_
    refine zR_aload_n dX6_takeFrom_182 0 rfl ?_
    refine zG_getR dX6_takeFrom_183 zf_X6_26 zd_28 rfl rfl ?_
    refine zG_alen (u := (13 : Int32)) dX6_takeFrom_186 zd_31 (Nat.le_of_ble_eq_true rfl) rfl rfl rfl ?_
    by_cases c1 : (13 : Int32) ≤ x3
    · have h := zif_t h c1
      refine zR_icmp_ge_t (tgt := 206) dX6_takeFrom_187 (by decide) c1 ?_
      refine zR_aload_n dX6_takeFrom_206 0 rfl ?_
      refine zR_iload_n dX6_takeFrom_207 1 rfl ?_
      obtain ⟨q2, hq3, h⟩ := zbd_some h
      refine zR_cV (rest := []) (st1 := []) dX6_takeFrom_208 (mX6_findRing F V0 V1 V2 V3 V4 V5 V6 V7 x2 _ hq3) zc_X6_77 rfl (zE_at zd_28) ⟨_, _, rfl⟩ rfl (Nat.le_of_ble_eq_true rfl) (Nat.le_of_ble_eq_true rfl) rfl ?_
      have h := Option.some.inj h
      subst h
      exact zR_ret dX6_takeFrom_211 rfl
    · have h := zif_f h c1
      refine zR_icmp_ge_f (tgt := 206) dX6_takeFrom_187 (by decide) c1 ?_
      refine zR_aload_n dX6_takeFrom_190 0 rfl ?_
      refine zG_getR dX6_takeFrom_191 zf_X6_26 zd_28 rfl rfl ?_
      refine zR_iload_n dX6_takeFrom_194 2 rfl ?_
      refine zR_aload_n dX6_takeFrom_195 0 rfl ?_
      refine zG_getI dX6_takeFrom_196 zf_X6_23 zd_28 rfl rfl ?_
      obtain ⟨g4, h⟩ := zchk_some h
      obtain ⟨V4_5, e6, h⟩ := zlet_some h
      refine zG_iast zds_ok dX6_takeFrom_199 zd_31 rfl rfl g4 e6 rfl ?_
      refine zR_iinc (u := (x3 + 1)) (lv' := [(0, .ref (w.1 + 28)), (2, .int x2), (3, .int (x3 + 1))]) dX6_takeFrom_200 2 rfl rfl (Nat.le_of_ble_eq_true rfl) rfl ?_
      refine zR_goto (tgt := 181) dX6_takeFrom_203 (by decide) ?_
      exact ih V0 V1 V2 V3 V4_5 V5 V6 V7 x2 (x3 + 1) _ h
set_option maxRecDepth 100000 in
set_option maxHeartbeats 4000000 in
theorem wX6_takeFrom_b173 {w : zW} (F : Nat) (k47 : zV → zV → Int32 → Int32 → Option (zV)) (hk47 : ∀ (V0 V1 V2 V3 V4 V5 V6 V7 : zV) (x2 : Int32) (x3 : Int32) (res : zV), k47 V1 V4 x2 x3 = some res → zR w kX6_takeFrom 3 0 0 none (zE zds w [V0, V1, V2, V3, res, V5, V6, V7]) 47 [(0, .ref (w.1 + 28)), (1, .ref (w.1 + 2)), (2, .int x2), (3, .int x3)] [] (zE zds w [V0, V1, V2, V3, V4, V5, V6, V7])) (V0 V1 V2 V3 V4 V5 V6 V7 : zV) (x2 : Int32) (x3 : Int32) (res : zV) (h : fX6_takeFrom_b173 F k47 V1 V4 x2 x3 = some res) : zR w kX6_takeFrom 3 0 0 none (zE zds w [V0, V1, V2, V3, res, V5, V6, V7]) 173 [(0, .ref (w.1 + 28)), (1, .ref (w.1 + 2)), (2, .int x2), (3, .int x3)] [] (zE zds w [V0, V1, V2, V3, V4, V5, V6, V7]) := by
  unfold fX6_takeFrom_b173 at h
  refine zR_iinc (u := (x3 + 1)) (lv' := [(0, .ref (w.1 + 28)), (1, .ref (w.1 + 2)), (2, .int x2), (3, .int (x3 + 1))]) dX6_takeFrom_173 3 rfl rfl (Nat.le_of_ble_eq_true rfl) rfl ?_
  refine zR_goto (tgt := 47) dX6_takeFrom_176 (by decide) ?_
  exact hk47 V0 V1 V2 V3 V4 V5 V6 V7 x2 (x3 + 1) _ h
set_option maxRecDepth 100000 in
set_option maxHeartbeats 4000000 in
theorem wX6_takeFrom_b152 {w : zW} (F : Nat) (k47 : zV → zV → Int32 → Int32 → Option (zV)) (hk47 : ∀ (V0 V1 V2 V3 V4 V5 V6 V7 : zV) (x2 : Int32) (x3 : Int32) (res : zV), k47 V1 V4 x2 x3 = some res → zR w kX6_takeFrom 3 0 0 none (zE zds w [V0, V1, V2, V3, res, V5, V6, V7]) 47 [(0, .ref (w.1 + 28)), (1, .ref (w.1 + 2)), (2, .int x2), (3, .int x3)] [] (zE zds w [V0, V1, V2, V3, V4, V5, V6, V7])) (V0 V1 V2 V3 V4 V5 V6 V7 : zV) (x2 : Int32) (x3 : Int32) (res : zV) (h : fX6_takeFrom_b152 F k47 V1 V4 x2 x3 = some res) : zR w kX6_takeFrom 3 0 0 none (zE zds w [V0, V1, V2, V3, res, V5, V6, V7]) 152 [(0, .ref (w.1 + 28)), (1, .ref (w.1 + 2)), (2, .int x2), (3, .int x3)] [] (zE zds w [V0, V1, V2, V3, V4, V5, V6, V7]) := by
  unfold fX6_takeFrom_b152 at h
  refine zR_aload_n dX6_takeFrom_152 0 rfl ?_
  refine zR_aload_n dX6_takeFrom_153 0 rfl ?_
  refine zG_getI dX6_takeFrom_154 zf_X6_23 zd_28 rfl rfl ?_
  refine zR_iconst (x := (1 : Int32)) dX6_takeFrom_157 rfl ?_
  refine zR_isub dX6_takeFrom_158 ?_
  refine zR_iload_n dX6_takeFrom_159 3 rfl ?_
  refine zR_aload_n dX6_takeFrom_160 1 rfl ?_
  refine zR_iload_n dX6_takeFrom_161 3 rfl ?_
  refine zR_iconst (x := (1 : Int32)) dX6_takeFrom_162 rfl ?_
  refine zR_iadd dX6_takeFrom_163 ?_
  obtain ⟨q7, hq8, h⟩ := zbd_some h
  refine zR_cV (rest := [.int x3, .int ((zI V4 13 3) - (1 : Int32)), .ref (w.1 + 28)]) (st1 := [.int q7, .int x3, .int ((zI V4 13 3) - (1 : Int32)), .ref (w.1 + 28)]) dX6_takeFrom_164 (mX10_numberAt F V0 V1 V2 V3 V4 V5 V6 V7 (x3 + (1 : Int32)) _ hq8) zc_X6_66 rfl (zE_at zd_2) ⟨_, _, rfl⟩ rfl (Nat.le_of_ble_eq_true rfl) (Nat.le_of_ble_eq_true rfl) rfl ?_
  refine zR_iload_n dX6_takeFrom_167 2 rfl ?_
  refine zR_iconst (x := (1 : Int32)) dX6_takeFrom_168 rfl ?_
  refine zR_isub dX6_takeFrom_169 ?_
  obtain ⟨q9, hq10, h⟩ := zbd_some h
  refine zR_cV (rest := []) (st1 := []) dX6_takeFrom_170 (mX6_takeIntoRule F V0 V1 V2 V3 V4 V5 V6 V7 ((zI V4 13 3) - (1 : Int32)) x3 q7 (x2 - (1 : Int32)) _ hq10) zc_X6_73 rfl (zE_at zd_28) ⟨_, _, rfl⟩ rfl (Nat.le_of_ble_eq_true rfl) (Nat.le_of_ble_eq_true rfl) rfl ?_
  exact wX6_takeFrom_b173 F k47 hk47 V0 V1 V2 V3 q9 V5 V6 V7 x2 x3 _ h
set_option maxRecDepth 100000 in
set_option maxHeartbeats 4000000 in
theorem wX6_takeFrom_b111 {w : zW} (F : Nat) (k47 : zV → zV → Int32 → Int32 → Option (zV)) (hk47 : ∀ (V0 V1 V2 V3 V4 V5 V6 V7 : zV) (x2 : Int32) (x3 : Int32) (res : zV), k47 V1 V4 x2 x3 = some res → zR w kX6_takeFrom 3 0 0 none (zE zds w [V0, V1, V2, V3, res, V5, V6, V7]) 47 [(0, .ref (w.1 + 28)), (1, .ref (w.1 + 2)), (2, .int x2), (3, .int x3)] [] (zE zds w [V0, V1, V2, V3, V4, V5, V6, V7])) (V0 V1 V2 V3 V4 V5 V6 V7 : zV) (x2 : Int32) (x3 : Int32) (res : zV) (h : fX6_takeFrom_b111 F k47 V1 V4 x2 x3 = some res) : zR w kX6_takeFrom 3 0 0 none (zE zds w [V0, V1, V2, V3, res, V5, V6, V7]) 111 [(0, .ref (w.1 + 28)), (1, .ref (w.1 + 2)), (2, .int x2), (3, .int x3)] [] (zE zds w [V0, V1, V2, V3, V4, V5, V6, V7]) := by
  unfold fX6_takeFrom_b111 at h
  refine zR_aload_n dX6_takeFrom_111 0 rfl ?_
  refine zG_getR dX6_takeFrom_112 zf_X6_9 zd_28 rfl rfl ?_
  refine zR_iload_n dX6_takeFrom_115 3 rfl ?_
  obtain ⟨g11, h⟩ := zchk_some h
  refine zG_bald dX6_takeFrom_116 zd_29 rfl rfl g11 ?_
  refine zR_bipush (x := (11 : Int32)) dX6_takeFrom_117 rfl ?_
  by_cases c12 : (zA V4 14 (x3).toNatClampNeg) = (11 : Int32)
  · have h := zif_t h c12
    refine zR_icmp_ne_f (tgt := 152) dX6_takeFrom_119 (by decide) c12 ?_
    refine zR_aload_n dX6_takeFrom_122 0 rfl ?_
    refine zG_getI dX6_takeFrom_123 zf_X6_23 zd_28 rfl rfl ?_
    refine zR_bipush (x := (80 : Int32)) dX6_takeFrom_126 rfl ?_
    by_cases c13 : (80 : Int32) ≤ (zI V4 13 3)
    · have h := zif_t h c13
      refine zR_icmp_ge_t (tgt := 152) dX6_takeFrom_128 (by decide) c13 ?_
      exact wX6_takeFrom_b152 F k47 hk47 V0 V1 V2 V3 V4 V5 V6 V7 x2 x3 _ h
    · have h := zif_f h c13
      refine zR_icmp_ge_f (tgt := 152) dX6_takeFrom_128 (by decide) c13 ?_
      refine zR_aload_n dX6_takeFrom_131 0 rfl ?_
      refine zR_aload_n dX6_takeFrom_132 1 rfl ?_
      refine zR_iload_n dX6_takeFrom_133 3 rfl ?_
      refine zR_iconst (x := (1 : Int32)) dX6_takeFrom_134 rfl ?_
      refine zR_iadd dX6_takeFrom_135 ?_
      obtain ⟨q14, hq15, h⟩ := zbd_some h
      refine zR_cV (rest := []) (st1 := []) dX6_takeFrom_136 (mX6_openRule F V0 V1 V2 V3 V4 V5 V6 V7 (x3 + (1 : Int32)) _ hq15) zc_X6_69 rfl (zE_at zd_28) ⟨_, _, rfl⟩ rfl (Nat.le_of_ble_eq_true rfl) (Nat.le_of_ble_eq_true rfl) rfl ?_
      refine zR_aload_n dX6_takeFrom_139 0 rfl ?_
      refine zR_dup dX6_takeFrom_140 rfl ?_
      refine zG_getI dX6_takeFrom_141 zf_X6_23 zd_28 rfl rfl ?_
      refine zR_iconst (x := (1 : Int32)) dX6_takeFrom_144 rfl ?_
      refine zR_iadd dX6_takeFrom_145 ?_
      obtain ⟨V4_16, e17, h⟩ := zlet_some h
      refine zG_putI zds_ok dX6_takeFrom_146 zf_X6_23 zt_X6_3 zd_28 rfl rfl e17 rfl ?_
      refine zR_goto (tgt := 173) dX6_takeFrom_149 (by decide) ?_
      exact wX6_takeFrom_b173 F k47 hk47 V0 V1 V2 V3 V4_16 V5 V6 V7 x2 x3 _ h
  · have h := zif_f h c12
    refine zR_icmp_ne_t (tgt := 152) dX6_takeFrom_119 (by decide) c12 ?_
    exact wX6_takeFrom_b152 F k47 hk47 V0 V1 V2 V3 V4 V5 V6 V7 x2 x3 _ h
set_option maxRecDepth 100000 in
set_option maxHeartbeats 4000000 in
theorem wX6_takeFrom_l47 {w : zW} (F : Nat) : ∀ (n : Nat) (V0 V1 V2 V3 V4 V5 V6 V7 : zV) (x2 : Int32) (x3 : Int32) (res : zV), fX6_takeFrom_l47 F n V1 V4 x2 x3 = some res → zR w kX6_takeFrom 3 0 0 none (zE zds w [V0, V1, V2, V3, res, V5, V6, V7]) 47 [(0, .ref (w.1 + 28)), (1, .ref (w.1 + 2)), (2, .int x2), (3, .int x3)] [] (zE zds w [V0, V1, V2, V3, V4, V5, V6, V7]) := by
  intro n
  induction n with
  | zero =>
    intro V0 V1 V2 V3 V4 V5 V6 V7 x2 x3 res h
    simp [fX6_takeFrom_l47] at h
  | succ n ih =>
    intro V0 V1 V2 V3 V4 V5 V6 V7 x2 x3 res h
    rw [fX6_takeFrom_l47] at h
    refine zR_iload_n dX6_takeFrom_47 3 rfl ?_
    refine zR_aload_n dX6_takeFrom_48 0 rfl ?_
    refine zG_getI dX6_takeFrom_49 zf_X6_19 zd_28 rfl rfl ?_
    by_cases c18 : (zI V4 13 2) ≤ x3
    · have h := zif_t h c18
      refine zR_icmp_ge_t (tgt := 179) dX6_takeFrom_52 (by decide) c18 ?_
      refine zR_iload_n dX6_takeFrom_179 2 rfl ?_
      refine zR_istore_n (lv' := [(0, .ref (w.1 + 28)), (1, .ref (w.1 + 2)), (2, .int x2), (3, .int x2)]) dX6_takeFrom_180 (Nat.le_of_ble_eq_true rfl) rfl ?_
      refine zR_sub (lv' := [(0, .ref (w.1 + 28)), (2, .int x2), (3, .int x2)]) [0, 2, 3] rfl ?_
      exact wX6_takeFrom_l181 F F V0 V1 V2 V3 V4 V5 V6 V7 x2 x2 _ h
    · have h := zif_f h c18
      refine zR_icmp_ge_f (tgt := 179) dX6_takeFrom_52 (by decide) c18 ?_
      refine zR_aload_n dX6_takeFrom_55 0 rfl ?_
      refine zG_getR dX6_takeFrom_56 zf_X6_9 zd_28 rfl rfl ?_
      refine zR_iload_n dX6_takeFrom_59 3 rfl ?_
      refine zR_aload_n dX6_takeFrom_60 1 rfl ?_
      refine zR_iload_n dX6_takeFrom_61 3 rfl ?_
      obtain ⟨q19, hq20, h⟩ := zbd_some h
      refine zR_cV (rest := [.int x3, .ref (w.1 + 29)]) (st1 := [.int q19, .int x3, .ref (w.1 + 29)]) dX6_takeFrom_62 (mX10_kindAt F V0 V1 V2 V3 V4 V5 V6 V7 x3 _ hq20) zc_X6_62 rfl (zE_at zd_2) ⟨_, _, rfl⟩ rfl (Nat.le_of_ble_eq_true rfl) (Nat.le_of_ble_eq_true rfl) rfl ?_
      refine zR_i2b dX6_takeFrom_65 ?_
      obtain ⟨g21, h⟩ := zchk_some h
      obtain ⟨V4_22, e23, h⟩ := zlet_some h
      refine zG_bast zds_ok dX6_takeFrom_66 zd_29 rfl rfl g21 e23 rfl ?_
      refine zR_aload_n dX6_takeFrom_67 0 rfl ?_
      refine zG_getR dX6_takeFrom_68 zf_X6_15 zd_28 rfl rfl ?_
      refine zR_iload_n dX6_takeFrom_71 3 rfl ?_
      refine zR_aload_n dX6_takeFrom_72 1 rfl ?_
      refine zR_iload_n dX6_takeFrom_73 3 rfl ?_
      obtain ⟨q24, hq25, h⟩ := zbd_some h
      refine zR_cV (rest := [.int x3, .ref (w.1 + 30)]) (st1 := [.int q24, .int x3, .ref (w.1 + 30)]) dX6_takeFrom_74 (mX10_numberAt F V0 V1 V2 V3 V4_22 V5 V6 V7 x3 _ hq25) zc_X6_66 rfl (zE_at zd_2) ⟨_, _, rfl⟩ rfl (Nat.le_of_ble_eq_true rfl) (Nat.le_of_ble_eq_true rfl) rfl ?_
      obtain ⟨g26, h⟩ := zchk_some h
      obtain ⟨V4_27, e28, h⟩ := zlet_some h
      refine zG_iast zds_ok dX6_takeFrom_77 zd_30 rfl rfl g26 e28 rfl ?_
      refine zR_aload_n dX6_takeFrom_78 0 rfl ?_
      refine zG_getR dX6_takeFrom_79 zf_X6_9 zd_28 rfl rfl ?_
      refine zR_iload_n dX6_takeFrom_82 3 rfl ?_
      obtain ⟨g29, h⟩ := zchk_some h
      refine zG_bald dX6_takeFrom_83 zd_29 rfl rfl g29 ?_
      refine zR_bipush (x := (7 : Int32)) dX6_takeFrom_84 rfl ?_
      by_cases c30 : (zA V4_27 14 (x3).toNatClampNeg) = (7 : Int32)
      · have h := zif_t h c30
        refine zR_icmp_ne_f (tgt := 111) dX6_takeFrom_86 (by decide) c30 ?_
        refine zR_iload_n dX6_takeFrom_89 2 rfl ?_
        refine zR_bipush (x := (12 : Int32)) dX6_takeFrom_90 rfl ?_
        by_cases c31 : (12 : Int32) ≤ x2
        · have h := zif_t h c31
          refine zR_icmp_ge_t (tgt := 111) dX6_takeFrom_92 (by decide) c31 ?_
          exact wX6_takeFrom_b111 F (fX6_takeFrom_l47 F n) ih V0 V1 V2 V3 V4_27 V5 V6 V7 x2 x3 _ h
        · have h := zif_f h c31
          refine zR_icmp_ge_f (tgt := 111) dX6_takeFrom_92 (by decide) c31 ?_
          refine zR_aload_n dX6_takeFrom_95 0 rfl ?_
          refine zG_getR dX6_takeFrom_96 zf_X6_26 zd_28 rfl rfl ?_
          refine zR_iload_n dX6_takeFrom_99 2 rfl ?_
          refine zR_aload_n dX6_takeFrom_100 0 rfl ?_
          refine zG_getI dX6_takeFrom_101 zf_X6_23 zd_28 rfl rfl ?_
          obtain ⟨g32, h⟩ := zchk_some h
          obtain ⟨V4_33, e34, h⟩ := zlet_some h
          refine zG_iast zds_ok dX6_takeFrom_104 zd_31 rfl rfl g32 e34 rfl ?_
          refine zR_iinc (u := (x2 + 1)) (lv' := [(0, .ref (w.1 + 28)), (1, .ref (w.1 + 2)), (2, .int (x2 + 1)), (3, .int x3)]) dX6_takeFrom_105 2 rfl rfl (Nat.le_of_ble_eq_true rfl) rfl ?_
          refine zR_goto (tgt := 173) dX6_takeFrom_108 (by decide) ?_
          exact wX6_takeFrom_b173 F (fX6_takeFrom_l47 F n) ih V0 V1 V2 V3 V4_33 V5 V6 V7 (x2 + 1) x3 _ h
      · have h := zif_f h c30
        refine zR_icmp_ne_t (tgt := 111) dX6_takeFrom_86 (by decide) c30 ?_
        exact wX6_takeFrom_b111 F (fX6_takeFrom_l47 F n) ih V0 V1 V2 V3 V4_27 V5 V6 V7 x2 x3 _ h
set_option maxRecDepth 100000 in
set_option maxHeartbeats 4000000 in
theorem wX6_takeFrom_l21 {w : zW} (F : Nat) : ∀ (n : Nat) (V0 V1 V2 V3 V4 V5 V6 V7 : zV) (x2 : Int32) (res : zV), fX6_takeFrom_l21 F n V1 V4 x2 = some res → zR w kX6_takeFrom 3 0 0 none (zE zds w [V0, V1, V2, V3, res, V5, V6, V7]) 21 [(0, .ref (w.1 + 28)), (1, .ref (w.1 + 2)), (2, .int x2)] [] (zE zds w [V0, V1, V2, V3, V4, V5, V6, V7]) := by
  intro n
  induction n with
  | zero =>
    intro V0 V1 V2 V3 V4 V5 V6 V7 x2 res h
    simp [fX6_takeFrom_l21] at h
  | succ n ih =>
    intro V0 V1 V2 V3 V4 V5 V6 V7 x2 res h
    rw [fX6_takeFrom_l21] at h
    refine zR_iload_n dX6_takeFrom_21 2 rfl ?_
    refine zR_aload_n dX6_takeFrom_22 0 rfl ?_
    refine zG_getR dX6_takeFrom_23 zf_X6_45 zd_28 rfl rfl ?_
    refine zG_alen (u := (24 : Int32)) dX6_takeFrom_26 zd_37 (Nat.le_of_ble_eq_true rfl) rfl rfl rfl ?_
    by_cases c35 : (24 : Int32) ≤ x2
    · have h := zif_t h c35
      refine zR_icmp_ge_t (tgt := 43) dX6_takeFrom_27 (by decide) c35 ?_
      refine zR_iconst (x := (0 : Int32)) dX6_takeFrom_43 rfl ?_
      refine zR_istore_n (lv' := [(0, .ref (w.1 + 28)), (1, .ref (w.1 + 2)), (2, .int (0 : Int32))]) dX6_takeFrom_44 (Nat.le_of_ble_eq_true rfl) rfl ?_
      refine zR_iconst (x := (0 : Int32)) dX6_takeFrom_45 rfl ?_
      refine zR_istore_n (lv' := [(0, .ref (w.1 + 28)), (1, .ref (w.1 + 2)), (2, .int (0 : Int32)), (3, .int (0 : Int32))]) dX6_takeFrom_46 (Nat.le_of_ble_eq_true rfl) rfl ?_
      exact wX6_takeFrom_l47 F F V0 V1 V2 V3 V4 V5 V6 V7 (0 : Int32) (0 : Int32) _ h
    · have h := zif_f h c35
      refine zR_icmp_ge_f (tgt := 43) dX6_takeFrom_27 (by decide) c35 ?_
      refine zR_aload_n dX6_takeFrom_30 0 rfl ?_
      refine zG_getR dX6_takeFrom_31 zf_X6_45 zd_28 rfl rfl ?_
      refine zR_iload_n dX6_takeFrom_34 2 rfl ?_
      refine zR_iconst (x := (0 : Int32)) dX6_takeFrom_35 rfl ?_
      obtain ⟨g36, h⟩ := zchk_some h
      obtain ⟨V4_37, e38, h⟩ := zlet_some h
      refine zG_iast zds_ok dX6_takeFrom_36 zd_37 rfl rfl g36 e38 rfl ?_
      refine zR_iinc (u := (x2 + 1)) (lv' := [(0, .ref (w.1 + 28)), (1, .ref (w.1 + 2)), (2, .int (x2 + 1))]) dX6_takeFrom_37 2 rfl rfl (Nat.le_of_ble_eq_true rfl) rfl ?_
      refine zR_goto (tgt := 21) dX6_takeFrom_40 (by decide) ?_
      exact ih V0 V1 V2 V3 V4_37 V5 V6 V7 (x2 + 1) _ h
set_option maxRecDepth 100000 in
set_option maxHeartbeats 4000000 in
theorem mX6_takeFrom {w : zW} (F : Nat) (V0 V1 V2 V3 V4 V5 V6 V7 : zV) (res : zV) (h : fX6_takeFrom F V1 V4 = some res) : zMet w kX6_takeFrom 3 0 0 [.ref (w.1 + 28), .ref (w.1 + 2)] (zE zds w [V0, V1, V2, V3, V4, V5, V6, V7]) none (zE zds w [V0, V1, V2, V3, res, V5, V6, V7]) := by
  refine zMet_of (by decide) (Nat.le_of_ble_eq_true rfl) (Nat.le_refl 0) fun _ => ?_
  show zR w kX6_takeFrom 3 0 0 none (zE zds w [V0, V1, V2, V3, res, V5, V6, V7]) 0 [(0, .ref (w.1 + 28)), (1, .ref (w.1 + 2))] [] (zE zds w [V0, V1, V2, V3, V4, V5, V6, V7])
  unfold fX6_takeFrom at h
  refine zR_aload_n dX6_takeFrom_0 0 rfl ?_
  refine zR_aload_n dX6_takeFrom_1 1 rfl ?_
  obtain ⟨q39, hq40, h⟩ := zbd_some h
  refine zR_cV (rest := [.ref (w.1 + 28)]) (st1 := [.int q39, .ref (w.1 + 28)]) dX6_takeFrom_2 (mX10_size F V0 V1 V2 V3 V4 V5 V6 V7 _ hq40) zc_X6_51 rfl (zE_at zd_2) ⟨_, _, rfl⟩ rfl (Nat.le_of_ble_eq_true rfl) (Nat.le_of_ble_eq_true rfl) rfl ?_
  refine zR_sipush (x := (1000 : Int32)) dX6_takeFrom_5 rfl ?_
  refine zR_mmin dX6_takeFrom_8 zmw_X6_56 (Nat.le_of_ble_eq_true rfl) (Nat.le_of_ble_eq_true rfl) ?_
  obtain ⟨V4_41, e42, h⟩ := zlet_some h
  refine zG_putI zds_ok dX6_takeFrom_11 zf_X6_19 zt_X6_2 zd_28 rfl rfl e42 rfl ?_
  refine zR_aload_n dX6_takeFrom_14 0 rfl ?_
  refine zR_iconst (x := (0 : Int32)) dX6_takeFrom_15 rfl ?_
  obtain ⟨V4_43, e44, h⟩ := zlet_some h
  refine zG_putI zds_ok dX6_takeFrom_16 zf_X6_23 zt_X6_3 zd_28 rfl rfl e44 rfl ?_
  refine zR_iconst (x := (0 : Int32)) dX6_takeFrom_19 rfl ?_
  refine zR_istore_n (lv' := [(0, .ref (w.1 + 28)), (1, .ref (w.1 + 2)), (2, .int (0 : Int32))]) dX6_takeFrom_20 (Nat.le_of_ble_eq_true rfl) rfl ?_
  exact wX6_takeFrom_l21 F F V0 V1 V2 V3 V4_43 V5 V6 V7 (0 : Int32) _ h
set_option maxRecDepth 100000 in
set_option maxHeartbeats 4000000 in
theorem wX9_takeFrom_b100 {w : zW} (F : Nat) (k50 : zV → zV → Int32 → Option (zV)) (hk50 : ∀ (V0 V1 V2 V3 V4 V5 V6 V7 : zV) (x2 : Int32) (res : zV), k50 V1 V4 x2 = some res → zR w kX9_takeFrom 4 0 0 none (zE zds w [V0, V1, V2, V3, res, V5, V6, V7]) 50 [(0, .ref (w.1 + 15)), (1, .ref (w.1 + 2)), (2, .int x2)] [] (zE zds w [V0, V1, V2, V3, V4, V5, V6, V7])) (V0 V1 V2 V3 V4 V5 V6 V7 : zV) (x2 : Int32) (res : zV) (h : fX9_takeFrom_b100 F k50 V1 V4 x2 = some res) : zR w kX9_takeFrom 4 0 0 none (zE zds w [V0, V1, V2, V3, res, V5, V6, V7]) 100 [(0, .ref (w.1 + 15)), (1, .ref (w.1 + 2)), (2, .int x2)] [] (zE zds w [V0, V1, V2, V3, V4, V5, V6, V7]) := by
  unfold fX9_takeFrom_b100 at h
  refine zR_iinc (u := (x2 + 1)) (lv' := [(0, .ref (w.1 + 15)), (1, .ref (w.1 + 2)), (2, .int (x2 + 1))]) dX9_takeFrom_100 2 rfl rfl (Nat.le_of_ble_eq_true rfl) rfl ?_
  refine zR_goto (tgt := 50) dX9_takeFrom_103 (by decide) ?_
  exact hk50 V0 V1 V2 V3 V4 V5 V6 V7 (x2 + 1) _ h
set_option maxRecDepth 100000 in
set_option maxHeartbeats 4000000 in
theorem wX9_takeFrom_l50 {w : zW} (F : Nat) : ∀ (n : Nat) (V0 V1 V2 V3 V4 V5 V6 V7 : zV) (x2 : Int32) (res : zV), fX9_takeFrom_l50 F n V1 V4 x2 = some res → zR w kX9_takeFrom 4 0 0 none (zE zds w [V0, V1, V2, V3, res, V5, V6, V7]) 50 [(0, .ref (w.1 + 15)), (1, .ref (w.1 + 2)), (2, .int x2)] [] (zE zds w [V0, V1, V2, V3, V4, V5, V6, V7]) := by
  intro n
  induction n with
  | zero =>
    intro V0 V1 V2 V3 V4 V5 V6 V7 x2 res h
    simp [fX9_takeFrom_l50] at h
  | succ n ih =>
    intro V0 V1 V2 V3 V4 V5 V6 V7 x2 res h
    rw [fX9_takeFrom_l50] at h
    refine zR_iload_n dX9_takeFrom_50 2 rfl ?_
    refine zR_aload_n dX9_takeFrom_51 1 rfl ?_
    obtain ⟨q1, hq2, h⟩ := zbd_some h
    refine zR_cV (rest := [.int x2]) (st1 := [.int q1, .int x2]) dX9_takeFrom_52 (mX10_size F V0 V1 V2 V3 V4 V5 V6 V7 _ hq2) zc_X9_55 rfl (zE_at zd_2) ⟨_, _, rfl⟩ rfl (Nat.le_of_ble_eq_true rfl) (Nat.le_of_ble_eq_true rfl) rfl ?_
    by_cases c3 : q1 ≤ x2
    · have h := zif_t h c3
      refine zR_icmp_ge_t (tgt := 106) dX9_takeFrom_55 (by decide) c3 ?_
      refine zR_aload_n dX9_takeFrom_106 0 rfl ?_
      obtain ⟨q4, hq5, h⟩ := zbd_some h
      refine zR_cV (rest := []) (st1 := []) dX9_takeFrom_107 (mX9_putInOrder F V0 V1 V2 V3 V4 V5 V6 V7 _ hq5) zc_X9_72 rfl (zE_at zd_15) ⟨_, _, rfl⟩ rfl (Nat.le_of_ble_eq_true rfl) (Nat.le_of_ble_eq_true rfl) rfl ?_
      refine zR_aload_n dX9_takeFrom_110 0 rfl ?_
      refine zG_getR dX9_takeFrom_111 zf_X9_51 zd_15 rfl rfl ?_
      refine zR_aload_n dX9_takeFrom_114 1 rfl ?_
      obtain ⟨q6, hq7, h⟩ := zbd_some h
      refine zR_cV (rest := []) (st1 := []) dX9_takeFrom_115 (mX6_takeFrom F V0 V1 V2 V3 q4 V5 V6 V7 _ hq7) zc_X9_75 rfl (zE_at zd_28) ⟨_, _, rfl⟩ rfl (Nat.le_of_ble_eq_true rfl) (Nat.le_of_ble_eq_true rfl) rfl ?_
      have h := Option.some.inj h
      subst h
      exact zR_ret dX9_takeFrom_118 rfl
    · have h := zif_f h c3
      refine zR_icmp_ge_f (tgt := 106) dX9_takeFrom_55 (by decide) c3 ?_
      refine zR_aload_n dX9_takeFrom_58 1 rfl ?_
      refine zR_iload_n dX9_takeFrom_59 2 rfl ?_
      obtain ⟨q8, hq9, h⟩ := zbd_some h
      refine zR_cV (rest := []) (st1 := [.int q8]) dX9_takeFrom_60 (mX10_kindAt F V0 V1 V2 V3 V4 V5 V6 V7 x2 _ hq9) zc_X9_61 rfl (zE_at zd_2) ⟨_, _, rfl⟩ rfl (Nat.le_of_ble_eq_true rfl) (Nat.le_of_ble_eq_true rfl) rfl ?_
      refine zR_istore_n (lv' := [(0, .ref (w.1 + 15)), (1, .ref (w.1 + 2)), (2, .int x2), (3, .int q8)]) dX9_takeFrom_63 (Nat.le_of_ble_eq_true rfl) rfl ?_
      refine zR_iload_n dX9_takeFrom_64 3 rfl ?_
      refine zR_bipush (x := (7 : Int32)) dX9_takeFrom_65 rfl ?_
      by_cases c10 : (7 : Int32) < q8
      · have h := zif_t h c10
        refine zR_icmp_gt_t (tgt := 100) dX9_takeFrom_67 (by decide) c10 ?_
        refine zR_sub (lv' := [(0, .ref (w.1 + 15)), (1, .ref (w.1 + 2)), (2, .int x2)]) [0, 1, 2] rfl ?_
        exact wX9_takeFrom_b100 F (fX9_takeFrom_l50 F n) ih V0 V1 V2 V3 V4 V5 V6 V7 x2 _ h
      · have h := zif_f h c10
        refine zR_icmp_gt_f (tgt := 100) dX9_takeFrom_67 (by decide) c10 ?_
        refine zR_aload_n dX9_takeFrom_70 0 rfl ?_
        refine zG_getR dX9_takeFrom_71 zf_X9_9 zd_15 rfl rfl ?_
        refine zR_iload_n dX9_takeFrom_74 3 rfl ?_
        obtain ⟨g11, h⟩ := zchk_some h
        refine zG_iald dX9_takeFrom_75 zd_16 rfl rfl g11 ?_
        refine zR_iload_n dX9_takeFrom_76 3 rfl ?_
        obtain ⟨q12, hq13, h⟩ := zbd_some h
        refine zR_cS (rest := [.int (zA V4 1 (q8).toNatClampNeg)]) (st1 := [.int q12, .int (zA V4 1 (q8).toNatClampNeg)]) dX9_takeFrom_77 (mX9_roomFor F (zE zds w [V0, V1, V2, V3, V4, V5, V6, V7]) q8 _ hq13) zc_X9_65 rfl rfl (Nat.le_of_ble_eq_true rfl) (Nat.le_of_ble_eq_true rfl) rfl ?_
        by_cases c14 : q12 ≤ (zA V4 1 (q8).toNatClampNeg)
        · have h := zif_t h c14
          refine zR_icmp_ge_t (tgt := 100) dX9_takeFrom_80 (by decide) c14 ?_
          refine zR_sub (lv' := [(0, .ref (w.1 + 15)), (1, .ref (w.1 + 2)), (2, .int x2)]) [0, 1, 2] rfl ?_
          exact wX9_takeFrom_b100 F (fX9_takeFrom_l50 F n) ih V0 V1 V2 V3 V4 V5 V6 V7 x2 _ h
        · have h := zif_f h c14
          refine zR_icmp_ge_f (tgt := 100) dX9_takeFrom_80 (by decide) c14 ?_
          refine zR_aload_n dX9_takeFrom_83 0 rfl ?_
          refine zR_aload_n dX9_takeFrom_84 1 rfl ?_
          refine zR_iload_n dX9_takeFrom_85 2 rfl ?_
          refine zR_iload_n dX9_takeFrom_86 3 rfl ?_
          obtain ⟨q15, hq16, h⟩ := zbd_some h
          refine zR_cV (rest := []) (st1 := []) dX9_takeFrom_87 (mX9_takeOne F V0 V1 V2 V3 V4 V5 V6 V7 x2 q8 _ hq16) zc_X9_68 rfl (zE_at zd_15) ⟨_, _, rfl⟩ rfl (Nat.le_of_ble_eq_true rfl) (Nat.le_of_ble_eq_true rfl) rfl ?_
          refine zR_aload_n dX9_takeFrom_90 0 rfl ?_
          refine zG_getR dX9_takeFrom_91 zf_X9_9 zd_15 rfl rfl ?_
          refine zR_iload_n dX9_takeFrom_94 3 rfl ?_
          refine zR_dup2 dX9_takeFrom_95 rfl rfl ?_
          obtain ⟨g17, h⟩ := zchk_some h
          refine zG_iald dX9_takeFrom_96 zd_16 rfl rfl g17 ?_
          refine zR_iconst (x := (1 : Int32)) dX9_takeFrom_97 rfl ?_
          refine zR_iadd dX9_takeFrom_98 ?_
          obtain ⟨g18, h⟩ := zchk_some h
          obtain ⟨V4_19, e20, h⟩ := zlet_some h
          refine zG_iast zds_ok dX9_takeFrom_99 zd_16 rfl rfl g18 e20 rfl ?_
          refine zR_sub (lv' := [(0, .ref (w.1 + 15)), (1, .ref (w.1 + 2)), (2, .int x2)]) [0, 1, 2] rfl ?_
          exact wX9_takeFrom_b100 F (fX9_takeFrom_l50 F n) ih V0 V1 V2 V3 V4_19 V5 V6 V7 x2 _ h
set_option maxRecDepth 100000 in
set_option maxHeartbeats 4000000 in
theorem wX9_takeFrom_l26 {w : zW} (F : Nat) : ∀ (n : Nat) (V0 V1 V2 V3 V4 V5 V6 V7 : zV) (x2 : Int32) (res : zV), fX9_takeFrom_l26 F n V1 V4 x2 = some res → zR w kX9_takeFrom 4 0 0 none (zE zds w [V0, V1, V2, V3, res, V5, V6, V7]) 26 [(0, .ref (w.1 + 15)), (1, .ref (w.1 + 2)), (2, .int x2)] [] (zE zds w [V0, V1, V2, V3, V4, V5, V6, V7]) := by
  intro n
  induction n with
  | zero =>
    intro V0 V1 V2 V3 V4 V5 V6 V7 x2 res h
    simp [fX9_takeFrom_l26] at h
  | succ n ih =>
    intro V0 V1 V2 V3 V4 V5 V6 V7 x2 res h
    rw [fX9_takeFrom_l26] at h
    refine zR_iload_n dX9_takeFrom_26 2 rfl ?_
    refine zR_aload_n dX9_takeFrom_27 0 rfl ?_
    refine zG_getR dX9_takeFrom_28 zf_X9_21 zd_15 rfl rfl ?_
    refine zG_alen (u := (8 : Int32)) dX9_takeFrom_31 zd_19 (Nat.le_of_ble_eq_true rfl) rfl rfl rfl ?_
    by_cases c21 : (8 : Int32) ≤ x2
    · have h := zif_t h c21
      refine zR_icmp_ge_t (tgt := 48) dX9_takeFrom_32 (by decide) c21 ?_
      refine zR_iconst (x := (0 : Int32)) dX9_takeFrom_48 rfl ?_
      refine zR_istore_n (lv' := [(0, .ref (w.1 + 15)), (1, .ref (w.1 + 2)), (2, .int (0 : Int32))]) dX9_takeFrom_49 (Nat.le_of_ble_eq_true rfl) rfl ?_
      exact wX9_takeFrom_l50 F F V0 V1 V2 V3 V4 V5 V6 V7 (0 : Int32) _ h
    · have h := zif_f h c21
      refine zR_icmp_ge_f (tgt := 48) dX9_takeFrom_32 (by decide) c21 ?_
      refine zR_aload_n dX9_takeFrom_35 0 rfl ?_
      refine zG_getR dX9_takeFrom_36 zf_X9_21 zd_15 rfl rfl ?_
      refine zR_iload_n dX9_takeFrom_39 2 rfl ?_
      refine zR_iconst (x := (0 : Int32)) dX9_takeFrom_40 rfl ?_
      obtain ⟨g22, h⟩ := zchk_some h
      obtain ⟨V4_23, e24, h⟩ := zlet_some h
      refine zG_iast zds_ok dX9_takeFrom_41 zd_19 rfl rfl g22 e24 rfl ?_
      refine zR_iinc (u := (x2 + 1)) (lv' := [(0, .ref (w.1 + 15)), (1, .ref (w.1 + 2)), (2, .int (x2 + 1))]) dX9_takeFrom_42 2 rfl rfl (Nat.le_of_ble_eq_true rfl) rfl ?_
      refine zR_goto (tgt := 26) dX9_takeFrom_45 (by decide) ?_
      exact ih V0 V1 V2 V3 V4_23 V5 V6 V7 (x2 + 1) _ h
set_option maxRecDepth 100000 in
set_option maxHeartbeats 4000000 in
theorem wX9_takeFrom_l2 {w : zW} (F : Nat) : ∀ (n : Nat) (V0 V1 V2 V3 V4 V5 V6 V7 : zV) (x2 : Int32) (res : zV), fX9_takeFrom_l2 F n V1 V4 x2 = some res → zR w kX9_takeFrom 4 0 0 none (zE zds w [V0, V1, V2, V3, res, V5, V6, V7]) 2 [(0, .ref (w.1 + 15)), (1, .ref (w.1 + 2)), (2, .int x2)] [] (zE zds w [V0, V1, V2, V3, V4, V5, V6, V7]) := by
  intro n
  induction n with
  | zero =>
    intro V0 V1 V2 V3 V4 V5 V6 V7 x2 res h
    simp [fX9_takeFrom_l2] at h
  | succ n ih =>
    intro V0 V1 V2 V3 V4 V5 V6 V7 x2 res h
    rw [fX9_takeFrom_l2] at h
    refine zR_iload_n dX9_takeFrom_2 2 rfl ?_
    refine zR_aload_n dX9_takeFrom_3 0 rfl ?_
    refine zG_getR dX9_takeFrom_4 zf_X9_9 zd_15 rfl rfl ?_
    refine zG_alen (u := (27 : Int32)) dX9_takeFrom_7 zd_16 (Nat.le_of_ble_eq_true rfl) rfl rfl rfl ?_
    by_cases c25 : (27 : Int32) ≤ x2
    · have h := zif_t h c25
      refine zR_icmp_ge_t (tgt := 24) dX9_takeFrom_8 (by decide) c25 ?_
      refine zR_iconst (x := (0 : Int32)) dX9_takeFrom_24 rfl ?_
      refine zR_istore_n (lv' := [(0, .ref (w.1 + 15)), (1, .ref (w.1 + 2)), (2, .int (0 : Int32))]) dX9_takeFrom_25 (Nat.le_of_ble_eq_true rfl) rfl ?_
      exact wX9_takeFrom_l26 F F V0 V1 V2 V3 V4 V5 V6 V7 (0 : Int32) _ h
    · have h := zif_f h c25
      refine zR_icmp_ge_f (tgt := 24) dX9_takeFrom_8 (by decide) c25 ?_
      refine zR_aload_n dX9_takeFrom_11 0 rfl ?_
      refine zG_getR dX9_takeFrom_12 zf_X9_9 zd_15 rfl rfl ?_
      refine zR_iload_n dX9_takeFrom_15 2 rfl ?_
      refine zR_iconst (x := (0 : Int32)) dX9_takeFrom_16 rfl ?_
      obtain ⟨g26, h⟩ := zchk_some h
      obtain ⟨V4_27, e28, h⟩ := zlet_some h
      refine zG_iast zds_ok dX9_takeFrom_17 zd_16 rfl rfl g26 e28 rfl ?_
      refine zR_iinc (u := (x2 + 1)) (lv' := [(0, .ref (w.1 + 15)), (1, .ref (w.1 + 2)), (2, .int (x2 + 1))]) dX9_takeFrom_18 2 rfl rfl (Nat.le_of_ble_eq_true rfl) rfl ?_
      refine zR_goto (tgt := 2) dX9_takeFrom_21 (by decide) ?_
      exact ih V0 V1 V2 V3 V4_27 V5 V6 V7 (x2 + 1) _ h
set_option maxRecDepth 100000 in
set_option maxHeartbeats 4000000 in
theorem mX9_takeFrom {w : zW} (F : Nat) (V0 V1 V2 V3 V4 V5 V6 V7 : zV) (res : zV) (h : fX9_takeFrom F V1 V4 = some res) : zMet w kX9_takeFrom 4 0 0 [.ref (w.1 + 15), .ref (w.1 + 2)] (zE zds w [V0, V1, V2, V3, V4, V5, V6, V7]) none (zE zds w [V0, V1, V2, V3, res, V5, V6, V7]) := by
  refine zMet_of (by decide) (Nat.le_of_ble_eq_true rfl) (Nat.le_refl 0) fun _ => ?_
  show zR w kX9_takeFrom 4 0 0 none (zE zds w [V0, V1, V2, V3, res, V5, V6, V7]) 0 [(0, .ref (w.1 + 15)), (1, .ref (w.1 + 2))] [] (zE zds w [V0, V1, V2, V3, V4, V5, V6, V7])
  unfold fX9_takeFrom at h
  refine zR_iconst (x := (0 : Int32)) dX9_takeFrom_0 rfl ?_
  refine zR_istore_n (lv' := [(0, .ref (w.1 + 15)), (1, .ref (w.1 + 2)), (2, .int (0 : Int32))]) dX9_takeFrom_1 (Nat.le_of_ble_eq_true rfl) rfl ?_
  exact wX9_takeFrom_l2 F F V0 V1 V2 V3 V4 V5 V6 V7 (0 : Int32) _ h
set_option maxRecDepth 100000 in
set_option maxHeartbeats 4000000 in
theorem wX11_read_b86 {w : zW} (F : Nat) (V0 V1 V2 V3 V4 V5 V6 V7 : zV) (res : Int32 × zV × zV × zV × zV × zV) (h : fX11_read_b86 F V0 V1 V2 V3 V4 = some res) : zR w kX11_read 6 0 0 (some (.int res.1)) (zE zds w [res.2.1, res.2.2.1, res.2.2.2.1, res.2.2.2.2.1, res.2.2.2.2.2, V5, V6, V7]) 86 [(0, .ref (w.1 + 0))] [] (zE zds w [V0, V1, V2, V3, V4, V5, V6, V7]) := by
  unfold fX11_read_b86 at h
  refine zR_aload_n dX11_read_86 0 rfl ?_
  refine zG_getR dX11_read_87 zf_X11_20 zd_0 rfl rfl ?_
  refine zG_getI dX11_read_90 zf_X11_90 zd_2 rfl rfl ?_
  have h := Option.some.inj h
  subst h
  exact zR_iret (x := (zI V1 0 5)) dX11_read_93 rfl rfl
set_option maxRecDepth 100000 in
set_option maxHeartbeats 4000000 in
theorem wX11_read_b44 {w : zW} (F : Nat) (V0 V1 V2 V3 V4 V5 V6 V7 : zV) (res : Int32 × zV × zV × zV × zV × zV) (h : fX11_read_b44 F V0 V1 V2 V3 V4 = some res) : zR w kX11_read 6 0 0 (some (.int res.1)) (zE zds w [res.2.1, res.2.2.1, res.2.2.2.1, res.2.2.2.2.1, res.2.2.2.2.2, V5, V6, V7]) 44 [(0, .ref (w.1 + 0))] [] (zE zds w [V0, V1, V2, V3, V4, V5, V6, V7]) := by
  unfold fX11_read_b44 at h
  refine zR_aload_n dX11_read_44 0 rfl ?_
  refine zR_aload_n dX11_read_45 0 rfl ?_
  refine zG_getR dX11_read_46 zf_X11_20 zd_0 rfl rfl ?_
  refine zG_getI dX11_read_49 zf_X11_94 zd_2 rfl rfl ?_
  obtain ⟨V0_1, e2, h⟩ := zlet_some h
  refine zG_putI zds_ok dX11_read_52 zf_X11_40 zt_X11_5 zd_0 rfl rfl e2 rfl ?_
  refine zR_aload_n dX11_read_55 0 rfl ?_
  refine zG_getR dX11_read_56 zf_X11_20 zd_0 rfl rfl ?_
  refine zG_getI dX11_read_59 zf_X11_90 zd_2 rfl rfl ?_
  by_cases c3 : (zI V1 0 5) = 0
  · have h := zif_t h c3
    refine zR_if_ne_f (tgt := 86) dX11_read_62 (by decide) c3 ?_
    refine zR_aload_n dX11_read_65 0 rfl ?_
    refine zG_getR dX11_read_66 zf_X11_46 zd_0 rfl rfl ?_
    refine zR_aload_n dX11_read_69 0 rfl ?_
    refine zG_getR dX11_read_70 zf_X11_20 zd_0 rfl rfl ?_
    obtain ⟨q4, hq5, h⟩ := zbd_some h
    refine zR_cV (rest := []) (st1 := []) dX11_read_73 (mX9_takeFrom F V0_1 V1 V2 V3 V4 V5 V6 V7 _ hq5) zc_X11_95 rfl (zE_at zd_15) ⟨_, _, rfl⟩ rfl (Nat.le_of_ble_eq_true rfl) (Nat.le_of_ble_eq_true rfl) rfl ?_
    refine zR_aload_n dX11_read_76 0 rfl ?_
    refine zR_iconst (x := (1 : Int32)) dX11_read_77 rfl ?_
    obtain ⟨V0_6, e7, h⟩ := zlet_some h
    refine zG_putZ zds_ok dX11_read_78 zf_X11_50 zt_X11_7 zd_0 rfl rfl (Or.inr rfl) e7 rfl ?_
    refine zR_aload_n dX11_read_81 0 rfl ?_
    refine zR_iconst (x := (0 : Int32)) dX11_read_82 rfl ?_
    obtain ⟨V0_8, e9, h⟩ := zlet_some h
    refine zG_putZ zds_ok dX11_read_83 zf_X11_63 zt_X11_9 zd_0 rfl rfl (Or.inl rfl) e9 rfl ?_
    exact wX11_read_b86 F V0_8 V1 V2 V3 q4 V5 V6 V7 _ h
  · have h := zif_f h c3
    refine zR_if_ne_t (tgt := 86) dX11_read_62 (by decide) c3 ?_
    exact wX11_read_b86 F V0_1 V1 V2 V3 V4 V5 V6 V7 _ h
set_option maxRecDepth 100000 in
set_option maxHeartbeats 4000000 in
theorem mX11_read {w : zW} (F : Nat) (V0 V1 V2 V3 V4 V5 V6 V7 : zV) (res : Int32 × zV × zV × zV × zV × zV) (h : fX11_read F V0 V1 V2 V3 V4 = some res) : zMet w kX11_read 6 0 0 [.ref (w.1 + 0)] (zE zds w [V0, V1, V2, V3, V4, V5, V6, V7]) (some (.int res.1)) (zE zds w [res.2.1, res.2.2.1, res.2.2.2.1, res.2.2.2.2.1, res.2.2.2.2.2, V5, V6, V7]) := by
  refine zMet_of (by decide) (Nat.le_of_ble_eq_true rfl) (Nat.le_refl 0) fun _ => ?_
  show zR w kX11_read 6 0 0 (some (.int res.1)) (zE zds w [res.2.1, res.2.2.1, res.2.2.2.1, res.2.2.2.2.1, res.2.2.2.2.2, V5, V6, V7]) 0 [(0, .ref (w.1 + 0))] [] (zE zds w [V0, V1, V2, V3, V4, V5, V6, V7])
  unfold fX11_read at h
  refine zR_aload_n dX11_read_0 0 rfl ?_
  refine zG_getR dX11_read_1 zf_X11_20 zd_0 rfl rfl ?_
  refine zR_aload_n dX11_read_4 0 rfl ?_
  refine zG_getR dX11_read_5 zf_X11_9 zd_0 rfl rfl ?_
  refine zR_aload_n dX11_read_8 0 rfl ?_
  refine zG_getI dX11_read_9 zf_X11_13 zd_0 rfl rfl ?_
  obtain ⟨q10, hq11, h⟩ := zbd_some h
  refine zR_cV (rest := []) (st1 := []) dX11_read_12 (mX10_cut F V0 V1 V2 V3 V4 V5 V6 V7 (zI V0 0 1) _ hq11) zc_X11_83 rfl (zE_at zd_2) ⟨_, _, rfl⟩ rfl (Nat.le_of_ble_eq_true rfl) (Nat.le_of_ble_eq_true rfl) rfl ?_
  refine zR_aload_n dX11_read_15 0 rfl ?_
  refine zR_iconst (x := (0 : Int32)) dX11_read_16 rfl ?_
  obtain ⟨V0_12, e13, h⟩ := zlet_some h
  refine zG_putI zds_ok dX11_read_17 zf_X11_13 zt_X11_1 zd_0 rfl rfl e13 rfl ?_
  refine zR_aload_n dX11_read_20 0 rfl ?_
  refine zG_getR dX11_read_21 zf_X11_29 zd_0 rfl rfl ?_
  obtain ⟨q14, hq15, h⟩ := zbd_some h
  refine zR_cV (rest := []) (st1 := []) dX11_read_24 (mX2_check F V0_12 q10 V2 V3 V4 V5 V6 V7 _ hq15) zc_X11_87 rfl (zE_at zd_7) ⟨_, _, rfl⟩ rfl (Nat.le_of_ble_eq_true rfl) (Nat.le_of_ble_eq_true rfl) rfl ?_
  refine zR_aload_n dX11_read_27 0 rfl ?_
  refine zG_getR dX11_read_28 zf_X11_20 zd_0 rfl rfl ?_
  refine zG_getI dX11_read_31 zf_X11_90 zd_2 rfl rfl ?_
  by_cases c16 : (zI q14.1 0 5) = 0
  · have h := zif_t h c16
    refine zR_if_ne_f (tgt := 44) dX11_read_34 (by decide) c16 ?_
    refine zR_aload_n dX11_read_37 0 rfl ?_
    refine zG_getR dX11_read_38 zf_X11_36 zd_0 rfl rfl ?_
    obtain ⟨q17, hq18, h⟩ := zbd_some h
    refine zR_cV (rest := []) (st1 := []) dX11_read_41 (mX5_check F V0_12 q14.1 q14.2 V3 V4 V5 V6 V7 _ hq18) zc_X11_93 rfl (zE_at zd_9) ⟨_, _, rfl⟩ rfl (Nat.le_of_ble_eq_true rfl) (Nat.le_of_ble_eq_true rfl) rfl ?_
    exact wX11_read_b44 F V0_12 q17.1 q14.2 q17.2 V4 V5 V6 V7 _ h
  · have h := zif_f h c16
    refine zR_if_ne_t (tgt := 44) dX11_read_34 (by decide) c16 ?_
    exact wX11_read_b44 F V0_12 q14.1 q14.2 V3 V4 V5 V6 V7 _ h
set_option maxRecDepth 100000 in
set_option maxHeartbeats 4000000 in
theorem mX11_place {w : zW} (F : Nat) (V0 V1 V2 V3 V4 V5 V6 V7 : zV) (res : Int32) (h : fX11_place F V0 = some res) : zMet w kX11_place 0 0 0 [.ref (w.1 + 0)] (zE zds w [V0, V1, V2, V3, V4, V5, V6, V7]) (some (.int res)) (zE zds w [V0, V1, V2, V3, V4, V5, V6, V7]) := by
  refine zMet_of (by decide) (Nat.le_of_ble_eq_true rfl) (Nat.le_refl 0) fun _ => ?_
  show zR w kX11_place 0 0 0 (some (.int res)) (zE zds w [V0, V1, V2, V3, V4, V5, V6, V7]) 0 [(0, .ref (w.1 + 0))] [] (zE zds w [V0, V1, V2, V3, V4, V5, V6, V7])
  unfold fX11_place at h
  refine zR_aload_n dX11_place_0 0 rfl ?_
  refine zG_getI dX11_place_1 zf_X11_40 zd_0 rfl rfl ?_
  have h := Option.some.inj h
  subst h
  exact zR_iret (x := (zI V0 0 5)) dX11_place_4 rfl rfl
set_option maxRecDepth 100000 in
set_option maxHeartbeats 4000000 in
theorem wX8_clear_5_l2 {w : zW} (F : Nat) : ∀ (n : Nat) (V0 V1 V2 V3 V4 V5 V6 V7 : zV) (x1 : Int32) (res : zV), fX8_clear_l2 F n V5 x1 = some res → zR w kX8_clear 0 0 0 none (zE zds w [V0, V1, V2, V3, V4, res, V6, V7]) 2 [(0, .ref (w.1 + 43)), (1, .int x1)] [] (zE zds w [V0, V1, V2, V3, V4, V5, V6, V7]) := by
  intro n
  induction n with
  | zero =>
    intro V0 V1 V2 V3 V4 V5 V6 V7 x1 res h
    simp [fX8_clear_l2] at h
  | succ n ih =>
    intro V0 V1 V2 V3 V4 V5 V6 V7 x1 res h
    rw [fX8_clear_l2] at h
    refine zR_iload_n dX8_clear_2 1 rfl ?_
    refine zR_aload_n dX8_clear_3 0 rfl ?_
    refine zG_getR dX8_clear_4 zf_X8_9 zd_43 rfl rfl ?_
    refine zG_alen (u := (16 : Int32)) dX8_clear_7 zd_44 (Nat.le_of_ble_eq_true rfl) rfl rfl rfl ?_
    by_cases c1 : (16 : Int32) ≤ x1
    · have h := zif_t h c1
      refine zR_icmp_ge_t (tgt := 45) dX8_clear_8 (by decide) c1 ?_
      have h := Option.some.inj h
      subst h
      exact zR_ret dX8_clear_45 rfl
    · have h := zif_f h c1
      refine zR_icmp_ge_f (tgt := 45) dX8_clear_8 (by decide) c1 ?_
      refine zR_aload_n dX8_clear_11 0 rfl ?_
      refine zG_getR dX8_clear_12 zf_X8_9 zd_43 rfl rfl ?_
      refine zR_iload_n dX8_clear_15 1 rfl ?_
      refine zR_iconst (x := (0 : Int32)) dX8_clear_16 rfl ?_
      obtain ⟨g2, h⟩ := zchk_some h
      obtain ⟨V5_3, e4, h⟩ := zlet_some h
      refine zG_iast zds_ok dX8_clear_17 zd_44 rfl rfl g2 e4 rfl ?_
      refine zR_aload_n dX8_clear_18 0 rfl ?_
      refine zG_getR dX8_clear_19 zf_X8_15 zd_43 rfl rfl ?_
      refine zR_iload_n dX8_clear_22 1 rfl ?_
      refine zR_iconst (x := (0 : Int32)) dX8_clear_23 rfl ?_
      obtain ⟨g5, h⟩ := zchk_some h
      obtain ⟨V5_6, e7, h⟩ := zlet_some h
      refine zG_iast zds_ok dX8_clear_24 zd_45 rfl rfl g5 e7 rfl ?_
      refine zR_aload_n dX8_clear_25 0 rfl ?_
      refine zG_getR dX8_clear_26 zf_X8_18 zd_43 rfl rfl ?_
      refine zR_iload_n dX8_clear_29 1 rfl ?_
      refine zR_iconst (x := (0 : Int32)) dX8_clear_30 rfl ?_
      obtain ⟨g8, h⟩ := zchk_some h
      obtain ⟨V5_9, e10, h⟩ := zlet_some h
      refine zG_iast zds_ok dX8_clear_31 zd_46 rfl rfl g8 e10 rfl ?_
      refine zR_aload_n dX8_clear_32 0 rfl ?_
      refine zG_getR dX8_clear_33 zf_X8_21 zd_43 rfl rfl ?_
      refine zR_iload_n dX8_clear_36 1 rfl ?_
      refine zR_iconst (x := (0 : Int32)) dX8_clear_37 rfl ?_
      obtain ⟨g11, h⟩ := zchk_some h
      obtain ⟨V5_12, e13, h⟩ := zlet_some h
      refine zG_iast zds_ok dX8_clear_38 zd_47 rfl rfl g11 e13 rfl ?_
      refine zR_iinc (u := (x1 + 1)) (lv' := [(0, .ref (w.1 + 43)), (1, .int (x1 + 1))]) dX8_clear_39 1 rfl rfl (Nat.le_of_ble_eq_true rfl) rfl ?_
      refine zR_goto (tgt := 2) dX8_clear_42 (by decide) ?_
      exact ih V0 V1 V2 V3 V4 V5_12 V6 V7 (x1 + 1) _ h
set_option maxRecDepth 100000 in
set_option maxHeartbeats 4000000 in
theorem mX8_clear_5 {w : zW} (F : Nat) (V0 V1 V2 V3 V4 V5 V6 V7 : zV) (res : zV) (h : fX8_clear F V5 = some res) : zMet w kX8_clear 0 0 0 [.ref (w.1 + 43)] (zE zds w [V0, V1, V2, V3, V4, V5, V6, V7]) none (zE zds w [V0, V1, V2, V3, V4, res, V6, V7]) := by
  refine zMet_of (by decide) (Nat.le_of_ble_eq_true rfl) (Nat.le_refl 0) fun _ => ?_
  show zR w kX8_clear 0 0 0 none (zE zds w [V0, V1, V2, V3, V4, res, V6, V7]) 0 [(0, .ref (w.1 + 43))] [] (zE zds w [V0, V1, V2, V3, V4, V5, V6, V7])
  unfold fX8_clear at h
  refine zR_iconst (x := (0 : Int32)) dX8_clear_0 rfl ?_
  refine zR_istore_n (lv' := [(0, .ref (w.1 + 43)), (1, .int (0 : Int32))]) dX8_clear_1 (Nat.le_of_ble_eq_true rfl) rfl ?_
  exact wX8_clear_5_l2 F F V0 V1 V2 V3 V4 V5 V6 V7 (0 : Int32) _ h
set_option maxRecDepth 100000 in
set_option maxHeartbeats 4000000 in
theorem wX0_clear_5_l7 {w : zW} (F : Nat) : ∀ (n : Nat) (V0 V1 V2 V3 V4 V5 V6 V7 : zV) (x1 : Int32) (res : zV), fX0_clear_l7 F n V5 x1 = some res → zR w kX0_clear 0 0 0 none (zE zds w [V0, V1, V2, V3, V4, res, V6, V7]) 7 [(0, .ref (w.1 + 48)), (1, .int x1)] [] (zE zds w [V0, V1, V2, V3, V4, V5, V6, V7]) := by
  intro n
  induction n with
  | zero =>
    intro V0 V1 V2 V3 V4 V5 V6 V7 x1 res h
    simp [fX0_clear_l7] at h
  | succ n ih =>
    intro V0 V1 V2 V3 V4 V5 V6 V7 x1 res h
    rw [fX0_clear_l7] at h
    refine zR_iload_n dX0_clear_7 1 rfl ?_
    refine zR_aload_n dX0_clear_8 0 rfl ?_
    refine zG_getR dX0_clear_9 zf_X0_9 zd_48 rfl rfl ?_
    refine zG_alen (u := (8 : Int32)) dX0_clear_12 zd_49 (Nat.le_of_ble_eq_true rfl) rfl rfl rfl ?_
    by_cases c1 : (8 : Int32) ≤ x1
    · have h := zif_t h c1
      refine zR_icmp_ge_t (tgt := 36) dX0_clear_13 (by decide) c1 ?_
      have h := Option.some.inj h
      subst h
      exact zR_ret dX0_clear_36 rfl
    · have h := zif_f h c1
      refine zR_icmp_ge_f (tgt := 36) dX0_clear_13 (by decide) c1 ?_
      refine zR_aload_n dX0_clear_16 0 rfl ?_
      refine zG_getR dX0_clear_17 zf_X0_9 zd_48 rfl rfl ?_
      refine zR_iload_n dX0_clear_20 1 rfl ?_
      refine zR_iconst (x := (0 : Int32)) dX0_clear_21 rfl ?_
      obtain ⟨g2, h⟩ := zchk_some h
      obtain ⟨V5_3, e4, h⟩ := zlet_some h
      refine zG_iast zds_ok dX0_clear_22 zd_49 rfl rfl g2 e4 rfl ?_
      refine zR_aload_n dX0_clear_23 0 rfl ?_
      refine zG_getR dX0_clear_24 zf_X0_15 zd_48 rfl rfl ?_
      refine zR_iload_n dX0_clear_27 1 rfl ?_
      refine zR_iconst (x := (0 : Int32)) dX0_clear_28 rfl ?_
      obtain ⟨g5, h⟩ := zchk_some h
      obtain ⟨V5_6, e7, h⟩ := zlet_some h
      refine zG_iast zds_ok dX0_clear_29 zd_50 rfl rfl g5 e7 rfl ?_
      refine zR_iinc (u := (x1 + 1)) (lv' := [(0, .ref (w.1 + 48)), (1, .int (x1 + 1))]) dX0_clear_30 1 rfl rfl (Nat.le_of_ble_eq_true rfl) rfl ?_
      refine zR_goto (tgt := 7) dX0_clear_33 (by decide) ?_
      exact ih V0 V1 V2 V3 V4 V5_6 V6 V7 (x1 + 1) _ h
set_option maxRecDepth 100000 in
set_option maxHeartbeats 4000000 in
theorem mX0_clear_5 {w : zW} (F : Nat) (V0 V1 V2 V3 V4 V5 V6 V7 : zV) (res : zV) (h : fX0_clear F V5 = some res) : zMet w kX0_clear 0 0 0 [.ref (w.1 + 48)] (zE zds w [V0, V1, V2, V3, V4, V5, V6, V7]) none (zE zds w [V0, V1, V2, V3, V4, res, V6, V7]) := by
  refine zMet_of (by decide) (Nat.le_of_ble_eq_true rfl) (Nat.le_refl 0) fun _ => ?_
  show zR w kX0_clear 0 0 0 none (zE zds w [V0, V1, V2, V3, V4, res, V6, V7]) 0 [(0, .ref (w.1 + 48))] [] (zE zds w [V0, V1, V2, V3, V4, V5, V6, V7])
  unfold fX0_clear at h
  refine zR_aload_n dX0_clear_0 0 rfl ?_
  refine zR_iconst (x := (0 : Int32)) dX0_clear_1 rfl ?_
  obtain ⟨V5_8, e9, h⟩ := zlet_some h
  refine zG_putI zds_ok dX0_clear_2 zf_X0_21 zt_X0_4 zd_48 rfl rfl e9 rfl ?_
  refine zR_iconst (x := (0 : Int32)) dX0_clear_5 rfl ?_
  refine zR_istore_n (lv' := [(0, .ref (w.1 + 48)), (1, .int (0 : Int32))]) dX0_clear_6 (Nat.le_of_ble_eq_true rfl) rfl ?_
  exact wX0_clear_5_l7 F F V0 V1 V2 V3 V4 V5_8 V6 V7 (0 : Int32) _ h
set_option maxRecDepth 100000 in
set_option maxHeartbeats 4000000 in
theorem mX3_turnOver_5 {w : zW} (F : Nat) (V0 V1 V2 V3 V4 V5 V6 V7 : zV) (res : zV) (h : fX3_turnOver F V5 = some res) : zMet w kX3_turnOver 0 0 0 [.ref (w.1 + 52)] (zE zds w [V0, V1, V2, V3, V4, V5, V6, V7]) none (zE zds w [V0, V1, V2, V3, V4, res, V6, V7]) := by
  refine zMet_of (by decide) (Nat.le_of_ble_eq_true rfl) (Nat.le_refl 0) fun _ => ?_
  show zR w kX3_turnOver 0 0 0 none (zE zds w [V0, V1, V2, V3, V4, res, V6, V7]) 0 [(0, .ref (w.1 + 52))] [] (zE zds w [V0, V1, V2, V3, V4, V5, V6, V7])
  unfold fX3_turnOver at h
  refine zR_aload_n dX3_turnOver_0 0 rfl ?_
  refine zG_getP dX3_turnOver_1 zf_X3_35 zd_52 rfl rfl ?_
  refine zR_astore_n (lv' := [(0, .ref (w.1 + 52)), (1, .ref (w.1 + (38 + zP V5 14 2)))]) dX3_turnOver_4 (Nat.le_of_ble_eq_true rfl) rfl ?_
  refine zR_aload_n dX3_turnOver_5 0 rfl ?_
  refine zR_aload_n dX3_turnOver_6 0 rfl ?_
  refine zG_getP dX3_turnOver_7 zf_X3_31 zd_52 rfl rfl ?_
  obtain ⟨V5_1, e2, h⟩ := zlet_some h
  refine zG_putP zds_ok dX3_turnOver_10 zf_X3_35 zt_X3_2 zd_52 rfl rfl e2 rfl ?_
  refine zR_aload_n dX3_turnOver_13 0 rfl ?_
  refine zR_aload_n dX3_turnOver_14 0 rfl ?_
  refine zG_getI dX3_turnOver_15 zf_X3_15 zd_52 rfl rfl ?_
  obtain ⟨V5_3, e4, h⟩ := zlet_some h
  refine zG_putI zds_ok dX3_turnOver_18 zf_X3_18 zt_X3_6 zd_52 rfl rfl e4 rfl ?_
  refine zR_aload_n dX3_turnOver_21 0 rfl ?_
  refine zR_aload_n dX3_turnOver_22 1 rfl ?_
  obtain ⟨V5_5, e6, h⟩ := zlet_some h
  refine zG_putP zds_ok dX3_turnOver_23 zf_X3_31 zt_X3_1 zd_52 rfl rfl e6 rfl ?_
  refine zR_aload_n dX3_turnOver_26 0 rfl ?_
  refine zR_iconst (x := (0 : Int32)) dX3_turnOver_27 rfl ?_
  obtain ⟨V5_7, e8, h⟩ := zlet_some h
  refine zG_putI zds_ok dX3_turnOver_28 zf_X3_15 zt_X3_5 zd_52 rfl rfl e8 rfl ?_
  refine zR_aload_n dX3_turnOver_31 0 rfl ?_
  refine zR_dup dX3_turnOver_32 rfl ?_
  refine zG_getI dX3_turnOver_33 zf_X3_11 zd_52 rfl rfl ?_
  refine zR_iconst (x := (1 : Int32)) dX3_turnOver_36 rfl ?_
  refine zR_iadd dX3_turnOver_37 ?_
  obtain ⟨V5_9, e10, h⟩ := zlet_some h
  refine zG_putI zds_ok dX3_turnOver_38 zf_X3_11 zt_X3_4 zd_52 rfl rfl e10 rfl ?_
  have h := Option.some.inj h
  subst h
  exact zR_ret dX3_turnOver_41 rfl
set_option maxRecDepth 100000 in
set_option maxHeartbeats 4000000 in
theorem mX3_put_5 {w : zW} (F : Nat) (V0 V1 V2 V3 V4 V5 V6 V7 : zV) (x1 : Int32) (res : zV) (h : fX3_put F V5 x1 = some res) : zMet w kX3_put 0 0 0 [.ref (w.1 + 52), .int x1] (zE zds w [V0, V1, V2, V3, V4, V5, V6, V7]) none (zE zds w [V0, V1, V2, V3, V4, res, V6, V7]) := by
  refine zMet_of (by decide) (Nat.le_of_ble_eq_true rfl) (Nat.le_refl 0) fun _ => ?_
  show zR w kX3_put 0 0 0 none (zE zds w [V0, V1, V2, V3, V4, res, V6, V7]) 0 [(0, .ref (w.1 + 52)), (1, .int x1)] [] (zE zds w [V0, V1, V2, V3, V4, V5, V6, V7])
  unfold fX3_put at h
  refine zR_iload_n dX3_put_0 1 rfl ?_
  by_cases c1 : x1 < 0
  · have h := zif_t h c1
    refine zR_if_lt_t (tgt := 68) dX3_put_1 (by decide) c1 ?_
    have h := Option.some.inj h
    subst h
    exact zR_ret dX3_put_68 rfl
  · have h := zif_f h c1
    refine zR_if_lt_f (tgt := 68) dX3_put_1 (by decide) c1 ?_
    refine zR_iload_n dX3_put_4 1 rfl ?_
    refine zR_aload_n dX3_put_5 0 rfl ?_
    refine zG_getR dX3_put_6 zf_X3_38 zd_52 rfl rfl ?_
    refine zG_alen (u := (nI (zN V5 17))) dX3_put_9 zd_55 (Nat.le_of_ble_eq_true rfl) rfl rfl rfl ?_
    by_cases c2 : (nI (zN V5 17)) ≤ x1
    · have h := zif_t h c2
      refine zR_icmp_ge_t (tgt := 68) dX3_put_10 (by decide) c2 ?_
      have h := Option.some.inj h
      subst h
      exact zR_ret dX3_put_68 rfl
    · have h := zif_f h c2
      refine zR_icmp_ge_f (tgt := 68) dX3_put_10 (by decide) c2 ?_
      refine zR_aload_n dX3_put_13 0 rfl ?_
      refine zG_getR dX3_put_14 zf_X3_38 zd_52 rfl rfl ?_
      refine zR_iload_n dX3_put_17 1 rfl ?_
      obtain ⟨g3, h⟩ := zchk_some h
      refine zG_iald dX3_put_18 zd_55 rfl rfl g3 ?_
      refine zR_aload_n dX3_put_19 0 rfl ?_
      refine zG_getI dX3_put_20 zf_X3_11 zd_52 rfl rfl ?_
      by_cases c4 : (zA V5 17 (x1).toNatClampNeg) = (zI V5 14 4)
      · have h := zif_t h c4
        refine zR_icmp_eq_t (tgt := 68) dX3_put_23 (by decide) c4 ?_
        have h := Option.some.inj h
        subst h
        exact zR_ret dX3_put_68 rfl
      · have h := zif_f h c4
        refine zR_icmp_eq_f (tgt := 68) dX3_put_23 (by decide) c4 ?_
        refine zR_aload_n dX3_put_26 0 rfl ?_
        refine zG_getI dX3_put_27 zf_X3_15 zd_52 rfl rfl ?_
        refine zR_aload_n dX3_put_30 0 rfl ?_
        refine zG_getP dX3_put_31 zf_X3_31 zd_52 rfl rfl ?_
        obtain ⟨g5, h⟩ := zchk_some h
        have i6 : zds[38 + (zP V5 14 1)]? = some (.inr (0, 5, (zP V5 14 1), 1, 0)) := by rcases g5 with u | u <;> (rw [u]; rfl)
        refine zG_alen (u := (nI (zN V5 (zP V5 14 1)))) dX3_put_34 i6 (Nat.le_of_ble_eq_true rfl) rfl rfl rfl ?_
        by_cases c7 : (nI (zN V5 (zP V5 14 1))) ≤ (zI V5 14 5)
        · have h := zif_t h c7
          refine zR_icmp_ge_t (tgt := 68) dX3_put_35 (by decide) c7 ?_
          have h := Option.some.inj h
          subst h
          exact zR_ret dX3_put_68 rfl
        · have h := zif_f h c7
          refine zR_icmp_ge_f (tgt := 68) dX3_put_35 (by decide) c7 ?_
          refine zR_aload_n dX3_put_38 0 rfl ?_
          refine zG_getR dX3_put_39 zf_X3_38 zd_52 rfl rfl ?_
          refine zR_iload_n dX3_put_42 1 rfl ?_
          refine zR_aload_n dX3_put_43 0 rfl ?_
          refine zG_getI dX3_put_44 zf_X3_11 zd_52 rfl rfl ?_
          obtain ⟨g8, h⟩ := zchk_some h
          obtain ⟨V5_9, e10, h⟩ := zlet_some h
          refine zG_iast zds_ok dX3_put_47 zd_55 rfl rfl g8 e10 rfl ?_
          refine zR_aload_n dX3_put_48 0 rfl ?_
          refine zG_getP dX3_put_49 zf_X3_31 zd_52 rfl rfl ?_
          refine zR_aload_n dX3_put_52 0 rfl ?_
          refine zG_getI dX3_put_53 zf_X3_15 zd_52 rfl rfl ?_
          refine zR_iload_n dX3_put_56 1 rfl ?_
          obtain ⟨g11, h⟩ := zchk_some h
          have i12 : zds[38 + (zP V5_9 14 1)]? = some (.inr (0, 5, (zP V5_9 14 1), 1, 0)) := by rcases g11 with u | u <;> (rw [u]; rfl)
          obtain ⟨g13, h⟩ := zchk_some h
          obtain ⟨V5_14, e15, h⟩ := zlet_some h
          refine zG_iast zds_ok dX3_put_57 i12 rfl rfl g13 e15 rfl ?_
          refine zR_aload_n dX3_put_58 0 rfl ?_
          refine zR_dup dX3_put_59 rfl ?_
          refine zG_getI dX3_put_60 zf_X3_15 zd_52 rfl rfl ?_
          refine zR_iconst (x := (1 : Int32)) dX3_put_63 rfl ?_
          refine zR_iadd dX3_put_64 ?_
          obtain ⟨V5_16, e17, h⟩ := zlet_some h
          refine zG_putI zds_ok dX3_put_65 zf_X3_15 zt_X3_5 zd_52 rfl rfl e17 rfl ?_
          have h := Option.some.inj h
          subst h
          exact zR_ret dX3_put_68 rfl
set_option maxRecDepth 100000 in
set_option maxHeartbeats 4000000 in
theorem mX3_clear_5 {w : zW} (F : Nat) (V0 V1 V2 V3 V4 V5 V6 V7 : zV) (res : zV) (h : fX3_clear F V4 V5 = some res) : zMet w kX3_clear 1 0 0 [.ref (w.1 + 52)] (zE zds w [V0, V1, V2, V3, V4, V5, V6, V7]) none (zE zds w [V0, V1, V2, V3, V4, res, V6, V7]) := by
  refine zMet_of (by decide) (Nat.le_of_ble_eq_true rfl) (Nat.le_refl 0) fun _ => ?_
  show zR w kX3_clear 1 0 0 none (zE zds w [V0, V1, V2, V3, V4, res, V6, V7]) 0 [(0, .ref (w.1 + 52))] [] (zE zds w [V0, V1, V2, V3, V4, V5, V6, V7])
  unfold fX3_clear at h
  refine zR_aload_n dX3_clear_0 0 rfl ?_
  refine zR_iconst (x := (0 : Int32)) dX3_clear_1 rfl ?_
  obtain ⟨V5_1, e2, h⟩ := zlet_some h
  refine zG_putI zds_ok dX3_clear_2 zf_X3_21 zt_X3_7 zd_52 rfl rfl e2 rfl ?_
  refine zR_aload_n dX3_clear_5 0 rfl ?_
  refine zR_iconst (x := (0 : Int32)) dX3_clear_6 rfl ?_
  obtain ⟨V5_3, e4, h⟩ := zlet_some h
  refine zG_putI zds_ok dX3_clear_7 zf_X3_24 zt_X3_8 zd_52 rfl rfl e4 rfl ?_
  refine zR_aload_n dX3_clear_10 0 rfl ?_
  obtain ⟨q5, hq6, h⟩ := zbd_some h
  refine zR_cV (rest := []) (st1 := []) dX3_clear_11 (mX3_turnOver_5 F V0 V1 V2 V3 V4 V5_3 V6 V7 _ hq6) zc_X3_41 rfl (zE_at zd_52) ⟨_, _, rfl⟩ rfl (Nat.le_of_ble_eq_true rfl) (Nat.le_of_ble_eq_true rfl) rfl ?_
  refine zR_aload_n dX3_clear_14 0 rfl ?_
  refine zG_getR dX3_clear_15 zf_X3_27 zd_52 rfl rfl ?_
  refine zG_getR dX3_clear_18 zf_X3_44 zd_15 rfl rfl ?_
  refine zR_iconst (x := (4 : Int32)) dX3_clear_21 rfl ?_
  refine zG_iald dX3_clear_22 zd_16 rfl rfl (show zix (4 : Int32) 27 from by decide) ?_
  by_cases c7 : (zA V4 1 ((4 : Int32)).toNatClampNeg) ≤ 0
  · have h := zif_t h c7
    refine zR_if_le_t (tgt := 31) dX3_clear_23 (by decide) c7 ?_
    have h := Option.some.inj h
    subst h
    exact zR_ret dX3_clear_31 rfl
  · have h := zif_f h c7
    refine zR_if_le_f (tgt := 31) dX3_clear_23 (by decide) c7 ?_
    refine zR_aload_n dX3_clear_26 0 rfl ?_
    refine zR_iconst (x := (0 : Int32)) dX3_clear_27 rfl ?_
    obtain ⟨q8, hq9, h⟩ := zbd_some h
    refine zR_cV (rest := []) (st1 := []) dX3_clear_28 (mX3_put_5 F V0 V1 V2 V3 V4 q5 V6 V7 (0 : Int32) _ hq9) zc_X3_49 rfl (zE_at zd_52) ⟨_, _, rfl⟩ rfl (Nat.le_of_ble_eq_true rfl) (Nat.le_of_ble_eq_true rfl) rfl ?_
    have h := Option.some.inj h
    subst h
    exact zR_ret dX3_clear_31 rfl
set_option maxRecDepth 100000 in
set_option maxHeartbeats 4000000 in
theorem wX4_clear_5_l7 {w : zW} (F : Nat) : ∀ (n : Nat) (V0 V1 V2 V3 V4 V5 V6 V7 : zV) (x1 : Int32) (res : zV), fX4_clear_l7 F n V5 x1 = some res → zR w kX4_clear 0 0 0 none (zE zds w [V0, V1, V2, V3, V4, res, V6, V7]) 7 [(0, .ref (w.1 + 56)), (1, .int x1)] [] (zE zds w [V0, V1, V2, V3, V4, V5, V6, V7]) := by
  intro n
  induction n with
  | zero =>
    intro V0 V1 V2 V3 V4 V5 V6 V7 x1 res h
    simp [fX4_clear_l7] at h
  | succ n ih =>
    intro V0 V1 V2 V3 V4 V5 V6 V7 x1 res h
    rw [fX4_clear_l7] at h
    refine zR_iload_n dX4_clear_7 1 rfl ?_
    refine zR_aload_n dX4_clear_8 0 rfl ?_
    refine zG_getR dX4_clear_9 zf_X4_9 zd_56 rfl rfl ?_
    refine zG_alen (u := (12 : Int32)) dX4_clear_12 zd_57 (Nat.le_of_ble_eq_true rfl) rfl rfl rfl ?_
    by_cases c1 : (12 : Int32) ≤ x1
    · have h := zif_t h c1
      refine zR_icmp_ge_t (tgt := 50) dX4_clear_13 (by decide) c1 ?_
      have h := Option.some.inj h
      subst h
      exact zR_ret dX4_clear_50 rfl
    · have h := zif_f h c1
      refine zR_icmp_ge_f (tgt := 50) dX4_clear_13 (by decide) c1 ?_
      refine zR_aload_n dX4_clear_16 0 rfl ?_
      refine zG_getR dX4_clear_17 zf_X4_9 zd_56 rfl rfl ?_
      refine zR_iload_n dX4_clear_20 1 rfl ?_
      refine zR_iconst (x := (0 : Int32)) dX4_clear_21 rfl ?_
      obtain ⟨g2, h⟩ := zchk_some h
      obtain ⟨V5_3, e4, h⟩ := zlet_some h
      refine zG_zast zds_ok dX4_clear_22 zd_57 rfl rfl g2 e4 rfl ?_
      refine zR_aload_n dX4_clear_23 0 rfl ?_
      refine zG_getR dX4_clear_24 zf_X4_15 zd_56 rfl rfl ?_
      refine zR_iload_n dX4_clear_27 1 rfl ?_
      refine zR_iconst (x := (0 : Int32)) dX4_clear_28 rfl ?_
      obtain ⟨g5, h⟩ := zchk_some h
      obtain ⟨V5_6, e7, h⟩ := zlet_some h
      refine zG_iast zds_ok dX4_clear_29 zd_58 rfl rfl g5 e7 rfl ?_
      refine zR_aload_n dX4_clear_30 0 rfl ?_
      refine zG_getR dX4_clear_31 zf_X4_19 zd_56 rfl rfl ?_
      refine zR_iload_n dX4_clear_34 1 rfl ?_
      refine zR_iconst (x := (0 : Int32)) dX4_clear_35 rfl ?_
      obtain ⟨g8, h⟩ := zchk_some h
      obtain ⟨V5_9, e10, h⟩ := zlet_some h
      refine zG_iast zds_ok dX4_clear_36 zd_59 rfl rfl g8 e10 rfl ?_
      refine zR_aload_n dX4_clear_37 0 rfl ?_
      refine zG_getR dX4_clear_38 zf_X4_22 zd_56 rfl rfl ?_
      refine zR_iload_n dX4_clear_41 1 rfl ?_
      refine zR_iconst (x := (0 : Int32)) dX4_clear_42 rfl ?_
      obtain ⟨g11, h⟩ := zchk_some h
      obtain ⟨V5_12, e13, h⟩ := zlet_some h
      refine zG_iast zds_ok dX4_clear_43 zd_60 rfl rfl g11 e13 rfl ?_
      refine zR_iinc (u := (x1 + 1)) (lv' := [(0, .ref (w.1 + 56)), (1, .int (x1 + 1))]) dX4_clear_44 1 rfl rfl (Nat.le_of_ble_eq_true rfl) rfl ?_
      refine zR_goto (tgt := 7) dX4_clear_47 (by decide) ?_
      exact ih V0 V1 V2 V3 V4 V5_12 V6 V7 (x1 + 1) _ h
set_option maxRecDepth 100000 in
set_option maxHeartbeats 4000000 in
theorem mX4_clear_5 {w : zW} (F : Nat) (V0 V1 V2 V3 V4 V5 V6 V7 : zV) (res : zV) (h : fX4_clear F V5 = some res) : zMet w kX4_clear 0 0 0 [.ref (w.1 + 56)] (zE zds w [V0, V1, V2, V3, V4, V5, V6, V7]) none (zE zds w [V0, V1, V2, V3, V4, res, V6, V7]) := by
  refine zMet_of (by decide) (Nat.le_of_ble_eq_true rfl) (Nat.le_refl 0) fun _ => ?_
  show zR w kX4_clear 0 0 0 none (zE zds w [V0, V1, V2, V3, V4, res, V6, V7]) 0 [(0, .ref (w.1 + 56))] [] (zE zds w [V0, V1, V2, V3, V4, V5, V6, V7])
  unfold fX4_clear at h
  refine zR_aload_n dX4_clear_0 0 rfl ?_
  refine zR_iconst (x := (0 : Int32)) dX4_clear_1 rfl ?_
  obtain ⟨V5_14, e15, h⟩ := zlet_some h
  refine zG_putI zds_ok dX4_clear_2 zf_X4_28 zt_X4_6 zd_56 rfl rfl e15 rfl ?_
  refine zR_iconst (x := (0 : Int32)) dX4_clear_5 rfl ?_
  refine zR_istore_n (lv' := [(0, .ref (w.1 + 56)), (1, .int (0 : Int32))]) dX4_clear_6 (Nat.le_of_ble_eq_true rfl) rfl ?_
  exact wX4_clear_5_l7 F F V0 V1 V2 V3 V4 V5_14 V6 V7 (0 : Int32) _ h
set_option maxRecDepth 100000 in
set_option maxHeartbeats 4000000 in
theorem wX3_moved_b56 {w : zW} (F : Nat) (S : zS) (x3 : Int32) (x4 : Int32) (x5 : Int32) (res : Int32) (h : fX3_moved_b56 F x3 x4 x5 = some res) : zR w kX3_moved 1 0 0 (some (.int res)) S 56 [(3, .int x3), (4, .int x4), (5, .int x5)] [] S := by
  unfold fX3_moved_b56 at h
  refine zR_iload_n dX3_moved_56 0 rfl ?_
  refine zR_iload dX3_moved_57 1 rfl ?_
  refine zR_iload dX3_moved_59 2 rfl ?_
  refine zR_mmax dX3_moved_61 zmw_X3_76 (Nat.le_of_ble_eq_true rfl) (Nat.le_of_ble_eq_true rfl) ?_
  refine zR_mmax dX3_moved_64 zmw_X3_76 (Nat.le_of_ble_eq_true rfl) (Nat.le_of_ble_eq_true rfl) ?_
  obtain ⟨y1, e2, h⟩ := zlet_some h
  refine zR_nmI e2 ?_
  refine zR_istore (lv' := [(3, .int x3), (4, .int x4), (5, .int x5), (6, .int y1)]) dX3_moved_67 (Nat.le_of_ble_eq_true rfl) rfl ?_
  refine zR_iload_n dX3_moved_69 0 rfl ?_
  refine zR_iload dX3_moved_70 1 rfl ?_
  refine zR_iload dX3_moved_72 2 rfl ?_
  refine zR_mmin dX3_moved_74 zmw_X3_82 (Nat.le_of_ble_eq_true rfl) (Nat.le_of_ble_eq_true rfl) ?_
  refine zR_mmin dX3_moved_77 zmw_X3_82 (Nat.le_of_ble_eq_true rfl) (Nat.le_of_ble_eq_true rfl) ?_
  obtain ⟨y3, e4, h⟩ := zlet_some h
  refine zR_nmI e4 ?_
  refine zR_istore (lv' := [(3, .int x3), (4, .int x4), (5, .int x5), (6, .int y1), (7, .int y3)]) dX3_moved_80 (Nat.le_of_ble_eq_true rfl) rfl ?_
  refine zR_iload dX3_moved_82 3 rfl ?_
  refine zR_bipush (x := (9 : Int32)) dX3_moved_84 rfl ?_
  refine zR_imul dX3_moved_86 ?_
  refine zR_iload_n dX3_moved_87 0 rfl ?_
  refine zR_iload dX3_moved_88 1 rfl ?_
  refine zR_iadd dX3_moved_90 ?_
  refine zR_iload dX3_moved_91 2 rfl ?_
  refine zR_iadd dX3_moved_93 ?_
  refine zR_iload dX3_moved_94 3 rfl ?_
  refine zR_isub dX3_moved_96 ?_
  refine zR_iload dX3_moved_97 4 rfl ?_
  refine zR_isub dX3_moved_99 ?_
  refine zR_iadd dX3_moved_100 ?_
  refine zR_bipush (x := (9 : Int32)) dX3_moved_101 rfl ?_
  refine zR_imul dX3_moved_103 ?_
  refine zR_iload dX3_moved_104 4 rfl ?_
  refine zR_iadd dX3_moved_106 ?_
  have h := Option.some.inj h
  subst h
  exact zR_iret (x := ((((y1 * (9 : Int32)) + ((((x3 + x4) + x5) - y1) - y3)) * (9 : Int32)) + y3)) dX3_moved_107 rfl rfl
set_option maxRecDepth 100000 in
set_option maxHeartbeats 4000000 in
theorem mX3_moved {w : zW} (F : Nat) (S : zS) (x0 : Int32) (x1 : Int32) (x2 : Int32) (res : Int32) (h : fX3_moved F x0 x1 x2 = some res) : zMet w kX3_moved 1 0 0 [.int x0, .int x1, .int x2] S (some (.int res)) S := by
  refine zMet_of (by decide) (Nat.le_of_ble_eq_true rfl) (Nat.le_refl 0) fun _ => ?_
  show zR w kX3_moved 1 0 0 (some (.int res)) S 0 [(0, .int x0), (1, .int x1), (2, .int x2)] [] S
  unfold fX3_moved at h
  refine zR_iload_n dX3_moved_0 0 rfl ?_
  refine zR_bipush (x := (81 : Int32)) dX3_moved_1 rfl ?_
  refine zR_idiv dX3_moved_3 (by decide) ?_
  obtain ⟨y5, e6, h⟩ := zlet_some h
  refine zR_nmI e6 ?_
  refine zR_istore_n (lv' := [(0, .int x0), (1, .int x1), (2, .int x2), (3, .int y5)]) dX3_moved_4 (Nat.le_of_ble_eq_true rfl) rfl ?_
  refine zR_iload_n dX3_moved_5 0 rfl ?_
  refine zR_bipush (x := (9 : Int32)) dX3_moved_6 rfl ?_
  refine zR_idiv dX3_moved_8 (by decide) ?_
  refine zR_bipush (x := (9 : Int32)) dX3_moved_9 rfl ?_
  refine zR_irem dX3_moved_11 (by decide) ?_
  obtain ⟨y7, e8, h⟩ := zlet_some h
  refine zR_nmI e8 ?_
  refine zR_istore (lv' := [(0, .int x0), (1, .int x1), (2, .int x2), (3, .int y5), (4, .int y7)]) dX3_moved_12 (Nat.le_of_ble_eq_true rfl) rfl ?_
  refine zR_iload_n dX3_moved_14 0 rfl ?_
  refine zR_bipush (x := (9 : Int32)) dX3_moved_15 rfl ?_
  refine zR_irem dX3_moved_17 (by decide) ?_
  obtain ⟨y9, e10, h⟩ := zlet_some h
  refine zR_nmI e10 ?_
  refine zR_istore (lv' := [(0, .int x0), (1, .int x1), (2, .int x2), (3, .int y5), (4, .int y7), (5, .int y9)]) dX3_moved_18 (Nat.le_of_ble_eq_true rfl) rfl ?_
  refine zR_iload_n dX3_moved_20 3 rfl ?_
  refine zR_iload_n dX3_moved_21 1 rfl ?_
  by_cases c11 : y5 = x1
  · have h := zif_t h c11
    refine zR_icmp_ne_f (tgt := 30) dX3_moved_22 (by decide) c11 ?_
    refine zR_iload_n dX3_moved_25 2 rfl ?_
    refine zR_istore_n (lv' := [(0, .int x0), (1, .int x1), (2, .int x2), (3, .int x2), (4, .int y7), (5, .int y9)]) dX3_moved_26 (Nat.le_of_ble_eq_true rfl) rfl ?_
    refine zR_goto (tgt := 56) dX3_moved_27 (by decide) ?_
    refine zR_sub (lv' := [(3, .int x2), (4, .int y7), (5, .int y9)]) [3, 4, 5] rfl ?_
    exact wX3_moved_b56 F S x2 y7 y9 _ h
  · have h := zif_f h c11
    refine zR_icmp_ne_t (tgt := 30) dX3_moved_22 (by decide) c11 ?_
    refine zR_iload dX3_moved_30 4 rfl ?_
    refine zR_iload_n dX3_moved_32 1 rfl ?_
    by_cases c12 : y7 = x1
    · have h := zif_t h c12
      refine zR_icmp_ne_f (tgt := 42) dX3_moved_33 (by decide) c12 ?_
      refine zR_iload_n dX3_moved_36 2 rfl ?_
      refine zR_istore (lv' := [(0, .int x0), (1, .int x1), (2, .int x2), (3, .int y5), (4, .int x2), (5, .int y9)]) dX3_moved_37 (Nat.le_of_ble_eq_true rfl) rfl ?_
      refine zR_goto (tgt := 56) dX3_moved_39 (by decide) ?_
      refine zR_sub (lv' := [(3, .int y5), (4, .int x2), (5, .int y9)]) [3, 4, 5] rfl ?_
      exact wX3_moved_b56 F S y5 x2 y9 _ h
    · have h := zif_f h c12
      refine zR_icmp_ne_t (tgt := 42) dX3_moved_33 (by decide) c12 ?_
      refine zR_iload dX3_moved_42 5 rfl ?_
      refine zR_iload_n dX3_moved_44 1 rfl ?_
      by_cases c13 : y9 = x1
      · have h := zif_t h c13
        refine zR_icmp_ne_f (tgt := 54) dX3_moved_45 (by decide) c13 ?_
        refine zR_iload_n dX3_moved_48 2 rfl ?_
        refine zR_istore (lv' := [(0, .int x0), (1, .int x1), (2, .int x2), (3, .int y5), (4, .int y7), (5, .int x2)]) dX3_moved_49 (Nat.le_of_ble_eq_true rfl) rfl ?_
        refine zR_goto (tgt := 56) dX3_moved_51 (by decide) ?_
        refine zR_sub (lv' := [(3, .int y5), (4, .int y7), (5, .int x2)]) [3, 4, 5] rfl ?_
        exact wX3_moved_b56 F S y5 y7 x2 _ h
      · have h := zif_f h c13
        refine zR_icmp_ne_t (tgt := 54) dX3_moved_45 (by decide) c13 ?_
        refine zR_iconst (x := (-1 : Int32)) dX3_moved_54 (by decide) ?_
        have h := Option.some.inj h
        subst h
        exact zR_iret (x := (-1 : Int32)) dX3_moved_55 rfl rfl
set_option maxRecDepth 100000 in
set_option maxHeartbeats 4000000 in
theorem wX3_moveAll_5_l2 {w : zW} (F : Nat) : ∀ (n : Nat) (V0 V1 V2 V3 V4 V5 V6 V7 : zV) (x1 : Int32) (x2 : Int32) (x3 : Int32) (res : zV), fX3_moveAll_l2 F n V5 x1 x2 x3 = some res → zR w kX3_moveAll 2 0 0 none (zE zds w [V0, V1, V2, V3, V4, res, V6, V7]) 2 [(0, .ref (w.1 + 52)), (1, .int x1), (2, .int x2), (3, .int x3)] [] (zE zds w [V0, V1, V2, V3, V4, V5, V6, V7]) := by
  intro n
  induction n with
  | zero =>
    intro V0 V1 V2 V3 V4 V5 V6 V7 x1 x2 x3 res h
    simp [fX3_moveAll_l2] at h
  | succ n ih =>
    intro V0 V1 V2 V3 V4 V5 V6 V7 x1 x2 x3 res h
    rw [fX3_moveAll_l2] at h
    refine zR_iload_n dX3_moveAll_2 3 rfl ?_
    refine zR_aload_n dX3_moveAll_3 0 rfl ?_
    refine zG_getI dX3_moveAll_4 zf_X3_18 zd_52 rfl rfl ?_
    by_cases c1 : (zI V5 14 6) ≤ x3
    · have h := zif_t h c1
      refine zR_icmp_ge_t (tgt := 40) dX3_moveAll_7 (by decide) c1 ?_
      have h := Option.some.inj h
      subst h
      exact zR_ret dX3_moveAll_40 rfl
    · have h := zif_f h c1
      refine zR_icmp_ge_f (tgt := 40) dX3_moveAll_7 (by decide) c1 ?_
      refine zR_iload_n dX3_moveAll_10 3 rfl ?_
      refine zR_aload_n dX3_moveAll_11 0 rfl ?_
      refine zG_getP dX3_moveAll_12 zf_X3_35 zd_52 rfl rfl ?_
      obtain ⟨g2, h⟩ := zchk_some h
      have i3 : zds[38 + (zP V5 14 2)]? = some (.inr (0, 5, (zP V5 14 2), 1, 0)) := by rcases g2 with u | u <;> (rw [u]; rfl)
      refine zG_alen (u := (nI (zN V5 (zP V5 14 2)))) dX3_moveAll_15 i3 (Nat.le_of_ble_eq_true rfl) rfl rfl rfl ?_
      by_cases c4 : (nI (zN V5 (zP V5 14 2))) ≤ x3
      · have h := zif_t h c4
        refine zR_icmp_ge_t (tgt := 40) dX3_moveAll_16 (by decide) c4 ?_
        have h := Option.some.inj h
        subst h
        exact zR_ret dX3_moveAll_40 rfl
      · have h := zif_f h c4
        refine zR_icmp_ge_f (tgt := 40) dX3_moveAll_16 (by decide) c4 ?_
        refine zR_aload_n dX3_moveAll_19 0 rfl ?_
        refine zR_aload_n dX3_moveAll_20 0 rfl ?_
        refine zG_getP dX3_moveAll_21 zf_X3_35 zd_52 rfl rfl ?_
        refine zR_iload_n dX3_moveAll_24 3 rfl ?_
        obtain ⟨g5, h⟩ := zchk_some h
        have i6 : zds[38 + (zP V5 14 2)]? = some (.inr (0, 5, (zP V5 14 2), 1, 0)) := by rcases g5 with u | u <;> (rw [u]; rfl)
        obtain ⟨g7, h⟩ := zchk_some h
        refine zG_iald dX3_moveAll_25 i6 rfl rfl g7 ?_
        refine zR_iload_n dX3_moveAll_26 1 rfl ?_
        refine zR_iload_n dX3_moveAll_27 2 rfl ?_
        obtain ⟨q8, hq9, h⟩ := zbd_some h
        refine zR_cS (rest := [.ref (w.1 + 52)]) (st1 := [.int q8, .ref (w.1 + 52)]) dX3_moveAll_28 (mX3_moved F (zE zds w [V0, V1, V2, V3, V4, V5, V6, V7]) (zA V5 (zP V5 14 2) (x3).toNatClampNeg) x1 x2 _ hq9) zc_X3_72 rfl rfl (Nat.le_of_ble_eq_true rfl) (Nat.le_of_ble_eq_true rfl) rfl ?_
        obtain ⟨q10, hq11, h⟩ := zbd_some h
        refine zR_cV (rest := []) (st1 := []) dX3_moveAll_31 (mX3_put_5 F V0 V1 V2 V3 V4 V5 V6 V7 q8 _ hq11) zc_X3_49 rfl (zE_at zd_52) ⟨_, _, rfl⟩ rfl (Nat.le_of_ble_eq_true rfl) (Nat.le_of_ble_eq_true rfl) rfl ?_
        refine zR_iinc (u := (x3 + 1)) (lv' := [(0, .ref (w.1 + 52)), (1, .int x1), (2, .int x2), (3, .int (x3 + 1))]) dX3_moveAll_34 3 rfl rfl (Nat.le_of_ble_eq_true rfl) rfl ?_
        refine zR_goto (tgt := 2) dX3_moveAll_37 (by decide) ?_
        exact ih V0 V1 V2 V3 V4 q10 V6 V7 x1 x2 (x3 + 1) _ h
set_option maxRecDepth 100000 in
set_option maxHeartbeats 4000000 in
theorem mX3_moveAll_5 {w : zW} (F : Nat) (V0 V1 V2 V3 V4 V5 V6 V7 : zV) (x1 : Int32) (x2 : Int32) (res : zV) (h : fX3_moveAll F V5 x1 x2 = some res) : zMet w kX3_moveAll 2 0 0 [.ref (w.1 + 52), .int x1, .int x2] (zE zds w [V0, V1, V2, V3, V4, V5, V6, V7]) none (zE zds w [V0, V1, V2, V3, V4, res, V6, V7]) := by
  refine zMet_of (by decide) (Nat.le_of_ble_eq_true rfl) (Nat.le_refl 0) fun _ => ?_
  show zR w kX3_moveAll 2 0 0 none (zE zds w [V0, V1, V2, V3, V4, res, V6, V7]) 0 [(0, .ref (w.1 + 52)), (1, .int x1), (2, .int x2)] [] (zE zds w [V0, V1, V2, V3, V4, V5, V6, V7])
  unfold fX3_moveAll at h
  refine zR_iconst (x := (0 : Int32)) dX3_moveAll_0 rfl ?_
  refine zR_istore_n (lv' := [(0, .ref (w.1 + 52)), (1, .int x1), (2, .int x2), (3, .int (0 : Int32))]) dX3_moveAll_1 (Nat.le_of_ble_eq_true rfl) rfl ?_
  exact wX3_moveAll_5_l2 F F V0 V1 V2 V3 V4 V5 V6 V7 x1 x2 (0 : Int32) _ h
set_option maxRecDepth 100000 in
set_option maxHeartbeats 4000000 in
theorem wX3_spread_5_b94 {w : zW} (F : Nat) (k2 : zV → zV → Int32 → Option (zV)) (hk2 : ∀ (V0 V1 V2 V3 V4 V5 V6 V7 : zV) (x1 : Int32) (res : zV), k2 V4 V5 x1 = some res → zR w kX3_spread 2 0 0 none (zE zds w [V0, V1, V2, V3, V4, res, V6, V7]) 2 [(0, .ref (w.1 + 52)), (1, .int x1)] [] (zE zds w [V0, V1, V2, V3, V4, V5, V6, V7])) (V0 V1 V2 V3 V4 V5 V6 V7 : zV) (x1 : Int32) (res : zV) (h : fX3_spread_b94 F k2 V4 V5 x1 = some res) : zR w kX3_spread 2 0 0 none (zE zds w [V0, V1, V2, V3, V4, res, V6, V7]) 94 [(0, .ref (w.1 + 52)), (1, .int x1)] [] (zE zds w [V0, V1, V2, V3, V4, V5, V6, V7]) := by
  unfold fX3_spread_b94 at h
  refine zR_iinc (u := (x1 + 1)) (lv' := [(0, .ref (w.1 + 52)), (1, .int (x1 + 1))]) dX3_spread_94 1 rfl rfl (Nat.le_of_ble_eq_true rfl) rfl ?_
  refine zR_goto (tgt := 2) dX3_spread_97 (by decide) ?_
  exact hk2 V0 V1 V2 V3 V4 V5 V6 V7 (x1 + 1) _ h
set_option maxRecDepth 100000 in
set_option maxHeartbeats 4000000 in
theorem wX3_spread_5_b88 {w : zW} (F : Nat) (k21 : zV → zV → Int32 → Int32 → Option (zV)) (hk21 : ∀ (V0 V1 V2 V3 V4 V5 V6 V7 : zV) (x1 : Int32) (x2 : Int32) (res : zV), k21 V4 V5 x1 x2 = some res → zR w kX3_spread 2 0 0 none (zE zds w [V0, V1, V2, V3, V4, res, V6, V7]) 21 [(0, .ref (w.1 + 52)), (1, .int x1), (2, .int x2)] [] (zE zds w [V0, V1, V2, V3, V4, V5, V6, V7])) (V0 V1 V2 V3 V4 V5 V6 V7 : zV) (x1 : Int32) (x2 : Int32) (res : zV) (h : fX3_spread_b88 F k21 V4 V5 x1 x2 = some res) : zR w kX3_spread 2 0 0 none (zE zds w [V0, V1, V2, V3, V4, res, V6, V7]) 88 [(0, .ref (w.1 + 52)), (1, .int x1), (2, .int x2)] [] (zE zds w [V0, V1, V2, V3, V4, V5, V6, V7]) := by
  unfold fX3_spread_b88 at h
  refine zR_iinc (u := (x2 + 1)) (lv' := [(0, .ref (w.1 + 52)), (1, .int x1), (2, .int (x2 + 1))]) dX3_spread_88 2 rfl rfl (Nat.le_of_ble_eq_true rfl) rfl ?_
  refine zR_goto (tgt := 21) dX3_spread_91 (by decide) ?_
  exact hk21 V0 V1 V2 V3 V4 V5 V6 V7 x1 (x2 + 1) _ h
set_option maxRecDepth 100000 in
set_option maxHeartbeats 4000000 in
theorem wX3_spread_5_l21 {w : zW} (F : Nat) (k2 : zV → zV → Int32 → Option (zV)) (hk2 : ∀ (V0 V1 V2 V3 V4 V5 V6 V7 : zV) (x1 : Int32) (res : zV), k2 V4 V5 x1 = some res → zR w kX3_spread 2 0 0 none (zE zds w [V0, V1, V2, V3, V4, res, V6, V7]) 2 [(0, .ref (w.1 + 52)), (1, .int x1)] [] (zE zds w [V0, V1, V2, V3, V4, V5, V6, V7])) : ∀ (n : Nat) (V0 V1 V2 V3 V4 V5 V6 V7 : zV) (x1 : Int32) (x2 : Int32) (res : zV), fX3_spread_l21 F k2 n V4 V5 x1 x2 = some res → zR w kX3_spread 2 0 0 none (zE zds w [V0, V1, V2, V3, V4, res, V6, V7]) 21 [(0, .ref (w.1 + 52)), (1, .int x1), (2, .int x2)] [] (zE zds w [V0, V1, V2, V3, V4, V5, V6, V7]) := by
  intro n
  induction n with
  | zero =>
    intro V0 V1 V2 V3 V4 V5 V6 V7 x1 x2 res h
    simp [fX3_spread_l21] at h
  | succ n ih =>
    intro V0 V1 V2 V3 V4 V5 V6 V7 x1 x2 res h
    rw [fX3_spread_l21] at h
    refine zR_iload_n dX3_spread_21 2 rfl ?_
    refine zR_aload_n dX3_spread_22 0 rfl ?_
    refine zG_getR dX3_spread_23 zf_X3_27 zd_52 rfl rfl ?_
    refine zG_getR dX3_spread_26 zf_X3_44 zd_15 rfl rfl ?_
    refine zR_iconst (x := (5 : Int32)) dX3_spread_29 rfl ?_
    refine zG_iald dX3_spread_30 zd_16 rfl rfl (show zix (5 : Int32) 27 from by decide) ?_
    by_cases c1 : (zA V4 1 ((5 : Int32)).toNatClampNeg) ≤ x2
    · have h := zif_t h c1
      refine zR_icmp_ge_t (tgt := 94) dX3_spread_31 (by decide) c1 ?_
      refine zR_sub (lv' := [(0, .ref (w.1 + 52)), (1, .int x1)]) [0, 1] rfl ?_
      exact wX3_spread_5_b94 F k2 hk2 V0 V1 V2 V3 V4 V5 V6 V7 x1 _ h
    · have h := zif_f h c1
      refine zR_icmp_ge_f (tgt := 94) dX3_spread_31 (by decide) c1 ?_
      refine zR_iload_n dX3_spread_34 2 rfl ?_
      refine zR_bipush (x := (24 : Int32)) dX3_spread_35 rfl ?_
      by_cases c2 : (24 : Int32) ≤ x2
      · have h := zif_t h c2
        refine zR_icmp_ge_t (tgt := 94) dX3_spread_37 (by decide) c2 ?_
        refine zR_sub (lv' := [(0, .ref (w.1 + 52)), (1, .int x1)]) [0, 1] rfl ?_
        exact wX3_spread_5_b94 F k2 hk2 V0 V1 V2 V3 V4 V5 V6 V7 x1 _ h
      · have h := zif_f h c2
        refine zR_icmp_ge_f (tgt := 94) dX3_spread_37 (by decide) c2 ?_
        refine zR_aload_n dX3_spread_40 0 rfl ?_
        refine zG_getR dX3_spread_41 zf_X3_27 zd_52 rfl rfl ?_
        refine zG_getR dX3_spread_44 zf_X3_60 zd_15 rfl rfl ?_
        refine zR_iload_n dX3_spread_47 2 rfl ?_
        obtain ⟨g3, h⟩ := zchk_some h
        refine zG_iald dX3_spread_48 zd_23 rfl rfl g3 ?_
        refine zR_iconst (x := (-1 : Int32)) dX3_spread_49 (by decide) ?_
        by_cases c4 : (zA V4 8 (x2).toNatClampNeg) = (-1 : Int32)
        · have h := zif_t h c4
          refine zR_icmp_ne_f (tgt := 88) dX3_spread_50 (by decide) c4 ?_
          refine zR_aload_n dX3_spread_53 0 rfl ?_
          refine zR_aload_n dX3_spread_54 0 rfl ?_
          refine zG_getP dX3_spread_55 zf_X3_31 zd_52 rfl rfl ?_
          refine zR_iload_n dX3_spread_58 1 rfl ?_
          obtain ⟨g5, h⟩ := zchk_some h
          have i6 : zds[38 + (zP V5 14 1)]? = some (.inr (0, 5, (zP V5 14 1), 1, 0)) := by rcases g5 with u | u <;> (rw [u]; rfl)
          obtain ⟨g7, h⟩ := zchk_some h
          refine zG_iald dX3_spread_59 i6 rfl rfl g7 ?_
          refine zR_aload_n dX3_spread_60 0 rfl ?_
          refine zG_getR dX3_spread_61 zf_X3_27 zd_52 rfl rfl ?_
          refine zG_getR dX3_spread_64 zf_X3_63 zd_15 rfl rfl ?_
          refine zR_iload_n dX3_spread_67 2 rfl ?_
          obtain ⟨g8, h⟩ := zchk_some h
          refine zG_iald dX3_spread_68 zd_21 rfl rfl g8 ?_
          refine zR_iconst (x := (1 : Int32)) dX3_spread_69 rfl ?_
          refine zR_iadd dX3_spread_70 ?_
          refine zR_aload_n dX3_spread_71 0 rfl ?_
          refine zG_getR dX3_spread_72 zf_X3_27 zd_52 rfl rfl ?_
          refine zG_getR dX3_spread_75 zf_X3_66 zd_15 rfl rfl ?_
          refine zR_iload_n dX3_spread_78 2 rfl ?_
          obtain ⟨g9, h⟩ := zchk_some h
          refine zG_iald dX3_spread_79 zd_22 rfl rfl g9 ?_
          refine zR_iconst (x := (1 : Int32)) dX3_spread_80 rfl ?_
          refine zR_iadd dX3_spread_81 ?_
          obtain ⟨q10, hq11, h⟩ := zbd_some h
          refine zR_cS (rest := [.ref (w.1 + 52)]) (st1 := [.int q10, .ref (w.1 + 52)]) dX3_spread_82 (mX3_moved F (zE zds w [V0, V1, V2, V3, V4, V5, V6, V7]) (zA V5 (zP V5 14 1) (x1).toNatClampNeg) ((zA V4 6 (x2).toNatClampNeg) + (1 : Int32)) ((zA V4 7 (x2).toNatClampNeg) + (1 : Int32)) _ hq11) zc_X3_72 rfl rfl (Nat.le_of_ble_eq_true rfl) (Nat.le_of_ble_eq_true rfl) rfl ?_
          obtain ⟨q12, hq13, h⟩ := zbd_some h
          refine zR_cV (rest := []) (st1 := []) dX3_spread_85 (mX3_put_5 F V0 V1 V2 V3 V4 V5 V6 V7 q10 _ hq13) zc_X3_49 rfl (zE_at zd_52) ⟨_, _, rfl⟩ rfl (Nat.le_of_ble_eq_true rfl) (Nat.le_of_ble_eq_true rfl) rfl ?_
          exact wX3_spread_5_b88 F (fX3_spread_l21 F k2 n) ih V0 V1 V2 V3 V4 q12 V6 V7 x1 x2 _ h
        · have h := zif_f h c4
          refine zR_icmp_ne_t (tgt := 88) dX3_spread_50 (by decide) c4 ?_
          exact wX3_spread_5_b88 F (fX3_spread_l21 F k2 n) ih V0 V1 V2 V3 V4 V5 V6 V7 x1 x2 _ h
set_option maxRecDepth 100000 in
set_option maxHeartbeats 4000000 in
theorem wX3_spread_5_l2 {w : zW} (F : Nat) : ∀ (n : Nat) (V0 V1 V2 V3 V4 V5 V6 V7 : zV) (x1 : Int32) (res : zV), fX3_spread_l2 F n V4 V5 x1 = some res → zR w kX3_spread 2 0 0 none (zE zds w [V0, V1, V2, V3, V4, res, V6, V7]) 2 [(0, .ref (w.1 + 52)), (1, .int x1)] [] (zE zds w [V0, V1, V2, V3, V4, V5, V6, V7]) := by
  intro n
  induction n with
  | zero =>
    intro V0 V1 V2 V3 V4 V5 V6 V7 x1 res h
    simp [fX3_spread_l2] at h
  | succ n ih =>
    intro V0 V1 V2 V3 V4 V5 V6 V7 x1 res h
    rw [fX3_spread_l2] at h
    refine zR_iload_n dX3_spread_2 1 rfl ?_
    refine zR_aload_n dX3_spread_3 0 rfl ?_
    refine zG_getI dX3_spread_4 zf_X3_15 zd_52 rfl rfl ?_
    by_cases c14 : (zI V5 14 5) ≤ x1
    · have h := zif_t h c14
      refine zR_icmp_ge_t (tgt := 100) dX3_spread_7 (by decide) c14 ?_
      have h := Option.some.inj h
      subst h
      exact zR_ret dX3_spread_100 rfl
    · have h := zif_f h c14
      refine zR_icmp_ge_f (tgt := 100) dX3_spread_7 (by decide) c14 ?_
      refine zR_iload_n dX3_spread_10 1 rfl ?_
      refine zR_aload_n dX3_spread_11 0 rfl ?_
      refine zG_getP dX3_spread_12 zf_X3_31 zd_52 rfl rfl ?_
      obtain ⟨g15, h⟩ := zchk_some h
      have i16 : zds[38 + (zP V5 14 1)]? = some (.inr (0, 5, (zP V5 14 1), 1, 0)) := by rcases g15 with u | u <;> (rw [u]; rfl)
      refine zG_alen (u := (nI (zN V5 (zP V5 14 1)))) dX3_spread_15 i16 (Nat.le_of_ble_eq_true rfl) rfl rfl rfl ?_
      by_cases c17 : (nI (zN V5 (zP V5 14 1))) ≤ x1
      · have h := zif_t h c17
        refine zR_icmp_ge_t (tgt := 100) dX3_spread_16 (by decide) c17 ?_
        have h := Option.some.inj h
        subst h
        exact zR_ret dX3_spread_100 rfl
      · have h := zif_f h c17
        refine zR_icmp_ge_f (tgt := 100) dX3_spread_16 (by decide) c17 ?_
        refine zR_iconst (x := (0 : Int32)) dX3_spread_19 rfl ?_
        refine zR_istore_n (lv' := [(0, .ref (w.1 + 52)), (1, .int x1), (2, .int (0 : Int32))]) dX3_spread_20 (Nat.le_of_ble_eq_true rfl) rfl ?_
        exact wX3_spread_5_l21 F (fX3_spread_l2 F n) ih F V0 V1 V2 V3 V4 V5 V6 V7 x1 (0 : Int32) _ h
set_option maxRecDepth 100000 in
set_option maxHeartbeats 4000000 in
theorem mX3_spread_5 {w : zW} (F : Nat) (V0 V1 V2 V3 V4 V5 V6 V7 : zV) (res : zV) (h : fX3_spread F V4 V5 = some res) : zMet w kX3_spread 2 0 0 [.ref (w.1 + 52)] (zE zds w [V0, V1, V2, V3, V4, V5, V6, V7]) none (zE zds w [V0, V1, V2, V3, V4, res, V6, V7]) := by
  refine zMet_of (by decide) (Nat.le_of_ble_eq_true rfl) (Nat.le_refl 0) fun _ => ?_
  show zR w kX3_spread 2 0 0 none (zE zds w [V0, V1, V2, V3, V4, res, V6, V7]) 0 [(0, .ref (w.1 + 52))] [] (zE zds w [V0, V1, V2, V3, V4, V5, V6, V7])
  unfold fX3_spread at h
  refine zR_iconst (x := (0 : Int32)) dX3_spread_0 rfl ?_
  refine zR_istore_n (lv' := [(0, .ref (w.1 + 52)), (1, .int (0 : Int32))]) dX3_spread_1 (Nat.le_of_ble_eq_true rfl) rfl ?_
  exact wX3_spread_5_l2 F F V0 V1 V2 V3 V4 V5 V6 V7 (0 : Int32) _ h
set_option maxRecDepth 100000 in
set_option maxHeartbeats 4000000 in
theorem mX3_takeBall_5 {w : zW} (F : Nat) (V0 V1 V2 V3 V4 V5 V6 V7 : zV) (res : zV) (h : fX3_takeBall F V4 V5 = some res) : zMet w kX3_takeBall 3 0 0 [.ref (w.1 + 52)] (zE zds w [V0, V1, V2, V3, V4, V5, V6, V7]) none (zE zds w [V0, V1, V2, V3, V4, res, V6, V7]) := by
  refine zMet_of (by decide) (Nat.le_of_ble_eq_true rfl) (Nat.le_refl 0) fun _ => ?_
  show zR w kX3_takeBall 3 0 0 none (zE zds w [V0, V1, V2, V3, V4, res, V6, V7]) 0 [(0, .ref (w.1 + 52))] [] (zE zds w [V0, V1, V2, V3, V4, V5, V6, V7])
  unfold fX3_takeBall at h
  refine zR_aload_n dX3_takeBall_0 0 rfl ?_
  refine zG_getI dX3_takeBall_1 zf_X3_21 zd_52 rfl rfl ?_
  refine zR_iconst (x := (3 : Int32)) dX3_takeBall_4 rfl ?_
  by_cases c1 : (3 : Int32) ≤ (zI V5 14 7)
  · have h := zif_t h c1
    refine zR_icmp_ge_t (tgt := 32) dX3_takeBall_5 (by decide) c1 ?_
    have h := Option.some.inj h
    subst h
    exact zR_ret dX3_takeBall_32 rfl
  · have h := zif_f h c1
    refine zR_icmp_ge_f (tgt := 32) dX3_takeBall_5 (by decide) c1 ?_
    refine zR_aload_n dX3_takeBall_8 0 rfl ?_
    refine zR_dup dX3_takeBall_9 rfl ?_
    refine zG_getI dX3_takeBall_10 zf_X3_21 zd_52 rfl rfl ?_
    refine zR_iconst (x := (1 : Int32)) dX3_takeBall_13 rfl ?_
    refine zR_iadd dX3_takeBall_14 ?_
    obtain ⟨V5_2, e3, h⟩ := zlet_some h
    refine zG_putI zds_ok dX3_takeBall_15 zf_X3_21 zt_X3_7 zd_52 rfl rfl e3 rfl ?_
    refine zR_aload_n dX3_takeBall_18 0 rfl ?_
    obtain ⟨q4, hq5, h⟩ := zbd_some h
    refine zR_cV (rest := []) (st1 := []) dX3_takeBall_19 (mX3_turnOver_5 F V0 V1 V2 V3 V4 V5_2 V6 V7 _ hq5) zc_X3_41 rfl (zE_at zd_52) ⟨_, _, rfl⟩ rfl (Nat.le_of_ble_eq_true rfl) (Nat.le_of_ble_eq_true rfl) rfl ?_
    refine zR_aload_n dX3_takeBall_22 0 rfl ?_
    refine zR_iconst (x := (0 : Int32)) dX3_takeBall_23 rfl ?_
    refine zR_iconst (x := (1 : Int32)) dX3_takeBall_24 rfl ?_
    obtain ⟨q6, hq7, h⟩ := zbd_some h
    refine zR_cV (rest := []) (st1 := []) dX3_takeBall_25 (mX3_moveAll_5 F V0 V1 V2 V3 V4 q4 V6 V7 (0 : Int32) (1 : Int32) _ hq7) zc_X3_53 rfl (zE_at zd_52) ⟨_, _, rfl⟩ rfl (Nat.le_of_ble_eq_true rfl) (Nat.le_of_ble_eq_true rfl) rfl ?_
    refine zR_aload_n dX3_takeBall_28 0 rfl ?_
    obtain ⟨q8, hq9, h⟩ := zbd_some h
    refine zR_cV (rest := []) (st1 := []) dX3_takeBall_29 (mX3_spread_5 F V0 V1 V2 V3 V4 q6 V6 V7 _ hq9) zc_X3_57 rfl (zE_at zd_52) ⟨_, _, rfl⟩ rfl (Nat.le_of_ble_eq_true rfl) (Nat.le_of_ble_eq_true rfl) rfl ?_
    have h := Option.some.inj h
    subst h
    exact zR_ret dX3_takeBall_32 rfl
set_option maxRecDepth 100000 in
set_option maxHeartbeats 4000000 in
theorem wX4_remember_5_b49 {w : zW} (F : Nat) (k2 : zV → zV → Int32 → Option (zV)) (hk2 : ∀ (V0 V1 V2 V3 V4 V5 V6 V7 : zV) (x1 : Int32) (res : zV), k2 V4 V5 x1 = some res → zR w kX4_remember 0 0 0 none (zE zds w [V0, V1, V2, V3, V4, res, V6, V7]) 2 [(0, .ref (w.1 + 56)), (1, .int x1)] [] (zE zds w [V0, V1, V2, V3, V4, V5, V6, V7])) (V0 V1 V2 V3 V4 V5 V6 V7 : zV) (x1 : Int32) (s1 : Int32) (s2 : Int32) (res : zV) (h : fX4_remember_b49 F k2 V4 V5 x1 s1 s2 = some res) : zR w kX4_remember 0 0 0 none (zE zds w [V0, V1, V2, V3, V4, res, V6, V7]) 49 [(0, .ref (w.1 + 56)), (1, .int x1)] [.int s2, .int s1, .ref (w.1 + 61)] (zE zds w [V0, V1, V2, V3, V4, V5, V6, V7]) := by
  unfold fX4_remember_b49 at h
  obtain ⟨g1, h⟩ := zchk_some h
  obtain ⟨V5_2, e3, h⟩ := zlet_some h
  refine zG_iast zds_ok dX4_remember_49 zd_61 rfl rfl g1 e3 rfl ?_
  refine zR_iinc (u := (x1 + 1)) (lv' := [(0, .ref (w.1 + 56)), (1, .int (x1 + 1))]) dX4_remember_50 1 rfl rfl (Nat.le_of_ble_eq_true rfl) rfl ?_
  refine zR_goto (tgt := 2) dX4_remember_53 (by decide) ?_
  exact hk2 V0 V1 V2 V3 V4 V5_2 V6 V7 (x1 + 1) _ h
set_option maxRecDepth 100000 in
set_option maxHeartbeats 4000000 in
theorem wX4_remember_5_l2 {w : zW} (F : Nat) : ∀ (n : Nat) (V0 V1 V2 V3 V4 V5 V6 V7 : zV) (x1 : Int32) (res : zV), fX4_remember_l2 F n V4 V5 x1 = some res → zR w kX4_remember 0 0 0 none (zE zds w [V0, V1, V2, V3, V4, res, V6, V7]) 2 [(0, .ref (w.1 + 56)), (1, .int x1)] [] (zE zds w [V0, V1, V2, V3, V4, V5, V6, V7]) := by
  intro n
  induction n with
  | zero =>
    intro V0 V1 V2 V3 V4 V5 V6 V7 x1 res h
    simp [fX4_remember_l2] at h
  | succ n ih =>
    intro V0 V1 V2 V3 V4 V5 V6 V7 x1 res h
    rw [fX4_remember_l2] at h
    refine zR_iload_n dX4_remember_2 1 rfl ?_
    refine zR_aload_n dX4_remember_3 0 rfl ?_
    refine zG_getR dX4_remember_4 zf_X4_32 zd_56 rfl rfl ?_
    refine zG_getR dX4_remember_7 zf_X4_36 zd_15 rfl rfl ?_
    refine zR_bipush (x := (7 : Int32)) dX4_remember_10 rfl ?_
    refine zG_iald dX4_remember_12 zd_16 rfl rfl (show zix (7 : Int32) 27 from by decide) ?_
    by_cases c4 : (zA V4 1 ((7 : Int32)).toNatClampNeg) ≤ x1
    · have h := zif_t h c4
      refine zR_icmp_ge_t (tgt := 56) dX4_remember_13 (by decide) c4 ?_
      have h := Option.some.inj h
      subst h
      exact zR_ret dX4_remember_56 rfl
    · have h := zif_f h c4
      refine zR_icmp_ge_f (tgt := 56) dX4_remember_13 (by decide) c4 ?_
      refine zR_iload_n dX4_remember_16 1 rfl ?_
      refine zR_aload_n dX4_remember_17 0 rfl ?_
      refine zG_getR dX4_remember_18 zf_X4_25 zd_56 rfl rfl ?_
      refine zG_alen (u := (12 : Int32)) dX4_remember_21 zd_61 (Nat.le_of_ble_eq_true rfl) rfl rfl rfl ?_
      by_cases c5 : (12 : Int32) ≤ x1
      · have h := zif_t h c5
        refine zR_icmp_ge_t (tgt := 56) dX4_remember_22 (by decide) c5 ?_
        have h := Option.some.inj h
        subst h
        exact zR_ret dX4_remember_56 rfl
      · have h := zif_f h c5
        refine zR_icmp_ge_f (tgt := 56) dX4_remember_22 (by decide) c5 ?_
        refine zR_aload_n dX4_remember_25 0 rfl ?_
        refine zG_getR dX4_remember_26 zf_X4_25 zd_56 rfl rfl ?_
        refine zR_iload_n dX4_remember_29 1 rfl ?_
        refine zR_aload_n dX4_remember_30 0 rfl ?_
        refine zG_getR dX4_remember_31 zf_X4_9 zd_56 rfl rfl ?_
        refine zR_iload_n dX4_remember_34 1 rfl ?_
        obtain ⟨g6, h⟩ := zchk_some h
        refine zG_zald dX4_remember_35 zd_57 rfl rfl g6 ?_
        by_cases c7 : (zA V5 19 (x1).toNatClampNeg) = 0
        · have h := zif_t h c7
          refine zR_if_eq_t (tgt := 48) dX4_remember_36 (by decide) c7 ?_
          refine zR_iconst (x := (-1 : Int32)) dX4_remember_48 (by decide) ?_
          exact wX4_remember_5_b49 F (fX4_remember_l2 F n) ih V0 V1 V2 V3 V4 V5 V6 V7 x1 x1 (-1 : Int32) _ h
        · have h := zif_f h c7
          refine zR_if_eq_f (tgt := 48) dX4_remember_36 (by decide) c7 ?_
          refine zR_aload_n dX4_remember_39 0 rfl ?_
          refine zG_getR dX4_remember_40 zf_X4_22 zd_56 rfl rfl ?_
          refine zR_iload_n dX4_remember_43 1 rfl ?_
          obtain ⟨g8, h⟩ := zchk_some h
          refine zG_iald dX4_remember_44 zd_60 rfl rfl g8 ?_
          refine zR_goto (tgt := 49) dX4_remember_45 (by decide) ?_
          exact wX4_remember_5_b49 F (fX4_remember_l2 F n) ih V0 V1 V2 V3 V4 V5 V6 V7 x1 x1 (zA V5 22 (x1).toNatClampNeg) _ h
set_option maxRecDepth 100000 in
set_option maxHeartbeats 4000000 in
theorem mX4_remember_5 {w : zW} (F : Nat) (V0 V1 V2 V3 V4 V5 V6 V7 : zV) (res : zV) (h : fX4_remember F V4 V5 = some res) : zMet w kX4_remember 0 0 0 [.ref (w.1 + 56)] (zE zds w [V0, V1, V2, V3, V4, V5, V6, V7]) none (zE zds w [V0, V1, V2, V3, V4, res, V6, V7]) := by
  refine zMet_of (by decide) (Nat.le_of_ble_eq_true rfl) (Nat.le_refl 0) fun _ => ?_
  show zR w kX4_remember 0 0 0 none (zE zds w [V0, V1, V2, V3, V4, res, V6, V7]) 0 [(0, .ref (w.1 + 56))] [] (zE zds w [V0, V1, V2, V3, V4, V5, V6, V7])
  unfold fX4_remember at h
  refine zR_iconst (x := (0 : Int32)) dX4_remember_0 rfl ?_
  refine zR_istore_n (lv' := [(0, .ref (w.1 + 56)), (1, .int (0 : Int32))]) dX4_remember_1 (Nat.le_of_ble_eq_true rfl) rfl ?_
  exact wX4_remember_5_l2 F F V0 V1 V2 V3 V4 V5 V6 V7 (0 : Int32) _ h
