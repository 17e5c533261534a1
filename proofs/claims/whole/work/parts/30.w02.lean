set_option maxRecDepth 100000 in
set_option maxHeartbeats 4000000 in
theorem mX1_beginActs_5 {w : zW} (F : Nat) (V0 V1 V2 V3 V4 V5 V6 V7 : zV) (res : zV) (h : fX1_beginActs F V4 V5 = some res) : zMet w kX1_beginActs 1 0 0 [.ref (w.1 + 38)] (zE zds w [V0, V1, V2, V3, V4, V5, V6, V7]) none (zE zds w [V0, V1, V2, V3, V4, res, V6, V7]) := by
  refine zMet_of (by decide) (Nat.le_of_ble_eq_true rfl) (Nat.le_refl 0) fun _ => ?_
  show zR w kX1_beginActs 1 0 0 none (zE zds w [V0, V1, V2, V3, V4, res, V6, V7]) 0 [(0, .ref (w.1 + 38))] [] (zE zds w [V0, V1, V2, V3, V4, V5, V6, V7])
  unfold fX1_beginActs at h
  refine zR_aload_n dX1_beginActs_0 0 rfl ?_
  refine zR_iconst (x := (0 : Int32)) dX1_beginActs_1 rfl ?_
  obtain ⟨V5_1, e2, h⟩ := zlet_some h
  refine zG_putI zds_ok dX1_beginActs_2 zf_X1_33 zt_X1_13 zd_38 rfl rfl e2 rfl ?_
  refine zR_aload_n dX1_beginActs_5 0 rfl ?_
  refine zR_iconst (x := (0 : Int32)) dX1_beginActs_6 rfl ?_
  obtain ⟨V5_3, e4, h⟩ := zlet_some h
  refine zG_putZ zds_ok dX1_beginActs_7 zf_X1_36 zt_X1_14 zd_38 rfl rfl (Or.inl rfl) e4 rfl ?_
  refine zR_aload_n dX1_beginActs_10 0 rfl ?_
  refine zG_getR dX1_beginActs_11 zf_X1_87 zd_38 rfl rfl ?_
  obtain ⟨q5, hq6, h⟩ := zbd_some h
  refine zR_cV (rest := []) (st1 := []) dX1_beginActs_14 (mX4_remember_5 F V0 V1 V2 V3 V4 V5_3 V6 V7 _ hq6) zc_X1_147 rfl (zE_at zd_56) ⟨_, _, rfl⟩ rfl (Nat.le_of_ble_eq_true rfl) (Nat.le_of_ble_eq_true rfl) rfl ?_
  have h := Option.some.inj h
  subst h
  exact zR_ret dX1_beginActs_17 rfl
set_option maxRecDepth 100000 in
set_option maxHeartbeats 4000000 in
theorem mX9_has {w : zW} (F : Nat) (V0 V1 V2 V3 V4 V5 V6 V7 : zV) (x1 : Int32) (x2 : Int32) (res : Int32) (h : fX9_has F V4 x1 x2 = some res) : zMet w kX9_has 0 0 0 [.ref (w.1 + 15), .int x1, .int x2] (zE zds w [V0, V1, V2, V3, V4, V5, V6, V7]) (some (.int res)) (zE zds w [V0, V1, V2, V3, V4, V5, V6, V7]) := by
  refine zMet_of (by decide) (Nat.le_of_ble_eq_true rfl) (Nat.le_refl 0) fun _ => ?_
  show zR w kX9_has 0 0 0 (some (.int res)) (zE zds w [V0, V1, V2, V3, V4, V5, V6, V7]) 0 [(0, .ref (w.1 + 15)), (1, .int x1), (2, .int x2)] [] (zE zds w [V0, V1, V2, V3, V4, V5, V6, V7])
  unfold fX9_has at h
  refine zR_iload_n dX9_has_0 1 rfl ?_
  by_cases c1 : x1 < 0
  · have h := zif_t h c1
    refine zR_if_lt_t (tgt := 31) dX9_has_1 (by decide) c1 ?_
    refine zR_iconst (x := (0 : Int32)) dX9_has_31 rfl ?_
    have h := Option.some.inj h
    subst h
    exact zR_iret (x := (0 : Int32)) dX9_has_32 rfl znar0
  · have h := zif_f h c1
    refine zR_if_lt_f (tgt := 31) dX9_has_1 (by decide) c1 ?_
    refine zR_iload_n dX9_has_4 1 rfl ?_
    refine zR_aload_n dX9_has_5 0 rfl ?_
    refine zG_getR dX9_has_6 zf_X9_9 zd_15 rfl rfl ?_
    refine zG_alen (u := (27 : Int32)) dX9_has_9 zd_16 (Nat.le_of_ble_eq_true rfl) rfl rfl rfl ?_
    by_cases c2 : (27 : Int32) ≤ x1
    · have h := zif_t h c2
      refine zR_icmp_ge_t (tgt := 31) dX9_has_10 (by decide) c2 ?_
      refine zR_iconst (x := (0 : Int32)) dX9_has_31 rfl ?_
      have h := Option.some.inj h
      subst h
      exact zR_iret (x := (0 : Int32)) dX9_has_32 rfl znar0
    · have h := zif_f h c2
      refine zR_icmp_ge_f (tgt := 31) dX9_has_10 (by decide) c2 ?_
      refine zR_iload_n dX9_has_13 2 rfl ?_
      by_cases c3 : x2 < 0
      · have h := zif_t h c3
        refine zR_if_lt_t (tgt := 31) dX9_has_14 (by decide) c3 ?_
        refine zR_iconst (x := (0 : Int32)) dX9_has_31 rfl ?_
        have h := Option.some.inj h
        subst h
        exact zR_iret (x := (0 : Int32)) dX9_has_32 rfl znar0
      · have h := zif_f h c3
        refine zR_if_lt_f (tgt := 31) dX9_has_14 (by decide) c3 ?_
        refine zR_iload_n dX9_has_17 2 rfl ?_
        refine zR_aload_n dX9_has_18 0 rfl ?_
        refine zG_getR dX9_has_19 zf_X9_9 zd_15 rfl rfl ?_
        refine zR_iload_n dX9_has_22 1 rfl ?_
        obtain ⟨g4, h⟩ := zchk_some h
        refine zG_iald dX9_has_23 zd_16 rfl rfl g4 ?_
        by_cases c5 : (zA V4 1 (x1).toNatClampNeg) ≤ x2
        · have h := zif_t h c5
          refine zR_icmp_ge_t (tgt := 31) dX9_has_24 (by decide) c5 ?_
          refine zR_iconst (x := (0 : Int32)) dX9_has_31 rfl ?_
          have h := Option.some.inj h
          subst h
          exact zR_iret (x := (0 : Int32)) dX9_has_32 rfl znar0
        · have h := zif_f h c5
          refine zR_icmp_ge_f (tgt := 31) dX9_has_24 (by decide) c5 ?_
          refine zR_iconst (x := (1 : Int32)) dX9_has_27 rfl ?_
          refine zR_goto (tgt := 32) dX9_has_28 (by decide) ?_
          have h := Option.some.inj h
          subst h
          exact zR_iret (x := (1 : Int32)) dX9_has_32 rfl znar1
set_option maxRecDepth 100000 in
set_option maxHeartbeats 4000000 in
theorem wX4_turnOn_5_b89 {w : zW} (F : Nat) (V0 V1 V2 V3 V4 V5 V6 V7 : zV) (s1 : Int32) (s2 : Int32) (res : Int32 × zV) (h : fX4_turnOn_b89 F V4 V5 s1 s2 = some res) : zR w kX4_turnOn 1 0 0 (some (.int res.1)) (zE zds w [V0, V1, V2, V3, V4, res.2, V6, V7]) 89 [] [.int s2, .int s1, .ref (w.1 + 56)] (zE zds w [V0, V1, V2, V3, V4, V5, V6, V7]) := by
  unfold fX4_turnOn_b89 at h
  refine zR_iadd dX4_turnOn_89 ?_
  obtain ⟨V5_1, e2, h⟩ := zlet_some h
  refine zG_putI zds_ok dX4_turnOn_90 zf_X4_28 zt_X4_6 zd_56 rfl rfl e2 rfl ?_
  refine zR_iconst (x := (1 : Int32)) dX4_turnOn_93 rfl ?_
  have h := Option.some.inj h
  subst h
  exact zR_iret (x := (1 : Int32)) dX4_turnOn_94 rfl znar1
set_option maxRecDepth 100000 in
set_option maxHeartbeats 4000000 in
theorem mX4_turnOn_5 {w : zW} (F : Nat) (V0 V1 V2 V3 V4 V5 V6 V7 : zV) (x1 : Int32) (res : Int32 × zV) (h : fX4_turnOn F V4 V5 x1 = some res) : zMet w kX4_turnOn 1 0 0 [.ref (w.1 + 56), .int x1] (zE zds w [V0, V1, V2, V3, V4, V5, V6, V7]) (some (.int res.1)) (zE zds w [V0, V1, V2, V3, V4, res.2, V6, V7]) := by
  refine zMet_of (by decide) (Nat.le_of_ble_eq_true rfl) (Nat.le_refl 0) fun _ => ?_
  show zR w kX4_turnOn 1 0 0 (some (.int res.1)) (zE zds w [V0, V1, V2, V3, V4, res.2, V6, V7]) 0 [(0, .ref (w.1 + 56)), (1, .int x1)] [] (zE zds w [V0, V1, V2, V3, V4, V5, V6, V7])
  unfold fX4_turnOn at h
  refine zR_aload_n dX4_turnOn_0 0 rfl ?_
  refine zG_getR dX4_turnOn_1 zf_X4_32 zd_56 rfl rfl ?_
  refine zR_bipush (x := (7 : Int32)) dX4_turnOn_4 rfl ?_
  refine zR_iload_n dX4_turnOn_6 1 rfl ?_
  obtain ⟨q3, hq4, h⟩ := zbd_some h
  refine zR_cV (rest := []) (st1 := [.int q3]) dX4_turnOn_7 (mX9_has F V0 V1 V2 V3 V4 V5 V6 V7 (7 : Int32) x1 _ hq4) zc_X4_41 rfl (zE_at zd_15) ⟨_, _, rfl⟩ rfl (Nat.le_of_ble_eq_true rfl) (Nat.le_of_ble_eq_true rfl) rfl ?_
  by_cases c5 : q3 = 0
  · have h := zif_t h c5
    refine zR_if_eq_t (tgt := 22) dX4_turnOn_10 (by decide) c5 ?_
    refine zR_iconst (x := (0 : Int32)) dX4_turnOn_22 rfl ?_
    have h := Option.some.inj h
    subst h
    exact zR_iret (x := (0 : Int32)) dX4_turnOn_23 rfl znar0
  · have h := zif_f h c5
    refine zR_if_eq_f (tgt := 22) dX4_turnOn_10 (by decide) c5 ?_
    refine zR_iload_n dX4_turnOn_13 1 rfl ?_
    refine zR_aload_n dX4_turnOn_14 0 rfl ?_
    refine zG_getR dX4_turnOn_15 zf_X4_9 zd_56 rfl rfl ?_
    refine zG_alen (u := (12 : Int32)) dX4_turnOn_18 zd_57 (Nat.le_of_ble_eq_true rfl) rfl rfl rfl ?_
    by_cases c6 : x1 < (12 : Int32)
    · have h := zif_t h c6
      refine zR_icmp_lt_t (tgt := 24) dX4_turnOn_19 (by decide) c6 ?_
      refine zR_aload_n dX4_turnOn_24 0 rfl ?_
      refine zG_getR dX4_turnOn_25 zf_X4_15 zd_56 rfl rfl ?_
      refine zR_iload_n dX4_turnOn_28 1 rfl ?_
      refine zR_aload_n dX4_turnOn_29 0 rfl ?_
      refine zG_getR dX4_turnOn_30 zf_X4_32 zd_56 rfl rfl ?_
      refine zG_getR dX4_turnOn_33 zf_X4_45 zd_15 rfl rfl ?_
      refine zR_iload_n dX4_turnOn_36 1 rfl ?_
      obtain ⟨g7, h⟩ := zchk_some h
      refine zG_iald dX4_turnOn_37 zd_26 rfl rfl g7 ?_
      obtain ⟨g8, h⟩ := zchk_some h
      obtain ⟨V5_9, e10, h⟩ := zlet_some h
      refine zG_iast zds_ok dX4_turnOn_38 zd_58 rfl rfl g8 e10 rfl ?_
      refine zR_aload_n dX4_turnOn_39 0 rfl ?_
      refine zG_getR dX4_turnOn_40 zf_X4_9 zd_56 rfl rfl ?_
      refine zR_iload_n dX4_turnOn_43 1 rfl ?_
      obtain ⟨g11, h⟩ := zchk_some h
      refine zG_zald dX4_turnOn_44 zd_57 rfl rfl g11 ?_
      by_cases c12 : (zA V5_9 19 (x1).toNatClampNeg) = 0
      · have h := zif_t h c12
        refine zR_if_eq_t (tgt := 50) dX4_turnOn_45 (by decide) c12 ?_
        refine zR_aload_n dX4_turnOn_50 0 rfl ?_
        refine zG_getR dX4_turnOn_51 zf_X4_9 zd_56 rfl rfl ?_
        refine zR_iload_n dX4_turnOn_54 1 rfl ?_
        refine zR_iconst (x := (1 : Int32)) dX4_turnOn_55 rfl ?_
        obtain ⟨g13, h⟩ := zchk_some h
        obtain ⟨V5_14, e15, h⟩ := zlet_some h
        refine zG_zast zds_ok dX4_turnOn_56 zd_57 rfl rfl g13 e15 rfl ?_
        refine zR_aload_n dX4_turnOn_57 0 rfl ?_
        refine zG_getR dX4_turnOn_58 zf_X4_19 zd_56 rfl rfl ?_
        refine zR_iload_n dX4_turnOn_61 1 rfl ?_
        refine zR_dup2 dX4_turnOn_62 rfl rfl ?_
        obtain ⟨g16, h⟩ := zchk_some h
        refine zG_iald dX4_turnOn_63 zd_59 rfl rfl g16 ?_
        refine zR_iconst (x := (1 : Int32)) dX4_turnOn_64 rfl ?_
        refine zR_iadd dX4_turnOn_65 ?_
        obtain ⟨g17, h⟩ := zchk_some h
        obtain ⟨V5_18, e19, h⟩ := zlet_some h
        refine zG_iast zds_ok dX4_turnOn_66 zd_59 rfl rfl g17 e19 rfl ?_
        refine zR_aload_n dX4_turnOn_67 0 rfl ?_
        refine zR_dup dX4_turnOn_68 rfl ?_
        refine zG_getI dX4_turnOn_69 zf_X4_28 zd_56 rfl rfl ?_
        refine zR_aload_n dX4_turnOn_72 0 rfl ?_
        refine zG_getR dX4_turnOn_73 zf_X4_32 zd_56 rfl rfl ?_
        refine zG_getR dX4_turnOn_76 zf_X4_45 zd_15 rfl rfl ?_
        refine zR_iload_n dX4_turnOn_79 1 rfl ?_
        obtain ⟨g20, h⟩ := zchk_some h
        refine zG_iald dX4_turnOn_80 zd_26 rfl rfl g20 ?_
        by_cases c21 : (zA V4 11 (x1).toNatClampNeg) ≤ 0
        · have h := zif_t h c21
          refine zR_if_le_t (tgt := 88) dX4_turnOn_81 (by decide) c21 ?_
          refine zR_iconst (x := (0 : Int32)) dX4_turnOn_88 rfl ?_
          refine zR_sub (lv' := []) [] rfl ?_
          exact wX4_turnOn_5_b89 F V0 V1 V2 V3 V4 V5_18 V6 V7 (zI V5_18 18 6) (0 : Int32) _ h
        · have h := zif_f h c21
          refine zR_if_le_f (tgt := 88) dX4_turnOn_81 (by decide) c21 ?_
          refine zR_iconst (x := (1 : Int32)) dX4_turnOn_84 rfl ?_
          refine zR_goto (tgt := 89) dX4_turnOn_85 (by decide) ?_
          refine zR_sub (lv' := []) [] rfl ?_
          exact wX4_turnOn_5_b89 F V0 V1 V2 V3 V4 V5_18 V6 V7 (zI V5_18 18 6) (1 : Int32) _ h
      · have h := zif_f h c12
        refine zR_if_eq_f (tgt := 50) dX4_turnOn_45 (by decide) c12 ?_
        refine zR_iconst (x := (0 : Int32)) dX4_turnOn_48 rfl ?_
        have h := Option.some.inj h
        subst h
        exact zR_iret (x := (0 : Int32)) dX4_turnOn_49 rfl znar0
    · have h := zif_f h c6
      refine zR_icmp_lt_f (tgt := 24) dX4_turnOn_19 (by decide) c6 ?_
      refine zR_iconst (x := (0 : Int32)) dX4_turnOn_22 rfl ?_
      have h := Option.some.inj h
      subst h
      exact zR_iret (x := (0 : Int32)) dX4_turnOn_23 rfl znar0
set_option maxRecDepth 100000 in
set_option maxHeartbeats 4000000 in
theorem mX4_offsOf_5 {w : zW} (F : Nat) (V0 V1 V2 V3 V4 V5 V6 V7 : zV) (x1 : Int32) (res : Int32) (h : fX4_offsOf F V5 x1 = some res) : zMet w kX4_offsOf 0 0 0 [.ref (w.1 + 56), .int x1] (zE zds w [V0, V1, V2, V3, V4, V5, V6, V7]) (some (.int res)) (zE zds w [V0, V1, V2, V3, V4, V5, V6, V7]) := by
  refine zMet_of (by decide) (Nat.le_of_ble_eq_true rfl) (Nat.le_refl 0) fun _ => ?_
  show zR w kX4_offsOf 0 0 0 (some (.int res)) (zE zds w [V0, V1, V2, V3, V4, V5, V6, V7]) 0 [(0, .ref (w.1 + 56)), (1, .int x1)] [] (zE zds w [V0, V1, V2, V3, V4, V5, V6, V7])
  unfold fX4_offsOf at h
  refine zR_iload_n dX4_offsOf_0 1 rfl ?_
  by_cases c1 : x1 < 0
  · have h := zif_t h c1
    refine zR_if_lt_t (tgt := 22) dX4_offsOf_1 (by decide) c1 ?_
    refine zR_iconst (x := (0 : Int32)) dX4_offsOf_22 rfl ?_
    have h := Option.some.inj h
    subst h
    exact zR_iret (x := (0 : Int32)) dX4_offsOf_23 rfl rfl
  · have h := zif_f h c1
    refine zR_if_lt_f (tgt := 22) dX4_offsOf_1 (by decide) c1 ?_
    refine zR_iload_n dX4_offsOf_4 1 rfl ?_
    refine zR_aload_n dX4_offsOf_5 0 rfl ?_
    refine zG_getR dX4_offsOf_6 zf_X4_22 zd_56 rfl rfl ?_
    refine zG_alen (u := (12 : Int32)) dX4_offsOf_9 zd_60 (Nat.le_of_ble_eq_true rfl) rfl rfl rfl ?_
    by_cases c2 : (12 : Int32) ≤ x1
    · have h := zif_t h c2
      refine zR_icmp_ge_t (tgt := 22) dX4_offsOf_10 (by decide) c2 ?_
      refine zR_iconst (x := (0 : Int32)) dX4_offsOf_22 rfl ?_
      have h := Option.some.inj h
      subst h
      exact zR_iret (x := (0 : Int32)) dX4_offsOf_23 rfl rfl
    · have h := zif_f h c2
      refine zR_icmp_ge_f (tgt := 22) dX4_offsOf_10 (by decide) c2 ?_
      refine zR_aload_n dX4_offsOf_13 0 rfl ?_
      refine zG_getR dX4_offsOf_14 zf_X4_22 zd_56 rfl rfl ?_
      refine zR_iload_n dX4_offsOf_17 1 rfl ?_
      obtain ⟨g3, h⟩ := zchk_some h
      refine zG_iald dX4_offsOf_18 zd_60 rfl rfl g3 ?_
      refine zR_goto (tgt := 23) dX4_offsOf_19 (by decide) ?_
      have h := Option.some.inj h
      subst h
      exact zR_iret (x := (zA V5 22 (x1).toNatClampNeg)) dX4_offsOf_23 rfl rfl
set_option maxRecDepth 100000 in
set_option maxHeartbeats 4000000 in
theorem wX6_headOf_b22 {w : zW} (F : Nat) (V0 V1 V2 V3 V4 V5 V6 V7 : zV) (res : Int32) (h : fX6_headOf_b22 F V4 = some res) : zR w kX6_headOf 0 0 0 (some (.int res)) (zE zds w [V0, V1, V2, V3, V4, V5, V6, V7]) 22 [(0, .ref (w.1 + 28))] [] (zE zds w [V0, V1, V2, V3, V4, V5, V6, V7]) := by
  unfold fX6_headOf_b22 at h
  refine zR_aload_n dX6_headOf_22 0 rfl ?_
  refine zG_getI dX6_headOf_23 zf_X6_23 zd_28 rfl rfl ?_
  have h := Option.some.inj h
  subst h
  exact zR_iret (x := (zI V4 13 3)) dX6_headOf_26 rfl rfl
set_option maxRecDepth 100000 in
set_option maxHeartbeats 4000000 in
theorem mX6_headOf {w : zW} (F : Nat) (V0 V1 V2 V3 V4 V5 V6 V7 : zV) (x1 : Int32) (res : Int32) (h : fX6_headOf F V4 x1 = some res) : zMet w kX6_headOf 0 0 0 [.ref (w.1 + 28), .int x1] (zE zds w [V0, V1, V2, V3, V4, V5, V6, V7]) (some (.int res)) (zE zds w [V0, V1, V2, V3, V4, V5, V6, V7]) := by
  refine zMet_of (by decide) (Nat.le_of_ble_eq_true rfl) (Nat.le_refl 0) fun _ => ?_
  show zR w kX6_headOf 0 0 0 (some (.int res)) (zE zds w [V0, V1, V2, V3, V4, V5, V6, V7]) 0 [(0, .ref (w.1 + 28)), (1, .int x1)] [] (zE zds w [V0, V1, V2, V3, V4, V5, V6, V7])
  unfold fX6_headOf at h
  refine zR_iload_n dX6_headOf_0 1 rfl ?_
  by_cases c1 : x1 < 0
  · have h := zif_t h c1
    refine zR_if_lt_t (tgt := 22) dX6_headOf_1 (by decide) c1 ?_
    refine zR_sub (lv' := [(0, .ref (w.1 + 28))]) [0] rfl ?_
    exact wX6_headOf_b22 F V0 V1 V2 V3 V4 V5 V6 V7 _ h
  · have h := zif_f h c1
    refine zR_if_lt_f (tgt := 22) dX6_headOf_1 (by decide) c1 ?_
    refine zR_iload_n dX6_headOf_4 1 rfl ?_
    refine zR_aload_n dX6_headOf_5 0 rfl ?_
    refine zG_getR dX6_headOf_6 zf_X6_26 zd_28 rfl rfl ?_
    refine zG_alen (u := (13 : Int32)) dX6_headOf_9 zd_31 (Nat.le_of_ble_eq_true rfl) rfl rfl rfl ?_
    by_cases c2 : (13 : Int32) ≤ x1
    · have h := zif_t h c2
      refine zR_icmp_ge_t (tgt := 22) dX6_headOf_10 (by decide) c2 ?_
      refine zR_sub (lv' := [(0, .ref (w.1 + 28))]) [0] rfl ?_
      exact wX6_headOf_b22 F V0 V1 V2 V3 V4 V5 V6 V7 _ h
    · have h := zif_f h c2
      refine zR_icmp_ge_f (tgt := 22) dX6_headOf_10 (by decide) c2 ?_
      refine zR_aload_n dX6_headOf_13 0 rfl ?_
      refine zG_getR dX6_headOf_14 zf_X6_26 zd_28 rfl rfl ?_
      refine zR_iload_n dX6_headOf_17 1 rfl ?_
      obtain ⟨g3, h⟩ := zchk_some h
      refine zG_iald dX6_headOf_18 zd_31 rfl rfl g3 ?_
      refine zR_goto (tgt := 26) dX6_headOf_19 (by decide) ?_
      have h := Option.some.inj h
      subst h
      exact zR_iret (x := (zA V4 16 (x1).toNatClampNeg)) dX6_headOf_26 rfl rfl
set_option maxRecDepth 100000 in
set_option maxHeartbeats 4000000 in
theorem mX6_isOn {w : zW} (F : Nat) (V0 V1 V2 V3 V4 V5 V6 V7 : zV) (x1 : Int32) (x2 : Int32) (res : Int32) (h : fX6_isOn F V4 x1 x2 = some res) : zMet w kX6_isOn 0 0 0 [.ref (w.1 + 28), .int x1, .int x2] (zE zds w [V0, V1, V2, V3, V4, V5, V6, V7]) (some (.int res)) (zE zds w [V0, V1, V2, V3, V4, V5, V6, V7]) := by
  refine zMet_of (by decide) (Nat.le_of_ble_eq_true rfl) (Nat.le_refl 0) fun _ => ?_
  show zR w kX6_isOn 0 0 0 (some (.int res)) (zE zds w [V0, V1, V2, V3, V4, V5, V6, V7]) 0 [(0, .ref (w.1 + 28)), (1, .int x1), (2, .int x2)] [] (zE zds w [V0, V1, V2, V3, V4, V5, V6, V7])
  unfold fX6_isOn at h
  refine zR_iload_n dX6_isOn_0 1 rfl ?_
  by_cases c1 : x1 < 0
  · have h := zif_t h c1
    refine zR_if_lt_t (tgt := 26) dX6_isOn_1 (by decide) c1 ?_
    refine zR_iconst (x := (0 : Int32)) dX6_isOn_26 rfl ?_
    have h := Option.some.inj h
    subst h
    exact zR_iret (x := (0 : Int32)) dX6_isOn_27 rfl znar0
  · have h := zif_f h c1
    refine zR_if_lt_f (tgt := 26) dX6_isOn_1 (by decide) c1 ?_
    refine zR_iload_n dX6_isOn_4 1 rfl ?_
    refine zR_aload_n dX6_isOn_5 0 rfl ?_
    refine zG_getI dX6_isOn_6 zf_X6_23 zd_28 rfl rfl ?_
    by_cases c2 : (zI V4 13 3) ≤ x1
    · have h := zif_t h c2
      refine zR_icmp_ge_t (tgt := 26) dX6_isOn_9 (by decide) c2 ?_
      refine zR_iconst (x := (0 : Int32)) dX6_isOn_26 rfl ?_
      have h := Option.some.inj h
      subst h
      exact zR_iret (x := (0 : Int32)) dX6_isOn_27 rfl znar0
    · have h := zif_f h c2
      refine zR_icmp_ge_f (tgt := 26) dX6_isOn_9 (by decide) c2 ?_
      refine zR_aload_n dX6_isOn_12 0 rfl ?_
      refine zG_getR dX6_isOn_13 zf_X6_29 zd_28 rfl rfl ?_
      refine zR_iload_n dX6_isOn_16 1 rfl ?_
      obtain ⟨g3, h⟩ := zchk_some h
      refine zG_iald dX6_isOn_17 zd_32 rfl rfl g3 ?_
      refine zR_iload_n dX6_isOn_18 2 rfl ?_
      by_cases c4 : (zA V4 17 (x1).toNatClampNeg) = x2
      · have h := zif_t h c4
        refine zR_icmp_ne_f (tgt := 26) dX6_isOn_19 (by decide) c4 ?_
        refine zR_iconst (x := (1 : Int32)) dX6_isOn_22 rfl ?_
        refine zR_goto (tgt := 27) dX6_isOn_23 (by decide) ?_
        have h := Option.some.inj h
        subst h
        exact zR_iret (x := (1 : Int32)) dX6_isOn_27 rfl znar1
      · have h := zif_f h c4
        refine zR_icmp_ne_t (tgt := 26) dX6_isOn_19 (by decide) c4 ?_
        refine zR_iconst (x := (0 : Int32)) dX6_isOn_26 rfl ?_
        have h := Option.some.inj h
        subst h
        exact zR_iret (x := (0 : Int32)) dX6_isOn_27 rfl znar0
set_option maxRecDepth 100000 in
set_option maxHeartbeats 4000000 in
theorem mX6_condOf {w : zW} (F : Nat) (V0 V1 V2 V3 V4 V5 V6 V7 : zV) (x1 : Int32) (res : Int32) (h : fX6_condOf F V4 x1 = some res) : zMet w kX6_condOf 0 0 0 [.ref (w.1 + 28), .int x1] (zE zds w [V0, V1, V2, V3, V4, V5, V6, V7]) (some (.int res)) (zE zds w [V0, V1, V2, V3, V4, V5, V6, V7]) := by
  refine zMet_of (by decide) (Nat.le_of_ble_eq_true rfl) (Nat.le_refl 0) fun _ => ?_
  show zR w kX6_condOf 0 0 0 (some (.int res)) (zE zds w [V0, V1, V2, V3, V4, V5, V6, V7]) 0 [(0, .ref (w.1 + 28)), (1, .int x1)] [] (zE zds w [V0, V1, V2, V3, V4, V5, V6, V7])
  unfold fX6_condOf at h
  refine zR_iload_n dX6_condOf_0 1 rfl ?_
  by_cases c1 : x1 < 0
  · have h := zif_t h c1
    refine zR_if_lt_t (tgt := 21) dX6_condOf_1 (by decide) c1 ?_
    refine zR_iconst (x := (-1 : Int32)) dX6_condOf_21 (by decide) ?_
    have h := Option.some.inj h
    subst h
    exact zR_iret (x := (-1 : Int32)) dX6_condOf_22 rfl rfl
  · have h := zif_f h c1
    refine zR_if_lt_f (tgt := 21) dX6_condOf_1 (by decide) c1 ?_
    refine zR_iload_n dX6_condOf_4 1 rfl ?_
    refine zR_aload_n dX6_condOf_5 0 rfl ?_
    refine zG_getI dX6_condOf_6 zf_X6_23 zd_28 rfl rfl ?_
    by_cases c2 : (zI V4 13 3) ≤ x1
    · have h := zif_t h c2
      refine zR_icmp_ge_t (tgt := 21) dX6_condOf_9 (by decide) c2 ?_
      refine zR_iconst (x := (-1 : Int32)) dX6_condOf_21 (by decide) ?_
      have h := Option.some.inj h
      subst h
      exact zR_iret (x := (-1 : Int32)) dX6_condOf_22 rfl rfl
    · have h := zif_f h c2
      refine zR_icmp_ge_f (tgt := 21) dX6_condOf_9 (by decide) c2 ?_
      refine zR_aload_n dX6_condOf_12 0 rfl ?_
      refine zG_getR dX6_condOf_13 zf_X6_32 zd_28 rfl rfl ?_
      refine zR_iload_n dX6_condOf_16 1 rfl ?_
      obtain ⟨g3, h⟩ := zchk_some h
      refine zG_iald dX6_condOf_17 zd_33 rfl rfl g3 ?_
      refine zR_goto (tgt := 22) dX6_condOf_18 (by decide) ?_
      have h := Option.some.inj h
      subst h
      exact zR_iret (x := (zA V4 18 (x1).toNatClampNeg)) dX6_condOf_22 rfl rfl
set_option maxRecDepth 100000 in
set_option maxHeartbeats 4000000 in
theorem mX4_timeLeftOf_5 {w : zW} (F : Nat) (V0 V1 V2 V3 V4 V5 V6 V7 : zV) (x1 : Int32) (res : Int32) (h : fX4_timeLeftOf F V5 x1 = some res) : zMet w kX4_timeLeftOf 0 0 0 [.ref (w.1 + 56), .int x1] (zE zds w [V0, V1, V2, V3, V4, V5, V6, V7]) (some (.int res)) (zE zds w [V0, V1, V2, V3, V4, V5, V6, V7]) := by
  refine zMet_of (by decide) (Nat.le_of_ble_eq_true rfl) (Nat.le_refl 0) fun _ => ?_
  show zR w kX4_timeLeftOf 0 0 0 (some (.int res)) (zE zds w [V0, V1, V2, V3, V4, V5, V6, V7]) 0 [(0, .ref (w.1 + 56)), (1, .int x1)] [] (zE zds w [V0, V1, V2, V3, V4, V5, V6, V7])
  unfold fX4_timeLeftOf at h
  refine zR_iload_n dX4_timeLeftOf_0 1 rfl ?_
  by_cases c1 : x1 < 0
  · have h := zif_t h c1
    refine zR_if_lt_t (tgt := 22) dX4_timeLeftOf_1 (by decide) c1 ?_
    refine zR_iconst (x := (0 : Int32)) dX4_timeLeftOf_22 rfl ?_
    have h := Option.some.inj h
    subst h
    exact zR_iret (x := (0 : Int32)) dX4_timeLeftOf_23 rfl rfl
  · have h := zif_f h c1
    refine zR_if_lt_f (tgt := 22) dX4_timeLeftOf_1 (by decide) c1 ?_
    refine zR_iload_n dX4_timeLeftOf_4 1 rfl ?_
    refine zR_aload_n dX4_timeLeftOf_5 0 rfl ?_
    refine zG_getR dX4_timeLeftOf_6 zf_X4_15 zd_56 rfl rfl ?_
    refine zG_alen (u := (12 : Int32)) dX4_timeLeftOf_9 zd_58 (Nat.le_of_ble_eq_true rfl) rfl rfl rfl ?_
    by_cases c2 : (12 : Int32) ≤ x1
    · have h := zif_t h c2
      refine zR_icmp_ge_t (tgt := 22) dX4_timeLeftOf_10 (by decide) c2 ?_
      refine zR_iconst (x := (0 : Int32)) dX4_timeLeftOf_22 rfl ?_
      have h := Option.some.inj h
      subst h
      exact zR_iret (x := (0 : Int32)) dX4_timeLeftOf_23 rfl rfl
    · have h := zif_f h c2
      refine zR_icmp_ge_f (tgt := 22) dX4_timeLeftOf_10 (by decide) c2 ?_
      refine zR_aload_n dX4_timeLeftOf_13 0 rfl ?_
      refine zG_getR dX4_timeLeftOf_14 zf_X4_15 zd_56 rfl rfl ?_
      refine zR_iload_n dX4_timeLeftOf_17 1 rfl ?_
      obtain ⟨g3, h⟩ := zchk_some h
      refine zG_iald dX4_timeLeftOf_18 zd_58 rfl rfl g3 ?_
      refine zR_goto (tgt := 23) dX4_timeLeftOf_19 (by decide) ?_
      have h := Option.some.inj h
      subst h
      exact zR_iret (x := (zA V5 20 (x1).toNatClampNeg)) dX4_timeLeftOf_23 rfl rfl
set_option maxRecDepth 100000 in
set_option maxHeartbeats 4000000 in
theorem mX6_size {w : zW} (F : Nat) (V0 V1 V2 V3 V4 V5 V6 V7 : zV) (res : Int32) (h : fX6_size F V4 = some res) : zMet w kX6_size 0 0 0 [.ref (w.1 + 28)] (zE zds w [V0, V1, V2, V3, V4, V5, V6, V7]) (some (.int res)) (zE zds w [V0, V1, V2, V3, V4, V5, V6, V7]) := by
  refine zMet_of (by decide) (Nat.le_of_ble_eq_true rfl) (Nat.le_refl 0) fun _ => ?_
  show zR w kX6_size 0 0 0 (some (.int res)) (zE zds w [V0, V1, V2, V3, V4, V5, V6, V7]) 0 [(0, .ref (w.1 + 28))] [] (zE zds w [V0, V1, V2, V3, V4, V5, V6, V7])
  unfold fX6_size at h
  refine zR_aload_n dX6_size_0 0 rfl ?_
  refine zG_getI dX6_size_1 zf_X6_19 zd_28 rfl rfl ?_
  have h := Option.some.inj h
  subst h
  exact zR_iret (x := (zI V4 13 2)) dX6_size_4 rfl rfl
set_option maxRecDepth 100000 in
set_option maxHeartbeats 4000000 in
theorem mX6_kindAt {w : zW} (F : Nat) (V0 V1 V2 V3 V4 V5 V6 V7 : zV) (x1 : Int32) (res : Int32) (h : fX6_kindAt F V4 x1 = some res) : zMet w kX6_kindAt 0 0 0 [.ref (w.1 + 28), .int x1] (zE zds w [V0, V1, V2, V3, V4, V5, V6, V7]) (some (.int res)) (zE zds w [V0, V1, V2, V3, V4, V5, V6, V7]) := by
  refine zMet_of (by decide) (Nat.le_of_ble_eq_true rfl) (Nat.le_refl 0) fun _ => ?_
  show zR w kX6_kindAt 0 0 0 (some (.int res)) (zE zds w [V0, V1, V2, V3, V4, V5, V6, V7]) 0 [(0, .ref (w.1 + 28)), (1, .int x1)] [] (zE zds w [V0, V1, V2, V3, V4, V5, V6, V7])
  unfold fX6_kindAt at h
  refine zR_iload_n dX6_kindAt_0 1 rfl ?_
  by_cases c1 : x1 < 0
  · have h := zif_t h c1
    refine zR_if_lt_t (tgt := 21) dX6_kindAt_1 (by decide) c1 ?_
    refine zR_bipush (x := (41 : Int32)) dX6_kindAt_21 rfl ?_
    have h := Option.some.inj h
    subst h
    exact zR_iret (x := (41 : Int32)) dX6_kindAt_23 rfl rfl
  · have h := zif_f h c1
    refine zR_if_lt_f (tgt := 21) dX6_kindAt_1 (by decide) c1 ?_
    refine zR_iload_n dX6_kindAt_4 1 rfl ?_
    refine zR_aload_n dX6_kindAt_5 0 rfl ?_
    refine zG_getI dX6_kindAt_6 zf_X6_19 zd_28 rfl rfl ?_
    by_cases c2 : (zI V4 13 2) ≤ x1
    · have h := zif_t h c2
      refine zR_icmp_ge_t (tgt := 21) dX6_kindAt_9 (by decide) c2 ?_
      refine zR_bipush (x := (41 : Int32)) dX6_kindAt_21 rfl ?_
      have h := Option.some.inj h
      subst h
      exact zR_iret (x := (41 : Int32)) dX6_kindAt_23 rfl rfl
    · have h := zif_f h c2
      refine zR_icmp_ge_f (tgt := 21) dX6_kindAt_9 (by decide) c2 ?_
      refine zR_aload_n dX6_kindAt_12 0 rfl ?_
      refine zG_getR dX6_kindAt_13 zf_X6_9 zd_28 rfl rfl ?_
      refine zR_iload_n dX6_kindAt_16 1 rfl ?_
      obtain ⟨g3, h⟩ := zchk_some h
      refine zG_bald dX6_kindAt_17 zd_29 rfl rfl g3 ?_
      refine zR_goto (tgt := 23) dX6_kindAt_18 (by decide) ?_
      have h := Option.some.inj h
      subst h
      exact zR_iret (x := (zA V4 14 (x1).toNatClampNeg)) dX6_kindAt_23 rfl rfl
set_option maxRecDepth 100000 in
set_option maxHeartbeats 4000000 in
theorem mX6_numberAt {w : zW} (F : Nat) (V0 V1 V2 V3 V4 V5 V6 V7 : zV) (x1 : Int32) (res : Int32) (h : fX6_numberAt F V4 x1 = some res) : zMet w kX6_numberAt 0 0 0 [.ref (w.1 + 28), .int x1] (zE zds w [V0, V1, V2, V3, V4, V5, V6, V7]) (some (.int res)) (zE zds w [V0, V1, V2, V3, V4, V5, V6, V7]) := by
  refine zMet_of (by decide) (Nat.le_of_ble_eq_true rfl) (Nat.le_refl 0) fun _ => ?_
  show zR w kX6_numberAt 0 0 0 (some (.int res)) (zE zds w [V0, V1, V2, V3, V4, V5, V6, V7]) 0 [(0, .ref (w.1 + 28)), (1, .int x1)] [] (zE zds w [V0, V1, V2, V3, V4, V5, V6, V7])
  unfold fX6_numberAt at h
  refine zR_iload_n dX6_numberAt_0 1 rfl ?_
  by_cases c1 : x1 < 0
  · have h := zif_t h c1
    refine zR_if_lt_t (tgt := 21) dX6_numberAt_1 (by decide) c1 ?_
    refine zR_iconst (x := (0 : Int32)) dX6_numberAt_21 rfl ?_
    have h := Option.some.inj h
    subst h
    exact zR_iret (x := (0 : Int32)) dX6_numberAt_22 rfl rfl
  · have h := zif_f h c1
    refine zR_if_lt_f (tgt := 21) dX6_numberAt_1 (by decide) c1 ?_
    refine zR_iload_n dX6_numberAt_4 1 rfl ?_
    refine zR_aload_n dX6_numberAt_5 0 rfl ?_
    refine zG_getI dX6_numberAt_6 zf_X6_19 zd_28 rfl rfl ?_
    by_cases c2 : (zI V4 13 2) ≤ x1
    · have h := zif_t h c2
      refine zR_icmp_ge_t (tgt := 21) dX6_numberAt_9 (by decide) c2 ?_
      refine zR_iconst (x := (0 : Int32)) dX6_numberAt_21 rfl ?_
      have h := Option.some.inj h
      subst h
      exact zR_iret (x := (0 : Int32)) dX6_numberAt_22 rfl rfl
    · have h := zif_f h c2
      refine zR_icmp_ge_f (tgt := 21) dX6_numberAt_9 (by decide) c2 ?_
      refine zR_aload_n dX6_numberAt_12 0 rfl ?_
      refine zG_getR dX6_numberAt_13 zf_X6_15 zd_28 rfl rfl ?_
      refine zR_iload_n dX6_numberAt_16 1 rfl ?_
      obtain ⟨g3, h⟩ := zchk_some h
      refine zG_iald dX6_numberAt_17 zd_30 rfl rfl g3 ?_
      refine zR_goto (tgt := 22) dX6_numberAt_18 (by decide) ?_
      have h := Option.some.inj h
      subst h
      exact zR_iret (x := (zA V4 15 (x1).toNatClampNeg)) dX6_numberAt_22 rfl rfl
set_option maxRecDepth 100000 in
set_option maxHeartbeats 4000000 in
theorem mX7_unit_5 {w : zW} (F : Nat) (V0 V1 V2 V3 V4 V5 V6 V7 : zV) (x0 : Int32) (x1 : Int32) (x3 : Int32) (x4 : Int32) (res : Int32) (h : fX7_unit F V5 x0 x1 x3 x4 = some res) : zMet w kX7_unit 0 0 0 [.int x0, .int x1, .ref (w.1 + 39), .int x3, .int x4] (zE zds w [V0, V1, V2, V3, V4, V5, V6, V7]) (some (.int res)) (zE zds w [V0, V1, V2, V3, V4, V5, V6, V7]) := by
  refine zMet_of (by decide) (Nat.le_of_ble_eq_true rfl) (Nat.le_refl 0) fun _ => ?_
  show zR w kX7_unit 0 0 0 (some (.int res)) (zE zds w [V0, V1, V2, V3, V4, V5, V6, V7]) 0 [(0, .int x0), (1, .int x1), (2, .ref (w.1 + 39)), (3, .int x3), (4, .int x4)] [] (zE zds w [V0, V1, V2, V3, V4, V5, V6, V7])
  unfold fX7_unit at h
  refine zR_iload_n dX7_unit_0 0 rfl ?_
  by_cases c1 : x0 = (25 : Int32)
  · have h := zif_t h c1
    refine zR_tabc (tgt := 46) dX7_unit_1 c1 rfl (by decide) ?_
    refine zR_iload_n dX7_unit_46 3 rfl ?_
    have h := Option.some.inj h
    subst h
    exact zR_iret (x := x3) dX7_unit_47 rfl rfl
  · have h := zif_f h c1
    by_cases c2 : x0 = (26 : Int32)
    · have h := zif_t h c2
      refine zR_tabc (tgt := 48) dX7_unit_1 c2 rfl (by decide) ?_
      refine zR_iload dX7_unit_48 4 rfl ?_
      have h := Option.some.inj h
      subst h
      exact zR_iret (x := x4) dX7_unit_50 rfl rfl
    · have h := zif_f h c2
      by_cases c3 : x0 = (27 : Int32)
      · have h := zif_t h c3
        refine zR_tabc (tgt := 28) dX7_unit_1 c3 rfl (by decide) ?_
        refine zR_iload_n dX7_unit_28 1 rfl ?_
        by_cases c4 : x1 < 0
        · have h := zif_t h c4
          refine zR_if_lt_t (tgt := 44) dX7_unit_29 (by decide) c4 ?_
          refine zR_iconst (x := (0 : Int32)) dX7_unit_44 rfl ?_
          have h := Option.some.inj h
          subst h
          exact zR_iret (x := (0 : Int32)) dX7_unit_45 rfl rfl
        · have h := zif_f h c4
          refine zR_if_lt_f (tgt := 44) dX7_unit_29 (by decide) c4 ?_
          refine zR_iload_n dX7_unit_32 1 rfl ?_
          refine zR_aload_n dX7_unit_33 2 rfl ?_
          refine zG_alen (u := (16 : Int32)) dX7_unit_34 zd_39 (Nat.le_of_ble_eq_true rfl) rfl rfl rfl ?_
          by_cases c5 : (16 : Int32) ≤ x1
          · have h := zif_t h c5
            refine zR_icmp_ge_t (tgt := 44) dX7_unit_35 (by decide) c5 ?_
            refine zR_iconst (x := (0 : Int32)) dX7_unit_44 rfl ?_
            have h := Option.some.inj h
            subst h
            exact zR_iret (x := (0 : Int32)) dX7_unit_45 rfl rfl
          · have h := zif_f h c5
            refine zR_icmp_ge_f (tgt := 44) dX7_unit_35 (by decide) c5 ?_
            refine zR_aload_n dX7_unit_38 2 rfl ?_
            refine zR_iload_n dX7_unit_39 1 rfl ?_
            obtain ⟨g6, h⟩ := zchk_some h
            refine zG_iald dX7_unit_40 zd_39 rfl rfl g6 ?_
            refine zR_goto (tgt := 45) dX7_unit_41 (by decide) ?_
            have h := Option.some.inj h
            subst h
            exact zR_iret (x := (zA V5 1 (x1).toNatClampNeg)) dX7_unit_45 rfl rfl
      · have h := zif_f h c3
        refine zR_tabO (tgt := 51) dX7_unit_1 (by have u25 := zne c1 (n := 25) rfl; have u26 := zne c2 (n := 26) rfl; have u27 := zne c3 (n := 27) rfl; omega) (by decide) ?_
        refine zR_iload_n dX7_unit_51 1 rfl ?_
        have h := Option.some.inj h
        subst h
        exact zR_iret (x := x1) dX7_unit_52 rfl rfl
set_option maxRecDepth 100000 in
set_option maxHeartbeats 4000000 in
theorem wX7_work_5_b257 {w : zW} (F : Nat) (k19 : zV → zV → Int32 → Int32 → Int32 → Int32 → Int32 → Int32 → Int32 → Option (Int32 × zV)) (hk19 : ∀ (V0 V1 V2 V3 V4 V5 V6 V7 : zV) (x3 : Int32) (x4 : Int32) (x5 : Int32) (x6 : Int32) (x7 : Int32) (x8 : Int32) (x9 : Int32) (res : Int32 × zV), k19 V4 V5 x3 x4 x5 x6 x7 x8 x9 = some res → zR w kX7_work 1 0 0 (some (.int res.1)) (zE zds w [V0, V1, V2, V3, V4, res.2, V6, V7]) 19 [(0, .ref (w.1 + 40)), (2, .ref (w.1 + 39)), (3, .int x3), (4, .int x4), (5, .int x5), (6, .int x6), (7, .int x7), (8, .int x8), (9, .int x9)] [] (zE zds w [V0, V1, V2, V3, V4, V5, V6, V7])) (V0 V1 V2 V3 V4 V5 V6 V7 : zV) (x3 : Int32) (x4 : Int32) (x5 : Int32) (x6 : Int32) (x7 : Int32) (x8 : Int32) (x9 : Int32) (res : Int32 × zV) (h : fX7_work_b257 F k19 V4 V5 x3 x4 x5 x6 x7 x8 x9 = some res) : zR w kX7_work 1 0 0 (some (.int res.1)) (zE zds w [V0, V1, V2, V3, V4, res.2, V6, V7]) 257 [(0, .ref (w.1 + 40)), (2, .ref (w.1 + 39)), (3, .int x3), (4, .int x4), (5, .int x5), (6, .int x6), (7, .int x7), (8, .int x8), (9, .int x9)] [] (zE zds w [V0, V1, V2, V3, V4, V5, V6, V7]) := by
  unfold fX7_work_b257 at h
  refine zR_iinc (u := (x9 + 1)) (lv' := [(0, .ref (w.1 + 40)), (2, .ref (w.1 + 39)), (3, .int x3), (4, .int x4), (5, .int x5), (6, .int x6), (7, .int x7), (8, .int x8), (9, .int (x9 + 1))]) dX7_work_257 8 rfl rfl (Nat.le_of_ble_eq_true rfl) rfl ?_
  refine zR_goto (tgt := 19) dX7_work_260 (by decide) ?_
  exact hk19 V0 V1 V2 V3 V4 V5 V6 V7 x3 x4 x5 x6 x7 x8 (x9 + 1) _ h
set_option maxRecDepth 100000 in
set_option maxHeartbeats 4000000 in
theorem wX7_work_5_b215 {w : zW} (F : Nat) (k19 : zV → zV → Int32 → Int32 → Int32 → Int32 → Int32 → Int32 → Int32 → Option (Int32 × zV)) (hk19 : ∀ (V0 V1 V2 V3 V4 V5 V6 V7 : zV) (x3 : Int32) (x4 : Int32) (x5 : Int32) (x6 : Int32) (x7 : Int32) (x8 : Int32) (x9 : Int32) (res : Int32 × zV), k19 V4 V5 x3 x4 x5 x6 x7 x8 x9 = some res → zR w kX7_work 1 0 0 (some (.int res.1)) (zE zds w [V0, V1, V2, V3, V4, res.2, V6, V7]) 19 [(0, .ref (w.1 + 40)), (2, .ref (w.1 + 39)), (3, .int x3), (4, .int x4), (5, .int x5), (6, .int x6), (7, .int x7), (8, .int x8), (9, .int x9)] [] (zE zds w [V0, V1, V2, V3, V4, V5, V6, V7])) (V0 V1 V2 V3 V4 V5 V6 V7 : zV) (x3 : Int32) (x4 : Int32) (x5 : Int32) (x6 : Int32) (x7 : Int32) (x9 : Int32) (x10 : Int32) (res : Int32 × zV) (h : fX7_work_b215 F k19 V4 V5 x3 x4 x5 x6 x7 x9 x10 = some res) : zR w kX7_work 1 0 0 (some (.int res.1)) (zE zds w [V0, V1, V2, V3, V4, res.2, V6, V7]) 215 [(0, .ref (w.1 + 40)), (2, .ref (w.1 + 39)), (3, .int x3), (4, .int x4), (5, .int x5), (6, .int x6), (7, .int x7), (9, .int x9), (10, .int x10)] [] (zE zds w [V0, V1, V2, V3, V4, V5, V6, V7]) := by
  unfold fX7_work_b215 at h
  refine zR_iload dX7_work_215 6 rfl ?_
  refine zR_iload dX7_work_217 8 rfl ?_
  refine zR_aload_n dX7_work_219 0 rfl ?_
  refine zG_getR dX7_work_220 zf_X7_22 zd_40 rfl rfl ?_
  refine zR_iload dX7_work_223 7 rfl ?_
  obtain ⟨q1, hq2, h⟩ := zbd_some h
  refine zR_cV (rest := [.int x10, .int x7]) (st1 := [.int q1, .int x10, .int x7]) dX7_work_225 (mX6_numberAt F V0 V1 V2 V3 V4 V5 V6 V7 x9 _ hq2) zc_X7_42 rfl (zE_at zd_28) ⟨_, _, rfl⟩ rfl (Nat.le_of_ble_eq_true rfl) (Nat.le_of_ble_eq_true rfl) rfl ?_
  refine zR_aload_n dX7_work_228 1 rfl ?_
  refine zR_iload_n dX7_work_229 2 rfl ?_
  refine zR_iload dX7_work_230 3 rfl ?_
  obtain ⟨q3, hq4, h⟩ := zbd_some h
  refine zR_cS (rest := [.int x7]) (st1 := [.int q3, .int x7]) dX7_work_232 (mX7_unit_5 F V0 V1 V2 V3 V4 V5 V6 V7 x10 q1 x3 x4 _ hq4) zc_X7_45 rfl rfl (Nat.le_of_ble_eq_true rfl) (Nat.le_of_ble_eq_true rfl) rfl ?_
  refine zR_imul dX7_work_235 ?_
  refine zR_istore (lv' := [(0, .ref (w.1 + 40)), (2, .ref (w.1 + 39)), (3, .int x3), (4, .int x4), (5, .int x5), (6, .int x6), (7, .int (x7 * q3)), (9, .int x9), (10, .int x10)]) dX7_work_236 (Nat.le_of_ble_eq_true rfl) rfl ?_
  refine zR_iconst (x := (0 : Int32)) dX7_work_238 rfl ?_
  refine zR_istore (lv' := [(0, .ref (w.1 + 40)), (2, .ref (w.1 + 39)), (3, .int x3), (4, .int x4), (5, .int x5), (6, .int x6), (7, .int (x7 * q3)), (9, .int x9), (10, .int x10), (8, .int (0 : Int32))]) dX7_work_239 (Nat.le_of_ble_eq_true rfl) rfl ?_
  refine zR_goto (tgt := 257) dX7_work_241 (by decide) ?_
  refine zR_sub (lv' := [(0, .ref (w.1 + 40)), (2, .ref (w.1 + 39)), (3, .int x3), (4, .int x4), (5, .int x5), (6, .int x6), (7, .int (x7 * q3)), (8, .int (0 : Int32)), (9, .int x9)]) [0, 1, 2, 3, 4, 5, 6, 9, 7] rfl ?_
  exact wX7_work_5_b257 F k19 hk19 V0 V1 V2 V3 V4 V5 V6 V7 x3 x4 x5 x6 (x7 * q3) (0 : Int32) x9 _ h
set_option maxRecDepth 100000 in
set_option maxHeartbeats 4000000 in
theorem wX7_work_5_b182 {w : zW} (F : Nat) (k19 : zV → zV → Int32 → Int32 → Int32 → Int32 → Int32 → Int32 → Int32 → Option (Int32 × zV)) (hk19 : ∀ (V0 V1 V2 V3 V4 V5 V6 V7 : zV) (x3 : Int32) (x4 : Int32) (x5 : Int32) (x6 : Int32) (x7 : Int32) (x8 : Int32) (x9 : Int32) (res : Int32 × zV), k19 V4 V5 x3 x4 x5 x6 x7 x8 x9 = some res → zR w kX7_work 1 0 0 (some (.int res.1)) (zE zds w [V0, V1, V2, V3, V4, res.2, V6, V7]) 19 [(0, .ref (w.1 + 40)), (2, .ref (w.1 + 39)), (3, .int x3), (4, .int x4), (5, .int x5), (6, .int x6), (7, .int x7), (8, .int x8), (9, .int x9)] [] (zE zds w [V0, V1, V2, V3, V4, V5, V6, V7])) (V0 V1 V2 V3 V4 V5 V6 V7 : zV) (x3 : Int32) (x4 : Int32) (x5 : Int32) (x6 : Int32) (x8 : Int32) (x9 : Int32) (s0 : Int32) (res : Int32 × zV) (h : fX7_work_b182 F k19 V4 V5 x3 x4 x5 x6 x8 x9 s0 = some res) : zR w kX7_work 1 0 0 (some (.int res.1)) (zE zds w [V0, V1, V2, V3, V4, res.2, V6, V7]) 182 [(0, .ref (w.1 + 40)), (2, .ref (w.1 + 39)), (3, .int x3), (4, .int x4), (5, .int x5), (6, .int x6), (8, .int x8), (9, .int x9)] [.int s0] (zE zds w [V0, V1, V2, V3, V4, V5, V6, V7]) := by
  unfold fX7_work_b182 at h
  refine zR_istore (lv' := [(0, .ref (w.1 + 40)), (2, .ref (w.1 + 39)), (3, .int x3), (4, .int x4), (5, .int x5), (6, .int x6), (8, .int x8), (9, .int x9), (7, .int s0)]) dX7_work_182 (Nat.le_of_ble_eq_true rfl) rfl ?_
  refine zR_goto (tgt := 257) dX7_work_184 (by decide) ?_
  refine zR_sub (lv' := [(0, .ref (w.1 + 40)), (2, .ref (w.1 + 39)), (3, .int x3), (4, .int x4), (5, .int x5), (6, .int x6), (7, .int s0), (8, .int x8), (9, .int x9)]) [0, 1, 2, 3, 4, 5, 8, 6, 7] rfl ?_
  exact wX7_work_5_b257 F k19 hk19 V0 V1 V2 V3 V4 V5 V6 V7 x3 x4 x5 x6 s0 x8 x9 _ h
set_option maxRecDepth 100000 in
set_option maxHeartbeats 4000000 in
theorem wX7_work_5_b167 {w : zW} (F : Nat) (k19 : zV → zV → Int32 → Int32 → Int32 → Int32 → Int32 → Int32 → Int32 → Option (Int32 × zV)) (hk19 : ∀ (V0 V1 V2 V3 V4 V5 V6 V7 : zV) (x3 : Int32) (x4 : Int32) (x5 : Int32) (x6 : Int32) (x7 : Int32) (x8 : Int32) (x9 : Int32) (res : Int32 × zV), k19 V4 V5 x3 x4 x5 x6 x7 x8 x9 = some res → zR w kX7_work 1 0 0 (some (.int res.1)) (zE zds w [V0, V1, V2, V3, V4, res.2, V6, V7]) 19 [(0, .ref (w.1 + 40)), (2, .ref (w.1 + 39)), (3, .int x3), (4, .int x4), (5, .int x5), (6, .int x6), (7, .int x7), (8, .int x8), (9, .int x9)] [] (zE zds w [V0, V1, V2, V3, V4, V5, V6, V7])) (V0 V1 V2 V3 V4 V5 V6 V7 : zV) (x3 : Int32) (x4 : Int32) (x5 : Int32) (x8 : Int32) (x9 : Int32) (x10 : Int32) (s0 : Int32) (s1 : Int32) (res : Int32 × zV) (h : fX7_work_b167 F k19 V4 V5 x3 x4 x5 x8 x9 x10 s0 s1 = some res) : zR w kX7_work 1 0 0 (some (.int res.1)) (zE zds w [V0, V1, V2, V3, V4, res.2, V6, V7]) 167 [(0, .ref (w.1 + 40)), (2, .ref (w.1 + 39)), (3, .int x3), (4, .int x4), (5, .int x5), (8, .int x8), (9, .int x9), (10, .int x10)] [.int s1, .int s0] (zE zds w [V0, V1, V2, V3, V4, V5, V6, V7]) := by
  unfold fX7_work_b167 at h
  refine zR_iadd dX7_work_167 ?_
  refine zR_istore (lv' := [(0, .ref (w.1 + 40)), (2, .ref (w.1 + 39)), (3, .int x3), (4, .int x4), (5, .int x5), (8, .int x8), (9, .int x9), (10, .int x10), (6, .int (s0 + s1))]) dX7_work_168 (Nat.le_of_ble_eq_true rfl) rfl ?_
  refine zR_iload dX7_work_170 7 rfl ?_
  refine zR_bipush (x := (34 : Int32)) dX7_work_172 rfl ?_
  by_cases c5 : x10 = (34 : Int32)
  · have h := zif_t h c5
    refine zR_icmp_ne_f (tgt := 181) dX7_work_174 (by decide) c5 ?_
    refine zR_iconst (x := (1 : Int32)) dX7_work_177 rfl ?_
    refine zR_goto (tgt := 182) dX7_work_178 (by decide) ?_
    refine zR_sub (lv' := [(0, .ref (w.1 + 40)), (2, .ref (w.1 + 39)), (3, .int x3), (4, .int x4), (5, .int x5), (6, .int (s0 + s1)), (8, .int x8), (9, .int x9)]) [0, 1, 2, 3, 4, 8, 5, 6] rfl ?_
    exact wX7_work_5_b182 F k19 hk19 V0 V1 V2 V3 V4 V5 V6 V7 x3 x4 x5 (s0 + s1) x8 x9 (1 : Int32) _ h
  · have h := zif_f h c5
    refine zR_icmp_ne_t (tgt := 181) dX7_work_174 (by decide) c5 ?_
    refine zR_iconst (x := (-1 : Int32)) dX7_work_181 (by decide) ?_
    refine zR_sub (lv' := [(0, .ref (w.1 + 40)), (2, .ref (w.1 + 39)), (3, .int x3), (4, .int x4), (5, .int x5), (6, .int (s0 + s1)), (8, .int x8), (9, .int x9)]) [0, 1, 2, 3, 4, 8, 5, 6] rfl ?_
    exact wX7_work_5_b182 F k19 hk19 V0 V1 V2 V3 V4 V5 V6 V7 x3 x4 x5 (s0 + s1) x8 x9 (-1 : Int32) _ h
set_option maxRecDepth 100000 in
set_option maxHeartbeats 4000000 in
theorem wX7_work_5_b154 {w : zW} (F : Nat) (k19 : zV → zV → Int32 → Int32 → Int32 → Int32 → Int32 → Int32 → Int32 → Option (Int32 × zV)) (hk19 : ∀ (V0 V1 V2 V3 V4 V5 V6 V7 : zV) (x3 : Int32) (x4 : Int32) (x5 : Int32) (x6 : Int32) (x7 : Int32) (x8 : Int32) (x9 : Int32) (res : Int32 × zV), k19 V4 V5 x3 x4 x5 x6 x7 x8 x9 = some res → zR w kX7_work 1 0 0 (some (.int res.1)) (zE zds w [V0, V1, V2, V3, V4, res.2, V6, V7]) 19 [(0, .ref (w.1 + 40)), (2, .ref (w.1 + 39)), (3, .int x3), (4, .int x4), (5, .int x5), (6, .int x6), (7, .int x7), (8, .int x8), (9, .int x9)] [] (zE zds w [V0, V1, V2, V3, V4, V5, V6, V7])) (V0 V1 V2 V3 V4 V5 V6 V7 : zV) (x3 : Int32) (x4 : Int32) (x5 : Int32) (x6 : Int32) (x7 : Int32) (x8 : Int32) (x9 : Int32) (x10 : Int32) (res : Int32 × zV) (h : fX7_work_b154 F k19 V4 V5 x3 x4 x5 x6 x7 x8 x9 x10 = some res) : zR w kX7_work 1 0 0 (some (.int res.1)) (zE zds w [V0, V1, V2, V3, V4, res.2, V6, V7]) 154 [(0, .ref (w.1 + 40)), (2, .ref (w.1 + 39)), (3, .int x3), (4, .int x4), (5, .int x5), (6, .int x6), (7, .int x7), (8, .int x8), (9, .int x9), (10, .int x10)] [] (zE zds w [V0, V1, V2, V3, V4, V5, V6, V7]) := by
  unfold fX7_work_b154 at h
  refine zR_iload dX7_work_154 5 rfl ?_
  refine zR_iload dX7_work_156 7 rfl ?_
  by_cases c6 : x8 = 0
  · have h := zif_t h c6
    refine zR_if_eq_t (tgt := 165) dX7_work_158 (by decide) c6 ?_
    refine zR_iload dX7_work_165 6 rfl ?_
    refine zR_sub (lv' := [(0, .ref (w.1 + 40)), (2, .ref (w.1 + 39)), (3, .int x3), (4, .int x4), (5, .int x5), (8, .int x8), (9, .int x9), (10, .int x10)]) [0, 1, 2, 3, 4, 7, 8, 9] rfl ?_
    exact wX7_work_5_b167 F k19 hk19 V0 V1 V2 V3 V4 V5 V6 V7 x3 x4 x5 x8 x9 x10 x6 x7 _ h
  · have h := zif_f h c6
    refine zR_if_eq_f (tgt := 165) dX7_work_158 (by decide) c6 ?_
    refine zR_iconst (x := (0 : Int32)) dX7_work_161 rfl ?_
    refine zR_goto (tgt := 167) dX7_work_162 (by decide) ?_
    refine zR_sub (lv' := [(0, .ref (w.1 + 40)), (2, .ref (w.1 + 39)), (3, .int x3), (4, .int x4), (5, .int x5), (8, .int x8), (9, .int x9), (10, .int x10)]) [0, 1, 2, 3, 4, 7, 8, 9] rfl ?_
    exact wX7_work_5_b167 F k19 hk19 V0 V1 V2 V3 V4 V5 V6 V7 x3 x4 x5 x8 x9 x10 x6 (0 : Int32) _ h
set_option maxRecDepth 100000 in
set_option maxHeartbeats 4000000 in
theorem wX7_work_5_b140 {w : zW} (F : Nat) (k19 : zV → zV → Int32 → Int32 → Int32 → Int32 → Int32 → Int32 → Int32 → Option (Int32 × zV)) (hk19 : ∀ (V0 V1 V2 V3 V4 V5 V6 V7 : zV) (x3 : Int32) (x4 : Int32) (x5 : Int32) (x6 : Int32) (x7 : Int32) (x8 : Int32) (x9 : Int32) (res : Int32 × zV), k19 V4 V5 x3 x4 x5 x6 x7 x8 x9 = some res → zR w kX7_work 1 0 0 (some (.int res.1)) (zE zds w [V0, V1, V2, V3, V4, res.2, V6, V7]) 19 [(0, .ref (w.1 + 40)), (2, .ref (w.1 + 39)), (3, .int x3), (4, .int x4), (5, .int x5), (6, .int x6), (7, .int x7), (8, .int x8), (9, .int x9)] [] (zE zds w [V0, V1, V2, V3, V4, V5, V6, V7])) (V0 V1 V2 V3 V4 V5 V6 V7 : zV) (x3 : Int32) (x4 : Int32) (x5 : Int32) (x6 : Int32) (x7 : Int32) (x8 : Int32) (x9 : Int32) (x10 : Int32) (res : Int32 × zV) (h : fX7_work_b140 F k19 V4 V5 x3 x4 x5 x6 x7 x8 x9 x10 = some res) : zR w kX7_work 1 0 0 (some (.int res.1)) (zE zds w [V0, V1, V2, V3, V4, res.2, V6, V7]) 140 [(0, .ref (w.1 + 40)), (2, .ref (w.1 + 39)), (3, .int x3), (4, .int x4), (5, .int x5), (6, .int x6), (7, .int x7), (8, .int x8), (9, .int x9), (10, .int x10)] [] (zE zds w [V0, V1, V2, V3, V4, V5, V6, V7]) := by
  unfold fX7_work_b140 at h
  refine zR_iload dX7_work_140 9 rfl ?_
  refine zR_bipush (x := (34 : Int32)) dX7_work_142 rfl ?_
  by_cases c7 : x10 = (34 : Int32)
  · have h := zif_t h c7
    refine zR_icmp_eq_t (tgt := 154) dX7_work_144 (by decide) c7 ?_
    exact wX7_work_5_b154 F k19 hk19 V0 V1 V2 V3 V4 V5 V6 V7 x3 x4 x5 x6 x7 x8 x9 x10 _ h
  · have h := zif_f h c7
    refine zR_icmp_eq_f (tgt := 154) dX7_work_144 (by decide) c7 ?_
    refine zR_iload dX7_work_147 9 rfl ?_
    refine zR_bipush (x := (35 : Int32)) dX7_work_149 rfl ?_
    by_cases c8 : x10 = (35 : Int32)
    · have h := zif_t h c8
      refine zR_icmp_ne_f (tgt := 187) dX7_work_151 (by decide) c8 ?_
      exact wX7_work_5_b154 F k19 hk19 V0 V1 V2 V3 V4 V5 V6 V7 x3 x4 x5 x6 x7 x8 x9 x10 _ h
    · have h := zif_f h c8
      refine zR_icmp_ne_t (tgt := 187) dX7_work_151 (by decide) c8 ?_
      refine zR_iload dX7_work_187 9 rfl ?_
      refine zR_bipush (x := (28 : Int32)) dX7_work_189 rfl ?_
      by_cases c9 : x10 = (28 : Int32)
      · have h := zif_t h c9
        refine zR_icmp_eq_t (tgt := 215) dX7_work_191 (by decide) c9 ?_
        refine zR_sub (lv' := [(0, .ref (w.1 + 40)), (2, .ref (w.1 + 39)), (3, .int x3), (4, .int x4), (5, .int x5), (6, .int x6), (7, .int x7), (9, .int x9), (10, .int x10)]) [0, 1, 2, 3, 4, 5, 6, 8, 9] rfl ?_
        exact wX7_work_5_b215 F k19 hk19 V0 V1 V2 V3 V4 V5 V6 V7 x3 x4 x5 x6 x7 x9 x10 _ h
      · have h := zif_f h c9
        refine zR_icmp_eq_f (tgt := 215) dX7_work_191 (by decide) c9 ?_
        refine zR_iload dX7_work_194 9 rfl ?_
        refine zR_bipush (x := (27 : Int32)) dX7_work_196 rfl ?_
        by_cases c10 : x10 = (27 : Int32)
        · have h := zif_t h c10
          refine zR_icmp_eq_t (tgt := 215) dX7_work_198 (by decide) c10 ?_
          refine zR_sub (lv' := [(0, .ref (w.1 + 40)), (2, .ref (w.1 + 39)), (3, .int x3), (4, .int x4), (5, .int x5), (6, .int x6), (7, .int x7), (9, .int x9), (10, .int x10)]) [0, 1, 2, 3, 4, 5, 6, 8, 9] rfl ?_
          exact wX7_work_5_b215 F k19 hk19 V0 V1 V2 V3 V4 V5 V6 V7 x3 x4 x5 x6 x7 x9 x10 _ h
        · have h := zif_f h c10
          refine zR_icmp_eq_f (tgt := 215) dX7_work_198 (by decide) c10 ?_
          refine zR_iload dX7_work_201 9 rfl ?_
          refine zR_bipush (x := (25 : Int32)) dX7_work_203 rfl ?_
          by_cases c11 : x10 = (25 : Int32)
          · have h := zif_t h c11
            refine zR_icmp_eq_t (tgt := 215) dX7_work_205 (by decide) c11 ?_
            refine zR_sub (lv' := [(0, .ref (w.1 + 40)), (2, .ref (w.1 + 39)), (3, .int x3), (4, .int x4), (5, .int x5), (6, .int x6), (7, .int x7), (9, .int x9), (10, .int x10)]) [0, 1, 2, 3, 4, 5, 6, 8, 9] rfl ?_
            exact wX7_work_5_b215 F k19 hk19 V0 V1 V2 V3 V4 V5 V6 V7 x3 x4 x5 x6 x7 x9 x10 _ h
          · have h := zif_f h c11
            refine zR_icmp_eq_f (tgt := 215) dX7_work_205 (by decide) c11 ?_
            refine zR_iload dX7_work_208 9 rfl ?_
            refine zR_bipush (x := (26 : Int32)) dX7_work_210 rfl ?_
            by_cases c12 : x10 = (26 : Int32)
            · have h := zif_t h c12
              refine zR_icmp_ne_f (tgt := 244) dX7_work_212 (by decide) c12 ?_
              refine zR_sub (lv' := [(0, .ref (w.1 + 40)), (2, .ref (w.1 + 39)), (3, .int x3), (4, .int x4), (5, .int x5), (6, .int x6), (7, .int x7), (9, .int x9), (10, .int x10)]) [0, 1, 2, 3, 4, 5, 6, 8, 9] rfl ?_
              exact wX7_work_5_b215 F k19 hk19 V0 V1 V2 V3 V4 V5 V6 V7 x3 x4 x5 x6 x7 x9 x10 _ h
            · have h := zif_f h c12
              refine zR_icmp_ne_t (tgt := 244) dX7_work_212 (by decide) c12 ?_
              refine zR_iload dX7_work_244 9 rfl ?_
              refine zR_bipush (x := (36 : Int32)) dX7_work_246 rfl ?_
              by_cases c13 : x10 = (36 : Int32)
              · have h := zif_t h c13
                refine zR_icmp_eq_t (tgt := 257) dX7_work_248 (by decide) c13 ?_
                refine zR_sub (lv' := [(0, .ref (w.1 + 40)), (2, .ref (w.1 + 39)), (3, .int x3), (4, .int x4), (5, .int x5), (6, .int x6), (7, .int x7), (8, .int x8), (9, .int x9)]) [0, 1, 2, 3, 4, 5, 6, 7, 8] rfl ?_
                exact wX7_work_5_b257 F k19 hk19 V0 V1 V2 V3 V4 V5 V6 V7 x3 x4 x5 x6 x7 x8 x9 _ h
              · have h := zif_f h c13
                refine zR_icmp_eq_f (tgt := 257) dX7_work_248 (by decide) c13 ?_
                refine zR_iload dX7_work_251 5 rfl ?_
                refine zR_iload dX7_work_253 6 rfl ?_
                refine zR_iadd dX7_work_255 ?_
                have h := Option.some.inj h
                subst h
                exact zR_iret (x := (x6 + x7)) dX7_work_256 rfl rfl
set_option maxRecDepth 100000 in
set_option maxHeartbeats 4000000 in
theorem wX7_work_5_b98 {w : zW} (F : Nat) (k19 : zV → zV → Int32 → Int32 → Int32 → Int32 → Int32 → Int32 → Int32 → Option (Int32 × zV)) (hk19 : ∀ (V0 V1 V2 V3 V4 V5 V6 V7 : zV) (x3 : Int32) (x4 : Int32) (x5 : Int32) (x6 : Int32) (x7 : Int32) (x8 : Int32) (x9 : Int32) (res : Int32 × zV), k19 V4 V5 x3 x4 x5 x6 x7 x8 x9 = some res → zR w kX7_work 1 0 0 (some (.int res.1)) (zE zds w [V0, V1, V2, V3, V4, res.2, V6, V7]) 19 [(0, .ref (w.1 + 40)), (2, .ref (w.1 + 39)), (3, .int x3), (4, .int x4), (5, .int x5), (6, .int x6), (7, .int x7), (8, .int x8), (9, .int x9)] [] (zE zds w [V0, V1, V2, V3, V4, V5, V6, V7])) (V0 V1 V2 V3 V4 V5 V6 V7 : zV) (x3 : Int32) (x4 : Int32) (x5 : Int32) (x6 : Int32) (x7 : Int32) (x8 : Int32) (x9 : Int32) (x10 : Int32) (res : Int32 × zV) (h : fX7_work_b98 F k19 V4 V5 x3 x4 x5 x6 x7 x8 x9 x10 = some res) : zR w kX7_work 1 0 0 (some (.int res.1)) (zE zds w [V0, V1, V2, V3, V4, res.2, V6, V7]) 98 [(0, .ref (w.1 + 40)), (2, .ref (w.1 + 39)), (3, .int x3), (4, .int x4), (5, .int x5), (6, .int x6), (7, .int x7), (8, .int x8), (9, .int x9), (10, .int x10)] [] (zE zds w [V0, V1, V2, V3, V4, V5, V6, V7]) := by
  unfold fX7_work_b98 at h
  refine zR_iload dX7_work_98 9 rfl ?_
  refine zR_bipush (x := (33 : Int32)) dX7_work_100 rfl ?_
  by_cases c14 : x10 = (33 : Int32)
  · have h := zif_t h c14
    refine zR_icmp_ne_f (tgt := 140) dX7_work_102 (by decide) c14 ?_
    refine zR_iload dX7_work_105 4 rfl ?_
    by_cases c15 : x5 ≤ 0
    · have h := zif_t h c15
      refine zR_if_le_t (tgt := 140) dX7_work_107 (by decide) c15 ?_
      exact wX7_work_5_b140 F k19 hk19 V0 V1 V2 V3 V4 V5 V6 V7 x3 x4 x5 x6 x7 x8 x9 x10 _ h
    · have h := zif_f h c15
      refine zR_if_le_f (tgt := 140) dX7_work_107 (by decide) c15 ?_
      refine zR_iinc (u := (x5 + (-1))) (lv' := [(0, .ref (w.1 + 40)), (2, .ref (w.1 + 39)), (3, .int x3), (4, .int x4), (5, .int (x5 + (-1))), (6, .int x6), (7, .int x7), (8, .int x8), (9, .int x9), (10, .int x10)]) dX7_work_110 4 rfl (by rw [show Int32.ofInt (-1) = (-1 : Int32) from by decide]) (Nat.le_of_ble_eq_true rfl) rfl ?_
      refine zR_aload_n dX7_work_113 0 rfl ?_
      refine zG_getR dX7_work_114 zf_X7_15 zd_40 rfl rfl ?_
      refine zR_iload dX7_work_117 4 rfl ?_
      obtain ⟨g16, h⟩ := zchk_some h
      refine zG_iald dX7_work_119 zd_42 rfl rfl g16 ?_
      refine zR_iload dX7_work_120 5 rfl ?_
      refine zR_iload dX7_work_122 6 rfl ?_
      refine zR_iadd dX7_work_124 ?_
      refine zR_imul dX7_work_125 ?_
      obtain ⟨y17, e18, h⟩ := zlet_some h
      refine zR_nmI e18 ?_
      refine zR_istore (lv' := [(0, .ref (w.1 + 40)), (2, .ref (w.1 + 39)), (3, .int x3), (4, .int x4), (5, .int (x5 + (-1))), (6, .int x6), (7, .int y17), (8, .int x8), (9, .int x9), (10, .int x10)]) dX7_work_126 (Nat.le_of_ble_eq_true rfl) rfl ?_
      refine zR_aload_n dX7_work_128 0 rfl ?_
      refine zG_getR dX7_work_129 zf_X7_9 zd_40 rfl rfl ?_
      refine zR_iload dX7_work_132 4 rfl ?_
      obtain ⟨g19, h⟩ := zchk_some h
      refine zG_iald dX7_work_134 zd_41 rfl rfl g19 ?_
      obtain ⟨y20, e21, h⟩ := zlet_some h
      refine zR_nmI e21 ?_
      refine zR_istore (lv' := [(0, .ref (w.1 + 40)), (2, .ref (w.1 + 39)), (3, .int x3), (4, .int x4), (5, .int (x5 + (-1))), (6, .int y20), (7, .int y17), (8, .int x8), (9, .int x9), (10, .int x10)]) dX7_work_135 (Nat.le_of_ble_eq_true rfl) rfl ?_
      refine zR_goto (tgt := 257) dX7_work_137 (by decide) ?_
      refine zR_sub (lv' := [(0, .ref (w.1 + 40)), (2, .ref (w.1 + 39)), (3, .int x3), (4, .int x4), (5, .int (x5 + (-1))), (6, .int y20), (7, .int y17), (8, .int x8), (9, .int x9)]) [0, 1, 2, 3, 4, 5, 6, 7, 8] rfl ?_
      exact wX7_work_5_b257 F k19 hk19 V0 V1 V2 V3 V4 V5 V6 V7 x3 x4 (x5 + (-1)) y20 y17 x8 x9 _ h
  · have h := zif_f h c14
    refine zR_icmp_ne_t (tgt := 140) dX7_work_102 (by decide) c14 ?_
    exact wX7_work_5_b140 F k19 hk19 V0 V1 V2 V3 V4 V5 V6 V7 x3 x4 x5 x6 x7 x8 x9 x10 _ h
set_option maxRecDepth 100000 in
set_option maxHeartbeats 4000000 in
theorem wX7_work_5_l19 {w : zW} (F : Nat) : ∀ (n : Nat) (V0 V1 V2 V3 V4 V5 V6 V7 : zV) (x3 : Int32) (x4 : Int32) (x5 : Int32) (x6 : Int32) (x7 : Int32) (x8 : Int32) (x9 : Int32) (res : Int32 × zV), fX7_work_l19 F n V4 V5 x3 x4 x5 x6 x7 x8 x9 = some res → zR w kX7_work 1 0 0 (some (.int res.1)) (zE zds w [V0, V1, V2, V3, V4, res.2, V6, V7]) 19 [(0, .ref (w.1 + 40)), (2, .ref (w.1 + 39)), (3, .int x3), (4, .int x4), (5, .int x5), (6, .int x6), (7, .int x7), (8, .int x8), (9, .int x9)] [] (zE zds w [V0, V1, V2, V3, V4, V5, V6, V7]) := by
  intro n
  induction n with
  | zero =>
    intro V0 V1 V2 V3 V4 V5 V6 V7 x3 x4 x5 x6 x7 x8 x9 res h
    simp [fX7_work_l19] at h
  | succ n ih =>
    intro V0 V1 V2 V3 V4 V5 V6 V7 x3 x4 x5 x6 x7 x8 x9 res h
    rw [fX7_work_l19] at h
    refine zR_iload dX7_work_19 8 rfl ?_
    refine zR_aload_n dX7_work_21 0 rfl ?_
    refine zG_getR dX7_work_22 zf_X7_22 zd_40 rfl rfl ?_
    obtain ⟨q22, hq23, h⟩ := zbd_some h
    refine zR_cV (rest := [.int x9]) (st1 := [.int q22, .int x9]) dX7_work_25 (mX6_size F V0 V1 V2 V3 V4 V5 V6 V7 _ hq23) zc_X7_32 rfl (zE_at zd_28) ⟨_, _, rfl⟩ rfl (Nat.le_of_ble_eq_true rfl) (Nat.le_of_ble_eq_true rfl) rfl ?_
    by_cases c24 : q22 ≤ x9
    · have h := zif_t h c24
      refine zR_icmp_ge_t (tgt := 263) dX7_work_28 (by decide) c24 ?_
      refine zR_iload dX7_work_263 5 rfl ?_
      refine zR_iload dX7_work_265 6 rfl ?_
      refine zR_iadd dX7_work_267 ?_
      have h := Option.some.inj h
      subst h
      exact zR_iret (x := (x6 + x7)) dX7_work_268 rfl rfl
    · have h := zif_f h c24
      refine zR_icmp_ge_f (tgt := 263) dX7_work_28 (by decide) c24 ?_
      refine zR_aload_n dX7_work_31 0 rfl ?_
      refine zR_iload dX7_work_32 8 rfl ?_
      obtain ⟨V5_25, e26, h⟩ := zlet_some h
      refine zG_putI zds_ok dX7_work_34 zf_X7_18 zt_X7_3 zd_40 rfl rfl e26 rfl ?_
      refine zR_aload_n dX7_work_37 0 rfl ?_
      refine zG_getR dX7_work_38 zf_X7_22 zd_40 rfl rfl ?_
      refine zR_iload dX7_work_41 8 rfl ?_
      obtain ⟨q27, hq28, h⟩ := zbd_some h
      refine zR_cV (rest := []) (st1 := [.int q27]) dX7_work_43 (mX6_kindAt F V0 V1 V2 V3 V4 V5_25 V6 V7 x9 _ hq28) zc_X7_38 rfl (zE_at zd_28) ⟨_, _, rfl⟩ rfl (Nat.le_of_ble_eq_true rfl) (Nat.le_of_ble_eq_true rfl) rfl ?_
      refine zR_istore (lv' := [(0, .ref (w.1 + 40)), (2, .ref (w.1 + 39)), (3, .int x3), (4, .int x4), (5, .int x5), (6, .int x6), (7, .int x7), (8, .int x8), (9, .int x9), (10, .int q27)]) dX7_work_46 (Nat.le_of_ble_eq_true rfl) rfl ?_
      refine zR_iload dX7_work_48 9 rfl ?_
      refine zR_bipush (x := (32 : Int32)) dX7_work_50 rfl ?_
      by_cases c29 : q27 = (32 : Int32)
      · have h := zif_t h c29
        refine zR_icmp_ne_f (tgt := 98) dX7_work_52 (by decide) c29 ?_
        refine zR_iload dX7_work_55 4 rfl ?_
        refine zR_aload_n dX7_work_57 0 rfl ?_
        refine zG_getR dX7_work_58 zf_X7_9 zd_40 rfl rfl ?_
        refine zG_alen (u := (6 : Int32)) dX7_work_61 zd_41 (Nat.le_of_ble_eq_true rfl) rfl rfl rfl ?_
        by_cases c30 : (6 : Int32) ≤ x5
        · have h := zif_t h c30
          refine zR_icmp_ge_t (tgt := 98) dX7_work_62 (by decide) c30 ?_
          exact wX7_work_5_b98 F (fX7_work_l19 F n) ih V0 V1 V2 V3 V4 V5_25 V6 V7 x3 x4 x5 x6 x7 x8 x9 q27 _ h
        · have h := zif_f h c30
          refine zR_icmp_ge_f (tgt := 98) dX7_work_62 (by decide) c30 ?_
          refine zR_aload_n dX7_work_65 0 rfl ?_
          refine zG_getR dX7_work_66 zf_X7_9 zd_40 rfl rfl ?_
          refine zR_iload dX7_work_69 4 rfl ?_
          refine zR_iload dX7_work_71 5 rfl ?_
          obtain ⟨g31, h⟩ := zchk_some h
          obtain ⟨V5_32, e33, h⟩ := zlet_some h
          refine zG_iast zds_ok dX7_work_73 zd_41 rfl rfl g31 e33 rfl ?_
          refine zR_aload_n dX7_work_74 0 rfl ?_
          refine zG_getR dX7_work_75 zf_X7_15 zd_40 rfl rfl ?_
          refine zR_iload dX7_work_78 4 rfl ?_
          refine zR_iload dX7_work_80 6 rfl ?_
          obtain ⟨g34, h⟩ := zchk_some h
          obtain ⟨V5_35, e36, h⟩ := zlet_some h
          refine zG_iast zds_ok dX7_work_82 zd_42 rfl rfl g34 e36 rfl ?_
          refine zR_iinc (u := (x5 + 1)) (lv' := [(0, .ref (w.1 + 40)), (2, .ref (w.1 + 39)), (3, .int x3), (4, .int x4), (5, .int (x5 + 1)), (6, .int x6), (7, .int x7), (8, .int x8), (9, .int x9), (10, .int q27)]) dX7_work_83 4 rfl rfl (Nat.le_of_ble_eq_true rfl) rfl ?_
          refine zR_iconst (x := (0 : Int32)) dX7_work_86 rfl ?_
          refine zR_istore (lv' := [(0, .ref (w.1 + 40)), (2, .ref (w.1 + 39)), (3, .int x3), (4, .int x4), (5, .int (x5 + 1)), (6, .int (0 : Int32)), (7, .int x7), (8, .int x8), (9, .int x9), (10, .int q27)]) dX7_work_87 (Nat.le_of_ble_eq_true rfl) rfl ?_
          refine zR_iconst (x := (1 : Int32)) dX7_work_89 rfl ?_
          refine zR_istore (lv' := [(0, .ref (w.1 + 40)), (2, .ref (w.1 + 39)), (3, .int x3), (4, .int x4), (5, .int (x5 + 1)), (6, .int (0 : Int32)), (7, .int (1 : Int32)), (8, .int x8), (9, .int x9), (10, .int q27)]) dX7_work_90 (Nat.le_of_ble_eq_true rfl) rfl ?_
          refine zR_iconst (x := (1 : Int32)) dX7_work_92 rfl ?_
          refine zR_istore (lv' := [(0, .ref (w.1 + 40)), (2, .ref (w.1 + 39)), (3, .int x3), (4, .int x4), (5, .int (x5 + 1)), (6, .int (0 : Int32)), (7, .int (1 : Int32)), (8, .int (1 : Int32)), (9, .int x9), (10, .int q27)]) dX7_work_93 (Nat.le_of_ble_eq_true rfl) rfl ?_
          refine zR_goto (tgt := 257) dX7_work_95 (by decide) ?_
          refine zR_sub (lv' := [(0, .ref (w.1 + 40)), (2, .ref (w.1 + 39)), (3, .int x3), (4, .int x4), (5, .int (x5 + 1)), (6, .int (0 : Int32)), (7, .int (1 : Int32)), (8, .int (1 : Int32)), (9, .int x9)]) [0, 1, 2, 3, 4, 5, 6, 7, 8] rfl ?_
          exact wX7_work_5_b257 F (fX7_work_l19 F n) ih V0 V1 V2 V3 V4 V5_35 V6 V7 x3 x4 (x5 + 1) (0 : Int32) (1 : Int32) (1 : Int32) x9 _ h
      · have h := zif_f h c29
        refine zR_icmp_ne_t (tgt := 98) dX7_work_52 (by decide) c29 ?_
        exact wX7_work_5_b98 F (fX7_work_l19 F n) ih V0 V1 V2 V3 V4 V5_25 V6 V7 x3 x4 x5 x6 x7 x8 x9 q27 _ h
set_option maxRecDepth 100000 in
set_option maxHeartbeats 4000000 in
theorem mX7_work_5 {w : zW} (F : Nat) (V0 V1 V2 V3 V4 V5 V6 V7 : zV) (x1 : Int32) (x3 : Int32) (x4 : Int32) (res : Int32 × zV) (h : fX7_work F V4 V5 x1 x3 x4 = some res) : zMet w kX7_work 1 0 0 [.ref (w.1 + 40), .int x1, .ref (w.1 + 39), .int x3, .int x4] (zE zds w [V0, V1, V2, V3, V4, V5, V6, V7]) (some (.int res.1)) (zE zds w [V0, V1, V2, V3, V4, res.2, V6, V7]) := by
  refine zMet_of (by decide) (Nat.le_of_ble_eq_true rfl) (Nat.le_refl 0) fun _ => ?_
  show zR w kX7_work 1 0 0 (some (.int res.1)) (zE zds w [V0, V1, V2, V3, V4, res.2, V6, V7]) 0 [(0, .ref (w.1 + 40)), (1, .int x1), (2, .ref (w.1 + 39)), (3, .int x3), (4, .int x4)] [] (zE zds w [V0, V1, V2, V3, V4, V5, V6, V7])
  unfold fX7_work at h
  refine zR_iconst (x := (0 : Int32)) dX7_work_0 rfl ?_
  refine zR_istore (lv' := [(0, .ref (w.1 + 40)), (1, .int x1), (2, .ref (w.1 + 39)), (3, .int x3), (4, .int x4), (5, .int (0 : Int32))]) dX7_work_1 (Nat.le_of_ble_eq_true rfl) rfl ?_
  refine zR_iconst (x := (0 : Int32)) dX7_work_3 rfl ?_
  refine zR_istore (lv' := [(0, .ref (w.1 + 40)), (1, .int x1), (2, .ref (w.1 + 39)), (3, .int x3), (4, .int x4), (5, .int (0 : Int32)), (6, .int (0 : Int32))]) dX7_work_4 (Nat.le_of_ble_eq_true rfl) rfl ?_
  refine zR_iconst (x := (1 : Int32)) dX7_work_6 rfl ?_
  refine zR_istore (lv' := [(0, .ref (w.1 + 40)), (1, .int x1), (2, .ref (w.1 + 39)), (3, .int x3), (4, .int x4), (5, .int (0 : Int32)), (6, .int (0 : Int32)), (7, .int (1 : Int32))]) dX7_work_7 (Nat.le_of_ble_eq_true rfl) rfl ?_
  refine zR_iconst (x := (1 : Int32)) dX7_work_9 rfl ?_
  refine zR_istore (lv' := [(0, .ref (w.1 + 40)), (1, .int x1), (2, .ref (w.1 + 39)), (3, .int x3), (4, .int x4), (5, .int (0 : Int32)), (6, .int (0 : Int32)), (7, .int (1 : Int32)), (8, .int (1 : Int32))]) dX7_work_10 (Nat.le_of_ble_eq_true rfl) rfl ?_
  refine zR_iconst (x := (0 : Int32)) dX7_work_12 rfl ?_
  refine zR_iload_n dX7_work_13 1 rfl ?_
  refine zR_mmax dX7_work_14 zmw_X7_26 (Nat.le_of_ble_eq_true rfl) (Nat.le_of_ble_eq_true rfl) ?_
  obtain ⟨y37, e38, h⟩ := zlet_some h
  refine zR_nmI e38 ?_
  refine zR_istore (lv' := [(0, .ref (w.1 + 40)), (1, .int x1), (2, .ref (w.1 + 39)), (3, .int x3), (4, .int x4), (5, .int (0 : Int32)), (6, .int (0 : Int32)), (7, .int (1 : Int32)), (8, .int (1 : Int32)), (9, .int y37)]) dX7_work_17 (Nat.le_of_ble_eq_true rfl) rfl ?_
  refine zR_sub (lv' := [(0, .ref (w.1 + 40)), (2, .ref (w.1 + 39)), (3, .int x3), (4, .int x4), (5, .int (0 : Int32)), (6, .int (0 : Int32)), (7, .int (1 : Int32)), (8, .int (1 : Int32)), (9, .int y37)]) [0, 2, 3, 4, 5, 6, 7, 8, 9] rfl ?_
  exact wX7_work_5_l19 F F V0 V1 V2 V3 V4 V5 V6 V7 x3 x4 (0 : Int32) (0 : Int32) (1 : Int32) (1 : Int32) y37 _ h
set_option maxRecDepth 100000 in
set_option maxHeartbeats 4000000 in
theorem mX1_work_5 {w : zW} (F : Nat) (V0 V1 V2 V3 V4 V5 V6 V7 : zV) (x1 : Int32) (x2 : Int32) (res : Int32 × zV) (h : fX1_work F V4 V5 x1 x2 = some res) : zMet w kX1_work 2 0 0 [.ref (w.1 + 38), .int x1, .int x2] (zE zds w [V0, V1, V2, V3, V4, V5, V6, V7]) (some (.int res.1)) (zE zds w [V0, V1, V2, V3, V4, res.2, V6, V7]) := by
  refine zMet_of (by decide) (Nat.le_of_ble_eq_true rfl) (Nat.le_refl 0) fun _ => ?_
  show zR w kX1_work 2 0 0 (some (.int res.1)) (zE zds w [V0, V1, V2, V3, V4, res.2, V6, V7]) 0 [(0, .ref (w.1 + 38)), (1, .int x1), (2, .int x2)] [] (zE zds w [V0, V1, V2, V3, V4, V5, V6, V7])
  unfold fX1_work at h
  refine zR_aload_n dX1_work_0 0 rfl ?_
  refine zG_getR dX1_work_1 zf_X1_55 zd_38 rfl rfl ?_
  refine zR_iload_n dX1_work_4 1 rfl ?_
  refine zR_aload_n dX1_work_5 0 rfl ?_
  refine zG_getR dX1_work_6 zf_X1_9 zd_38 rfl rfl ?_
  refine zR_aload_n dX1_work_9 0 rfl ?_
  refine zG_getR dX1_work_10 zf_X1_87 zd_38 rfl rfl ?_
  refine zR_iload_n dX1_work_13 2 rfl ?_
  obtain ⟨q1, hq2, h⟩ := zbd_some h
  refine zR_cV (rest := [.ref (w.1 + 39), .int x1, .ref (w.1 + 40)]) (st1 := [.int q1, .ref (w.1 + 39), .int x1, .ref (w.1 + 40)]) dX1_work_14 (mX4_timeLeftOf_5 F V0 V1 V2 V3 V4 V5 V6 V7 x2 _ hq2) zc_X1_210 rfl (zE_at zd_56) ⟨_, _, rfl⟩ rfl (Nat.le_of_ble_eq_true rfl) (Nat.le_of_ble_eq_true rfl) rfl ?_
  refine zR_aload_n dX1_work_17 0 rfl ?_
  refine zG_getR dX1_work_18 zf_X1_80 zd_38 rfl rfl ?_
  refine zG_getI dX1_work_21 zf_X1_150 zd_52 rfl rfl ?_
  obtain ⟨q3, hq4, h⟩ := zbd_some h
  refine zR_cV (rest := []) (st1 := [.int q3.1]) dX1_work_24 (mX7_work_5 F V0 V1 V2 V3 V4 V5 V6 V7 x1 q1 (zI V5 14 7) _ hq4) zc_X1_213 rfl (zE_at zd_40) ⟨_, _, rfl⟩ rfl (Nat.le_of_ble_eq_true rfl) (Nat.le_of_ble_eq_true rfl) rfl ?_
  have h := Option.some.inj h
  subst h
  exact zR_iret (x := q3.1) dX1_work_27 rfl rfl
set_option maxRecDepth 100000 in
set_option maxHeartbeats 4000000 in
theorem mX1_compares {w : zW} (F : Nat) (S : zS) (x0 : Int32) (x1 : Int32) (x2 : Int32) (res : Int32) (h : fX1_compares F x0 x1 x2 = some res) : zMet w kX1_compares 0 0 0 [.int x0, .int x1, .int x2] S (some (.int res)) S := by
  refine zMet_of (by decide) (Nat.le_of_ble_eq_true rfl) (Nat.le_refl 0) fun _ => ?_
  show zR w kX1_compares 0 0 0 (some (.int res)) S 0 [(0, .int x0), (1, .int x1), (2, .int x2)] [] S
  unfold fX1_compares at h
  refine zR_iload_n dX1_compares_0 1 rfl ?_
  by_cases c1 : x1 = (37 : Int32)
  · have h := zif_t h c1
    refine zR_tabc (tgt := 28) dX1_compares_1 c1 rfl (by decide) ?_
    refine zR_iload_n dX1_compares_28 0 rfl ?_
    refine zR_iload_n dX1_compares_29 2 rfl ?_
    by_cases c2 : x0 = x2
    · have h := zif_t h c2
      refine zR_icmp_ne_f (tgt := 37) dX1_compares_30 (by decide) c2 ?_
      refine zR_iconst (x := (1 : Int32)) dX1_compares_33 rfl ?_
      refine zR_goto (tgt := 38) dX1_compares_34 (by decide) ?_
      have h := Option.some.inj h
      subst h
      exact zR_iret (x := (1 : Int32)) dX1_compares_38 rfl znar1
    · have h := zif_f h c2
      refine zR_icmp_ne_t (tgt := 37) dX1_compares_30 (by decide) c2 ?_
      refine zR_iconst (x := (0 : Int32)) dX1_compares_37 rfl ?_
      have h := Option.some.inj h
      subst h
      exact zR_iret (x := (0 : Int32)) dX1_compares_38 rfl znar0
  · have h := zif_f h c1
    by_cases c3 : x1 = (38 : Int32)
    · have h := zif_t h c3
      refine zR_tabc (tgt := 39) dX1_compares_1 c3 rfl (by decide) ?_
      refine zR_iload_n dX1_compares_39 0 rfl ?_
      refine zR_iload_n dX1_compares_40 2 rfl ?_
      by_cases c4 : x0 = x2
      · have h := zif_t h c4
        refine zR_icmp_eq_t (tgt := 48) dX1_compares_41 (by decide) c4 ?_
        refine zR_iconst (x := (0 : Int32)) dX1_compares_48 rfl ?_
        have h := Option.some.inj h
        subst h
        exact zR_iret (x := (0 : Int32)) dX1_compares_49 rfl znar0
      · have h := zif_f h c4
        refine zR_icmp_eq_f (tgt := 48) dX1_compares_41 (by decide) c4 ?_
        refine zR_iconst (x := (1 : Int32)) dX1_compares_44 rfl ?_
        refine zR_goto (tgt := 49) dX1_compares_45 (by decide) ?_
        have h := Option.some.inj h
        subst h
        exact zR_iret (x := (1 : Int32)) dX1_compares_49 rfl znar1
    · have h := zif_f h c3
      by_cases c5 : x1 = (39 : Int32)
      · have h := zif_t h c5
        refine zR_tabc (tgt := 50) dX1_compares_1 c5 rfl (by decide) ?_
        refine zR_iload_n dX1_compares_50 0 rfl ?_
        refine zR_iload_n dX1_compares_51 2 rfl ?_
        by_cases c6 : x2 ≤ x0
        · have h := zif_t h c6
          refine zR_icmp_ge_t (tgt := 59) dX1_compares_52 (by decide) c6 ?_
          refine zR_iconst (x := (0 : Int32)) dX1_compares_59 rfl ?_
          have h := Option.some.inj h
          subst h
          exact zR_iret (x := (0 : Int32)) dX1_compares_60 rfl znar0
        · have h := zif_f h c6
          refine zR_icmp_ge_f (tgt := 59) dX1_compares_52 (by decide) c6 ?_
          refine zR_iconst (x := (1 : Int32)) dX1_compares_55 rfl ?_
          refine zR_goto (tgt := 60) dX1_compares_56 (by decide) ?_
          have h := Option.some.inj h
          subst h
          exact zR_iret (x := (1 : Int32)) dX1_compares_60 rfl znar1
      · have h := zif_f h c5
        refine zR_tabO (tgt := 61) dX1_compares_1 (by have u37 := zne c1 (n := 37) rfl; have u38 := zne c3 (n := 38) rfl; have u39 := zne c5 (n := 39) rfl; omega) (by decide) ?_
        refine zR_iload_n dX1_compares_61 0 rfl ?_
        refine zR_iload_n dX1_compares_62 2 rfl ?_
        by_cases c7 : x2 < x0
        · have h := zif_t h c7
          refine zR_icmp_gt_t (tgt := 70) dX1_compares_63 (by decide) c7 ?_
          refine zR_iconst (x := (0 : Int32)) dX1_compares_70 rfl ?_
          have h := Option.some.inj h
          subst h
          exact zR_iret (x := (0 : Int32)) dX1_compares_71 rfl znar0
        · have h := zif_f h c7
          refine zR_icmp_gt_f (tgt := 70) dX1_compares_63 (by decide) c7 ?_
          refine zR_iconst (x := (1 : Int32)) dX1_compares_66 rfl ?_
          refine zR_goto (tgt := 71) dX1_compares_67 (by decide) ?_
          have h := Option.some.inj h
          subst h
          exact zR_iret (x := (1 : Int32)) dX1_compares_71 rfl znar1
set_option maxRecDepth 100000 in
set_option maxHeartbeats 4000000 in
theorem wX1_holds_5_b111 {w : zW} (F : Nat) (k12 : zV → zV → Int32 → Int32 → Int32 → Option (Int32 × zV)) (hk12 : ∀ (V0 V1 V2 V3 V4 V5 V6 V7 : zV) (x2 : Int32) (x3 : Int32) (x4 : Int32) (res : Int32 × zV), k12 V4 V5 x2 x3 x4 = some res → zR w kX1_holds 3 0 0 (some (.int res.1)) (zE zds w [V0, V1, V2, V3, V4, res.2, V6, V7]) 12 [(0, .ref (w.1 + 38)), (2, .int x2), (3, .int x3), (4, .int x4)] [] (zE zds w [V0, V1, V2, V3, V4, V5, V6, V7])) (V0 V1 V2 V3 V4 V5 V6 V7 : zV) (x2 : Int32) (x4 : Int32) (s0 : Int32) (res : Int32 × zV) (h : fX1_holds_b111 F k12 V4 V5 x2 x4 s0 = some res) : zR w kX1_holds 3 0 0 (some (.int res.1)) (zE zds w [V0, V1, V2, V3, V4, res.2, V6, V7]) 111 [(0, .ref (w.1 + 38)), (2, .int x2), (4, .int x4)] [.int s0] (zE zds w [V0, V1, V2, V3, V4, V5, V6, V7]) := by
  unfold fX1_holds_b111 at h
  refine zR_istore_n (lv' := [(0, .ref (w.1 + 38)), (2, .int x2), (4, .int x4), (3, .int s0)]) dX1_holds_111 (Nat.le_of_ble_eq_true rfl) rfl ?_
  refine zR_iinc (u := (x4 + 1)) (lv' := [(0, .ref (w.1 + 38)), (2, .int x2), (4, .int (x4 + 1)), (3, .int s0)]) dX1_holds_112 2 rfl rfl (Nat.le_of_ble_eq_true rfl) rfl ?_
  refine zR_goto (tgt := 12) dX1_holds_115 (by decide) ?_
  refine zR_sub (lv' := [(0, .ref (w.1 + 38)), (2, .int x2), (3, .int s0), (4, .int (x4 + 1))]) [0, 1, 3, 2] rfl ?_
  exact hk12 V0 V1 V2 V3 V4 V5 V6 V7 x2 s0 (x4 + 1) _ h
set_option maxRecDepth 100000 in
set_option maxHeartbeats 4000000 in
theorem wX1_holds_5_l12 {w : zW} (F : Nat) : ∀ (n : Nat) (V0 V1 V2 V3 V4 V5 V6 V7 : zV) (x2 : Int32) (x3 : Int32) (x4 : Int32) (res : Int32 × zV), fX1_holds_l12 F n V4 V5 x2 x3 x4 = some res → zR w kX1_holds 3 0 0 (some (.int res.1)) (zE zds w [V0, V1, V2, V3, V4, res.2, V6, V7]) 12 [(0, .ref (w.1 + 38)), (2, .int x2), (3, .int x3), (4, .int x4)] [] (zE zds w [V0, V1, V2, V3, V4, V5, V6, V7]) := by
  intro n
  induction n with
  | zero =>
    intro V0 V1 V2 V3 V4 V5 V6 V7 x2 x3 x4 res h
    simp [fX1_holds_l12] at h
  | succ n ih =>
    intro V0 V1 V2 V3 V4 V5 V6 V7 x2 x3 x4 res h
    rw [fX1_holds_l12] at h
    refine zR_iload dX1_holds_12 3 rfl ?_
    refine zR_sipush (x := (1000 : Int32)) dX1_holds_14 rfl ?_
    by_cases c1 : (1000 : Int32) < x4
    · have h := zif_t h c1
      refine zR_icmp_gt_t (tgt := 118) dX1_holds_17 (by decide) c1 ?_
      refine zR_iconst (x := (1 : Int32)) dX1_holds_118 rfl ?_
      have h := Option.some.inj h
      subst h
      exact zR_iret (x := (1 : Int32)) dX1_holds_119 rfl znar1
    · have h := zif_f h c1
      refine zR_icmp_gt_f (tgt := 118) dX1_holds_17 (by decide) c1 ?_
      refine zR_iload_n dX1_holds_20 2 rfl ?_
      refine zR_iconst (x := (-1 : Int32)) dX1_holds_21 (by decide) ?_
      by_cases c2 : x3 = (-1 : Int32)
      · have h := zif_t h c2
        refine zR_icmp_eq_t (tgt := 118) dX1_holds_22 (by decide) c2 ?_
        refine zR_iconst (x := (1 : Int32)) dX1_holds_118 rfl ?_
        have h := Option.some.inj h
        subst h
        exact zR_iret (x := (1 : Int32)) dX1_holds_119 rfl znar1
      · have h := zif_f h c2
        refine zR_icmp_eq_f (tgt := 118) dX1_holds_22 (by decide) c2 ?_
        refine zR_aload_n dX1_holds_25 0 rfl ?_
        refine zR_iload_n dX1_holds_26 2 rfl ?_
        refine zR_iload_n dX1_holds_27 1 rfl ?_
        obtain ⟨q3, hq4, h⟩ := zbd_some h
        refine zR_cV (rest := []) (st1 := [.int q3.1]) dX1_holds_28 (mX1_work_5 F V0 V1 V2 V3 V4 V5 V6 V7 x3 x2 _ hq4) zc_X1_187 rfl (zE_at zd_38) ⟨_, _, rfl⟩ rfl (Nat.le_of_ble_eq_true rfl) (Nat.le_of_ble_eq_true rfl) rfl ?_
        refine zR_istore (lv' := [(0, .ref (w.1 + 38)), (2, .int x2), (3, .int x3), (4, .int x4), (5, .int q3.1)]) dX1_holds_31 (Nat.le_of_ble_eq_true rfl) rfl ?_
        refine zR_aload_n dX1_holds_33 0 rfl ?_
        refine zG_getR dX1_holds_34 zf_X1_49 zd_38 rfl rfl ?_
        refine zR_aload_n dX1_holds_37 0 rfl ?_
        refine zG_getR dX1_holds_38 zf_X1_55 zd_38 rfl rfl ?_
        refine zG_getI dX1_holds_41 zf_X1_219 zd_40 rfl rfl ?_
        obtain ⟨q5, hq6, h⟩ := zbd_some h
        refine zR_cV (rest := []) (st1 := [.int q5]) dX1_holds_44 (mX6_kindAt F V0 V1 V2 V3 V4 q3.2 V6 V7 (zI q3.2 2 3) _ hq6) zc_X1_181 rfl (zE_at zd_28) ⟨_, _, rfl⟩ rfl (Nat.le_of_ble_eq_true rfl) (Nat.le_of_ble_eq_true rfl) rfl ?_
        refine zR_istore (lv' := [(0, .ref (w.1 + 38)), (2, .int x2), (3, .int x3), (4, .int x4), (5, .int q3.1), (6, .int q5)]) dX1_holds_47 (Nat.le_of_ble_eq_true rfl) rfl ?_
        refine zR_aload_n dX1_holds_49 0 rfl ?_
        refine zR_aload_n dX1_holds_50 0 rfl ?_
        refine zG_getR dX1_holds_51 zf_X1_55 zd_38 rfl rfl ?_
        refine zG_getI dX1_holds_54 zf_X1_219 zd_40 rfl rfl ?_
        refine zR_iconst (x := (1 : Int32)) dX1_holds_57 rfl ?_
        refine zR_iadd dX1_holds_58 ?_
        refine zR_iload_n dX1_holds_59 1 rfl ?_
        obtain ⟨q7, hq8, h⟩ := zbd_some h
        refine zR_cV (rest := []) (st1 := [.int q7.1]) dX1_holds_60 (mX1_work_5 F V0 V1 V2 V3 V4 q3.2 V6 V7 ((zI q3.2 2 3) + (1 : Int32)) x2 _ hq8) zc_X1_187 rfl (zE_at zd_38) ⟨_, _, rfl⟩ rfl (Nat.le_of_ble_eq_true rfl) (Nat.le_of_ble_eq_true rfl) rfl ?_
        refine zR_istore (lv' := [(0, .ref (w.1 + 38)), (2, .int x2), (3, .int x3), (4, .int x4), (5, .int q3.1), (6, .int q5), (7, .int q7.1)]) dX1_holds_63 (Nat.le_of_ble_eq_true rfl) rfl ?_
        refine zR_iload dX1_holds_65 4 rfl ?_
        refine zR_iload dX1_holds_67 5 rfl ?_
        refine zR_iload dX1_holds_69 6 rfl ?_
        obtain ⟨q9, hq10, h⟩ := zbd_some h
        refine zR_cS (rest := []) (st1 := [.int q9]) dX1_holds_71 (mX1_compares F (zE zds w [V0, V1, V2, V3, V4, q7.2, V6, V7]) q3.1 q5 q7.1 _ hq10) zc_X1_222 rfl rfl (Nat.le_of_ble_eq_true rfl) (Nat.le_of_ble_eq_true rfl) rfl ?_
        by_cases c11 : q9 = 0
        · have h := zif_t h c11
          refine zR_if_ne_f (tgt := 79) dX1_holds_74 (by decide) c11 ?_
          refine zR_iconst (x := (0 : Int32)) dX1_holds_77 rfl ?_
          have h := Option.some.inj h
          subst h
          exact zR_iret (x := (0 : Int32)) dX1_holds_78 rfl znar0
        · have h := zif_f h c11
          refine zR_if_ne_t (tgt := 79) dX1_holds_74 (by decide) c11 ?_
          refine zR_aload_n dX1_holds_79 0 rfl ?_
          refine zG_getR dX1_holds_80 zf_X1_49 zd_38 rfl rfl ?_
          refine zR_aload_n dX1_holds_83 0 rfl ?_
          refine zG_getR dX1_holds_84 zf_X1_55 zd_38 rfl rfl ?_
          refine zG_getI dX1_holds_87 zf_X1_219 zd_40 rfl rfl ?_
          obtain ⟨q12, hq13, h⟩ := zbd_some h
          refine zR_cV (rest := []) (st1 := [.int q12]) dX1_holds_90 (mX6_kindAt F V0 V1 V2 V3 V4 q7.2 V6 V7 (zI q7.2 2 3) _ hq13) zc_X1_181 rfl (zE_at zd_28) ⟨_, _, rfl⟩ rfl (Nat.le_of_ble_eq_true rfl) (Nat.le_of_ble_eq_true rfl) rfl ?_
          refine zR_bipush (x := (15 : Int32)) dX1_holds_93 rfl ?_
          by_cases c14 : q12 = (15 : Int32)
          · have h := zif_t h c14
            refine zR_icmp_ne_f (tgt := 110) dX1_holds_95 (by decide) c14 ?_
            refine zR_aload_n dX1_holds_98 0 rfl ?_
            refine zG_getR dX1_holds_99 zf_X1_55 zd_38 rfl rfl ?_
            refine zG_getI dX1_holds_102 zf_X1_219 zd_40 rfl rfl ?_
            refine zR_iconst (x := (1 : Int32)) dX1_holds_105 rfl ?_
            refine zR_iadd dX1_holds_106 ?_
            refine zR_goto (tgt := 111) dX1_holds_107 (by decide) ?_
            refine zR_sub (lv' := [(0, .ref (w.1 + 38)), (2, .int x2), (4, .int x4)]) [0, 1, 3] rfl ?_
            exact wX1_holds_5_b111 F (fX1_holds_l12 F n) ih V0 V1 V2 V3 V4 q7.2 V6 V7 x2 x4 ((zI q7.2 2 3) + (1 : Int32)) _ h
          · have h := zif_f h c14
            refine zR_icmp_ne_t (tgt := 110) dX1_holds_95 (by decide) c14 ?_
            refine zR_iconst (x := (-1 : Int32)) dX1_holds_110 (by decide) ?_
            refine zR_sub (lv' := [(0, .ref (w.1 + 38)), (2, .int x2), (4, .int x4)]) [0, 1, 3] rfl ?_
            exact wX1_holds_5_b111 F (fX1_holds_l12 F n) ih V0 V1 V2 V3 V4 q7.2 V6 V7 x2 x4 (-1 : Int32) _ h
set_option maxRecDepth 100000 in
set_option maxHeartbeats 4000000 in
theorem mX1_holds_5 {w : zW} (F : Nat) (V0 V1 V2 V3 V4 V5 V6 V7 : zV) (x1 : Int32) (x2 : Int32) (res : Int32 × zV) (h : fX1_holds F V4 V5 x1 x2 = some res) : zMet w kX1_holds 3 0 0 [.ref (w.1 + 38), .int x1, .int x2] (zE zds w [V0, V1, V2, V3, V4, V5, V6, V7]) (some (.int res.1)) (zE zds w [V0, V1, V2, V3, V4, res.2, V6, V7]) := by
  refine zMet_of (by decide) (Nat.le_of_ble_eq_true rfl) (Nat.le_refl 0) fun _ => ?_
  show zR w kX1_holds 3 0 0 (some (.int res.1)) (zE zds w [V0, V1, V2, V3, V4, res.2, V6, V7]) 0 [(0, .ref (w.1 + 38)), (1, .int x1), (2, .int x2)] [] (zE zds w [V0, V1, V2, V3, V4, V5, V6, V7])
  unfold fX1_holds at h
  refine zR_aload_n dX1_holds_0 0 rfl ?_
  refine zG_getR dX1_holds_1 zf_X1_49 zd_38 rfl rfl ?_
  refine zR_iload_n dX1_holds_4 1 rfl ?_
  obtain ⟨q15, hq16, h⟩ := zbd_some h
  refine zR_cV (rest := []) (st1 := [.int q15]) dX1_holds_5 (mX6_condOf F V0 V1 V2 V3 V4 V5 V6 V7 x1 _ hq16) zc_X1_216 rfl (zE_at zd_28) ⟨_, _, rfl⟩ rfl (Nat.le_of_ble_eq_true rfl) (Nat.le_of_ble_eq_true rfl) rfl ?_
  refine zR_istore_n (lv' := [(0, .ref (w.1 + 38)), (1, .int x1), (2, .int x2), (3, .int q15)]) dX1_holds_8 (Nat.le_of_ble_eq_true rfl) rfl ?_
  refine zR_iconst (x := (0 : Int32)) dX1_holds_9 rfl ?_
  refine zR_istore (lv' := [(0, .ref (w.1 + 38)), (1, .int x1), (2, .int x2), (3, .int q15), (4, .int (0 : Int32))]) dX1_holds_10 (Nat.le_of_ble_eq_true rfl) rfl ?_
  refine zR_sub (lv' := [(0, .ref (w.1 + 38)), (2, .int x2), (3, .int q15), (4, .int (0 : Int32))]) [0, 2, 3, 4] rfl ?_
  exact wX1_holds_5_l12 F F V0 V1 V2 V3 V4 V5 V6 V7 x2 q15 (0 : Int32) _ h
set_option maxRecDepth 100000 in
set_option maxHeartbeats 4000000 in
theorem wX6_actsOf_b21 {w : zW} (F : Nat) (V0 V1 V2 V3 V4 V5 V6 V7 : zV) (res : Int32) (h : fX6_actsOf_b21 F V4 = some res) : zR w kX6_actsOf 0 0 0 (some (.int res)) (zE zds w [V0, V1, V2, V3, V4, V5, V6, V7]) 21 [(0, .ref (w.1 + 28))] [] (zE zds w [V0, V1, V2, V3, V4, V5, V6, V7]) := by
  unfold fX6_actsOf_b21 at h
  refine zR_aload_n dX6_actsOf_21 0 rfl ?_
  refine zG_getI dX6_actsOf_22 zf_X6_19 zd_28 rfl rfl ?_
  have h := Option.some.inj h
  subst h
  exact zR_iret (x := (zI V4 13 2)) dX6_actsOf_25 rfl rfl
set_option maxRecDepth 100000 in
set_option maxHeartbeats 4000000 in
theorem mX6_actsOf {w : zW} (F : Nat) (V0 V1 V2 V3 V4 V5 V6 V7 : zV) (x1 : Int32) (res : Int32) (h : fX6_actsOf F V4 x1 = some res) : zMet w kX6_actsOf 0 0 0 [.ref (w.1 + 28), .int x1] (zE zds w [V0, V1, V2, V3, V4, V5, V6, V7]) (some (.int res)) (zE zds w [V0, V1, V2, V3, V4, V5, V6, V7]) := by
  refine zMet_of (by decide) (Nat.le_of_ble_eq_true rfl) (Nat.le_refl 0) fun _ => ?_
  show zR w kX6_actsOf 0 0 0 (some (.int res)) (zE zds w [V0, V1, V2, V3, V4, V5, V6, V7]) 0 [(0, .ref (w.1 + 28)), (1, .int x1)] [] (zE zds w [V0, V1, V2, V3, V4, V5, V6, V7])
  unfold fX6_actsOf at h
  refine zR_iload_n dX6_actsOf_0 1 rfl ?_
  by_cases c1 : x1 < 0
  · have h := zif_t h c1
    refine zR_if_lt_t (tgt := 21) dX6_actsOf_1 (by decide) c1 ?_
    refine zR_sub (lv' := [(0, .ref (w.1 + 28))]) [0] rfl ?_
    exact wX6_actsOf_b21 F V0 V1 V2 V3 V4 V5 V6 V7 _ h
  · have h := zif_f h c1
    refine zR_if_lt_f (tgt := 21) dX6_actsOf_1 (by decide) c1 ?_
    refine zR_iload_n dX6_actsOf_4 1 rfl ?_
    refine zR_aload_n dX6_actsOf_5 0 rfl ?_
    refine zG_getI dX6_actsOf_6 zf_X6_23 zd_28 rfl rfl ?_
    by_cases c2 : (zI V4 13 3) ≤ x1
    · have h := zif_t h c2
      refine zR_icmp_ge_t (tgt := 21) dX6_actsOf_9 (by decide) c2 ?_
      refine zR_sub (lv' := [(0, .ref (w.1 + 28))]) [0] rfl ?_
      exact wX6_actsOf_b21 F V0 V1 V2 V3 V4 V5 V6 V7 _ h
    · have h := zif_f h c2
      refine zR_icmp_ge_f (tgt := 21) dX6_actsOf_9 (by decide) c2 ?_
      refine zR_aload_n dX6_actsOf_12 0 rfl ?_
      refine zG_getR dX6_actsOf_13 zf_X6_35 zd_28 rfl rfl ?_
      refine zR_iload_n dX6_actsOf_16 1 rfl ?_
      obtain ⟨g3, h⟩ := zchk_some h
      refine zG_iald dX6_actsOf_17 zd_34 rfl rfl g3 ?_
      refine zR_goto (tgt := 25) dX6_actsOf_18 (by decide) ?_
      have h := Option.some.inj h
      subst h
      exact zR_iret (x := (zA V4 19 (x1).toNatClampNeg)) dX6_actsOf_25 rfl rfl
set_option maxRecDepth 100000 in
set_option maxHeartbeats 4000000 in
theorem mX1_gain_5 {w : zW} (F : Nat) (V0 V1 V2 V3 V4 V5 V6 V7 : zV) (x1 : Int32) (res : zV) (h : fX1_gain F V5 x1 = some res) : zMet w kX1_gain 1 0 0 [.ref (w.1 + 38), .int x1] (zE zds w [V0, V1, V2, V3, V4, V5, V6, V7]) none (zE zds w [V0, V1, V2, V3, V4, res, V6, V7]) := by
  refine zMet_of (by decide) (Nat.le_of_ble_eq_true rfl) (Nat.le_refl 0) fun _ => ?_
  show zR w kX1_gain 1 0 0 none (zE zds w [V0, V1, V2, V3, V4, res, V6, V7]) 0 [(0, .ref (w.1 + 38)), (1, .int x1)] [] (zE zds w [V0, V1, V2, V3, V4, V5, V6, V7])
  unfold fX1_gain at h
  refine zR_aload_n dX1_gain_0 0 rfl ?_
  refine zG_getI dX1_gain_1 zf_X1_30 zd_38 rfl rfl ?_
  by_cases c1 : (zI V5 0 12) = 0
  · have h := zif_t h c1
    refine zR_if_ne_f (tgt := 22) dX1_gain_4 (by decide) c1 ?_
    refine zR_aload_n dX1_gain_7 0 rfl ?_
    refine zR_lconst (x := (0 : Int64)) dX1_gain_8 rfl ?_
    refine zR_aload_n dX1_gain_9 0 rfl ?_
    refine zG_getL dX1_gain_10 zf_X1_15 zd_38 rfl rfl ?_
    refine zR_iload_n dX1_gain_13 1 rfl ?_
    refine zR_i2l dX1_gain_14 ?_
    refine zR_ladd dX1_gain_15 ?_
    refine zR_mmaxL dX1_gain_16 zmw_X1_204 (Nat.le_of_ble_eq_true rfl) (Nat.le_of_ble_eq_true rfl) ?_
    obtain ⟨V5_2, e3, h⟩ := zlet_some h
    refine zG_putL zds_ok dX1_gain_19 zf_X1_15 zt_X1_8 zd_38 rfl rfl e3 rfl ?_
    have h := Option.some.inj h
    subst h
    exact zR_ret dX1_gain_22 rfl
  · have h := zif_f h c1
    refine zR_if_ne_t (tgt := 22) dX1_gain_4 (by decide) c1 ?_
    have h := Option.some.inj h
    subst h
    exact zR_ret dX1_gain_22 rfl
set_option maxRecDepth 100000 in
set_option maxHeartbeats 4000000 in
theorem mX1_assign_5 {w : zW} (F : Nat) (V0 V1 V2 V3 V4 V5 V6 V7 : zV) (x1 : Int32) (x2 : Int32) (res : zV) (h : fX1_assign F V5 x1 x2 = some res) : zMet w kX1_assign 0 0 0 [.ref (w.1 + 38), .int x1, .int x2] (zE zds w [V0, V1, V2, V3, V4, V5, V6, V7]) none (zE zds w [V0, V1, V2, V3, V4, res, V6, V7]) := by
  refine zMet_of (by decide) (Nat.le_of_ble_eq_true rfl) (Nat.le_refl 0) fun _ => ?_
  show zR w kX1_assign 0 0 0 none (zE zds w [V0, V1, V2, V3, V4, res, V6, V7]) 0 [(0, .ref (w.1 + 38)), (1, .int x1), (2, .int x2)] [] (zE zds w [V0, V1, V2, V3, V4, V5, V6, V7])
  unfold fX1_assign at h
  refine zR_iload_n dX1_assign_0 1 rfl ?_
  by_cases c1 : x1 < 0
  · have h := zif_t h c1
    refine zR_if_lt_t (tgt := 20) dX1_assign_1 (by decide) c1 ?_
    have h := Option.some.inj h
    subst h
    exact zR_ret dX1_assign_20 rfl
  · have h := zif_f h c1
    refine zR_if_lt_f (tgt := 20) dX1_assign_1 (by decide) c1 ?_
    refine zR_iload_n dX1_assign_4 1 rfl ?_
    refine zR_aload_n dX1_assign_5 0 rfl ?_
    refine zG_getR dX1_assign_6 zf_X1_9 zd_38 rfl rfl ?_
    refine zG_alen (u := (16 : Int32)) dX1_assign_9 zd_39 (Nat.le_of_ble_eq_true rfl) rfl rfl rfl ?_
    by_cases c2 : (16 : Int32) ≤ x1
    · have h := zif_t h c2
      refine zR_icmp_ge_t (tgt := 20) dX1_assign_10 (by decide) c2 ?_
      have h := Option.some.inj h
      subst h
      exact zR_ret dX1_assign_20 rfl
    · have h := zif_f h c2
      refine zR_icmp_ge_f (tgt := 20) dX1_assign_10 (by decide) c2 ?_
      refine zR_aload_n dX1_assign_13 0 rfl ?_
      refine zG_getR dX1_assign_14 zf_X1_9 zd_38 rfl rfl ?_
      refine zR_iload_n dX1_assign_17 1 rfl ?_
      refine zR_iload_n dX1_assign_18 2 rfl ?_
      obtain ⟨g3, h⟩ := zchk_some h
      obtain ⟨V5_4, e5, h⟩ := zlet_some h
      refine zG_iast zds_ok dX1_assign_19 zd_39 rfl rfl g3 e5 rfl ?_
      have h := Option.some.inj h
      subst h
      exact zR_ret dX1_assign_20 rfl
set_option maxRecDepth 100000 in
set_option maxHeartbeats 4000000 in
theorem mX4_isOn_5 {w : zW} (F : Nat) (V0 V1 V2 V3 V4 V5 V6 V7 : zV) (x1 : Int32) (res : Int32) (h : fX4_isOn F V5 x1 = some res) : zMet w kX4_isOn 0 0 0 [.ref (w.1 + 56), .int x1] (zE zds w [V0, V1, V2, V3, V4, V5, V6, V7]) (some (.int res)) (zE zds w [V0, V1, V2, V3, V4, V5, V6, V7]) := by
  refine zMet_of (by decide) (Nat.le_of_ble_eq_true rfl) (Nat.le_refl 0) fun _ => ?_
  show zR w kX4_isOn 0 0 0 (some (.int res)) (zE zds w [V0, V1, V2, V3, V4, V5, V6, V7]) 0 [(0, .ref (w.1 + 56)), (1, .int x1)] [] (zE zds w [V0, V1, V2, V3, V4, V5, V6, V7])
  unfold fX4_isOn at h
  refine zR_iload_n dX4_isOn_0 1 rfl ?_
  by_cases c1 : x1 < 0
  · have h := zif_t h c1
    refine zR_if_lt_t (tgt := 26) dX4_isOn_1 (by decide) c1 ?_
    refine zR_iconst (x := (0 : Int32)) dX4_isOn_26 rfl ?_
    have h := Option.some.inj h
    subst h
    exact zR_iret (x := (0 : Int32)) dX4_isOn_27 rfl znar0
  · have h := zif_f h c1
    refine zR_if_lt_f (tgt := 26) dX4_isOn_1 (by decide) c1 ?_
    refine zR_iload_n dX4_isOn_4 1 rfl ?_
    refine zR_aload_n dX4_isOn_5 0 rfl ?_
    refine zG_getR dX4_isOn_6 zf_X4_9 zd_56 rfl rfl ?_
    refine zG_alen (u := (12 : Int32)) dX4_isOn_9 zd_57 (Nat.le_of_ble_eq_true rfl) rfl rfl rfl ?_
    by_cases c2 : (12 : Int32) ≤ x1
    · have h := zif_t h c2
      refine zR_icmp_ge_t (tgt := 26) dX4_isOn_10 (by decide) c2 ?_
      refine zR_iconst (x := (0 : Int32)) dX4_isOn_26 rfl ?_
      have h := Option.some.inj h
      subst h
      exact zR_iret (x := (0 : Int32)) dX4_isOn_27 rfl znar0
    · have h := zif_f h c2
      refine zR_icmp_ge_f (tgt := 26) dX4_isOn_10 (by decide) c2 ?_
      refine zR_aload_n dX4_isOn_13 0 rfl ?_
      refine zG_getR dX4_isOn_14 zf_X4_9 zd_56 rfl rfl ?_
      refine zR_iload_n dX4_isOn_17 1 rfl ?_
      obtain ⟨g3, h⟩ := zchk_some h
      refine zG_zald dX4_isOn_18 zd_57 rfl rfl g3 ?_
      by_cases c4 : (zA V5 19 (x1).toNatClampNeg) = 0
      · have h := zif_t h c4
        refine zR_if_eq_t (tgt := 26) dX4_isOn_19 (by decide) c4 ?_
        refine zR_iconst (x := (0 : Int32)) dX4_isOn_26 rfl ?_
        have h := Option.some.inj h
        subst h
        exact zR_iret (x := (0 : Int32)) dX4_isOn_27 rfl znar0
      · have h := zif_f h c4
        refine zR_if_eq_f (tgt := 26) dX4_isOn_19 (by decide) c4 ?_
        refine zR_iconst (x := (1 : Int32)) dX4_isOn_22 rfl ?_
        refine zR_goto (tgt := 27) dX4_isOn_23 (by decide) ?_
        have h := Option.some.inj h
        subst h
        exact zR_iret (x := (1 : Int32)) dX4_isOn_27 rfl znar1
set_option maxRecDepth 100000 in
set_option maxHeartbeats 4000000 in
theorem wX4_turnOff_5_b56 {w : zW} (F : Nat) (V0 V1 V2 V3 V4 V5 V6 V7 : zV) (s1 : Int32) (s2 : Int32) (res : Int32 × zV) (h : fX4_turnOff_b56 F V4 V5 s1 s2 = some res) : zR w kX4_turnOff 1 0 0 (some (.int res.1)) (zE zds w [V0, V1, V2, V3, V4, res.2, V6, V7]) 56 [] [.int s2, .int s1, .ref (w.1 + 56)] (zE zds w [V0, V1, V2, V3, V4, V5, V6, V7]) := by
  unfold fX4_turnOff_b56 at h
  refine zR_isub dX4_turnOff_56 ?_
  obtain ⟨V5_1, e2, h⟩ := zlet_some h
  refine zG_putI zds_ok dX4_turnOff_57 zf_X4_28 zt_X4_6 zd_56 rfl rfl e2 rfl ?_
  refine zR_iconst (x := (1 : Int32)) dX4_turnOff_60 rfl ?_
  have h := Option.some.inj h
  subst h
  exact zR_iret (x := (1 : Int32)) dX4_turnOff_61 rfl znar1
set_option maxRecDepth 100000 in
set_option maxHeartbeats 4000000 in
theorem mX4_turnOff_5 {w : zW} (F : Nat) (V0 V1 V2 V3 V4 V5 V6 V7 : zV) (x1 : Int32) (res : Int32 × zV) (h : fX4_turnOff F V4 V5 x1 = some res) : zMet w kX4_turnOff 1 0 0 [.ref (w.1 + 56), .int x1] (zE zds w [V0, V1, V2, V3, V4, V5, V6, V7]) (some (.int res.1)) (zE zds w [V0, V1, V2, V3, V4, res.2, V6, V7]) := by
  refine zMet_of (by decide) (Nat.le_of_ble_eq_true rfl) (Nat.le_refl 0) fun _ => ?_
  show zR w kX4_turnOff 1 0 0 (some (.int res.1)) (zE zds w [V0, V1, V2, V3, V4, res.2, V6, V7]) 0 [(0, .ref (w.1 + 56)), (1, .int x1)] [] (zE zds w [V0, V1, V2, V3, V4, V5, V6, V7])
  unfold fX4_turnOff at h
  refine zR_aload_n dX4_turnOff_0 0 rfl ?_
  refine zR_iload_n dX4_turnOff_1 1 rfl ?_
  obtain ⟨q3, hq4, h⟩ := zbd_some h
  refine zR_cV (rest := []) (st1 := [.int q3]) dX4_turnOff_2 (mX4_isOn_5 F V0 V1 V2 V3 V4 V5 V6 V7 x1 _ hq4) zc_X4_48 rfl (zE_at zd_56) ⟨_, _, rfl⟩ rfl (Nat.le_of_ble_eq_true rfl) (Nat.le_of_ble_eq_true rfl) rfl ?_
  by_cases c5 : q3 = 0
  · have h := zif_t h c5
    refine zR_if_ne_f (tgt := 10) dX4_turnOff_5 (by decide) c5 ?_
    refine zR_iconst (x := (0 : Int32)) dX4_turnOff_8 rfl ?_
    have h := Option.some.inj h
    subst h
    exact zR_iret (x := (0 : Int32)) dX4_turnOff_9 rfl znar0
  · have h := zif_f h c5
    refine zR_if_ne_t (tgt := 10) dX4_turnOff_5 (by decide) c5 ?_
    refine zR_aload_n dX4_turnOff_10 0 rfl ?_
    refine zG_getR dX4_turnOff_11 zf_X4_9 zd_56 rfl rfl ?_
    refine zR_iload_n dX4_turnOff_14 1 rfl ?_
    refine zR_iconst (x := (0 : Int32)) dX4_turnOff_15 rfl ?_
    obtain ⟨g6, h⟩ := zchk_some h
    obtain ⟨V5_7, e8, h⟩ := zlet_some h
    refine zG_zast zds_ok dX4_turnOff_16 zd_57 rfl rfl g6 e8 rfl ?_
    refine zR_aload_n dX4_turnOff_17 0 rfl ?_
    refine zG_getR dX4_turnOff_18 zf_X4_15 zd_56 rfl rfl ?_
    refine zR_iload_n dX4_turnOff_21 1 rfl ?_
    refine zR_iconst (x := (0 : Int32)) dX4_turnOff_22 rfl ?_
    obtain ⟨g9, h⟩ := zchk_some h
    obtain ⟨V5_10, e11, h⟩ := zlet_some h
    refine zG_iast zds_ok dX4_turnOff_23 zd_58 rfl rfl g9 e11 rfl ?_
    refine zR_aload_n dX4_turnOff_24 0 rfl ?_
    refine zG_getR dX4_turnOff_25 zf_X4_22 zd_56 rfl rfl ?_
    refine zR_iload_n dX4_turnOff_28 1 rfl ?_
    refine zR_dup2 dX4_turnOff_29 rfl rfl ?_
    obtain ⟨g12, h⟩ := zchk_some h
    refine zG_iald dX4_turnOff_30 zd_60 rfl rfl g12 ?_
    refine zR_iconst (x := (1 : Int32)) dX4_turnOff_31 rfl ?_
    refine zR_iadd dX4_turnOff_32 ?_
    obtain ⟨g13, h⟩ := zchk_some h
    obtain ⟨V5_14, e15, h⟩ := zlet_some h
    refine zG_iast zds_ok dX4_turnOff_33 zd_60 rfl rfl g13 e15 rfl ?_
    refine zR_aload_n dX4_turnOff_34 0 rfl ?_
    refine zR_dup dX4_turnOff_35 rfl ?_
    refine zG_getI dX4_turnOff_36 zf_X4_28 zd_56 rfl rfl ?_
    refine zR_aload_n dX4_turnOff_39 0 rfl ?_
    refine zG_getR dX4_turnOff_40 zf_X4_32 zd_56 rfl rfl ?_
    refine zG_getR dX4_turnOff_43 zf_X4_45 zd_15 rfl rfl ?_
    refine zR_iload_n dX4_turnOff_46 1 rfl ?_
    obtain ⟨g16, h⟩ := zchk_some h
    refine zG_iald dX4_turnOff_47 zd_26 rfl rfl g16 ?_
    by_cases c17 : (zA V4 11 (x1).toNatClampNeg) ≤ 0
    · have h := zif_t h c17
      refine zR_if_le_t (tgt := 55) dX4_turnOff_48 (by decide) c17 ?_
      refine zR_iconst (x := (0 : Int32)) dX4_turnOff_55 rfl ?_
      refine zR_sub (lv' := []) [] rfl ?_
      exact wX4_turnOff_5_b56 F V0 V1 V2 V3 V4 V5_14 V6 V7 (zI V5_14 18 6) (0 : Int32) _ h
    · have h := zif_f h c17
      refine zR_if_le_f (tgt := 55) dX4_turnOff_48 (by decide) c17 ?_
      refine zR_iconst (x := (1 : Int32)) dX4_turnOff_51 rfl ?_
      refine zR_goto (tgt := 56) dX4_turnOff_52 (by decide) ?_
      refine zR_sub (lv' := []) [] rfl ?_
      exact wX4_turnOff_5_b56 F V0 V1 V2 V3 V4 V5_14 V6 V7 (zI V5_14 18 6) (1 : Int32) _ h
set_option maxRecDepth 100000 in
set_option maxHeartbeats 4000000 in
theorem wX0_placeInRow_5_l2 {w : zW} (F : Nat) : ∀ (n : Nat) (V0 V1 V2 V3 V4 V5 V6 V7 : zV) (x1 : Int32) (x2 : Int32) (res : Int32), fX0_placeInRow_l2 F n V5 x1 x2 = some res → zR w kX0_placeInRow 0 0 0 (some (.int res)) (zE zds w [V0, V1, V2, V3, V4, V5, V6, V7]) 2 [(0, .ref (w.1 + 48)), (1, .int x1), (2, .int x2)] [] (zE zds w [V0, V1, V2, V3, V4, V5, V6, V7]) := by
  intro n
  induction n with
  | zero =>
    intro V0 V1 V2 V3 V4 V5 V6 V7 x1 x2 res h
    simp [fX0_placeInRow_l2] at h
  | succ n ih =>
    intro V0 V1 V2 V3 V4 V5 V6 V7 x1 x2 res h
    rw [fX0_placeInRow_l2] at h
    refine zR_iload_n dX0_placeInRow_2 2 rfl ?_
    refine zR_aload_n dX0_placeInRow_3 0 rfl ?_
    refine zG_getI dX0_placeInRow_4 zf_X0_21 zd_48 rfl rfl ?_
    by_cases c1 : (zI V5 10 4) ≤ x2
    · have h := zif_t h c1
      refine zR_icmp_ge_t (tgt := 37) dX0_placeInRow_7 (by decide) c1 ?_
      refine zR_iconst (x := (-1 : Int32)) dX0_placeInRow_37 (by decide) ?_
      have h := Option.some.inj h
      subst h
      exact zR_iret (x := (-1 : Int32)) dX0_placeInRow_38 rfl rfl
    · have h := zif_f h c1
      refine zR_icmp_ge_f (tgt := 37) dX0_placeInRow_7 (by decide) c1 ?_
      refine zR_iload_n dX0_placeInRow_10 2 rfl ?_
      refine zR_aload_n dX0_placeInRow_11 0 rfl ?_
      refine zG_getR dX0_placeInRow_12 zf_X0_18 zd_48 rfl rfl ?_
      refine zG_alen (u := (8 : Int32)) dX0_placeInRow_15 zd_51 (Nat.le_of_ble_eq_true rfl) rfl rfl rfl ?_
      by_cases c2 : (8 : Int32) ≤ x2
      · have h := zif_t h c2
        refine zR_icmp_ge_t (tgt := 37) dX0_placeInRow_16 (by decide) c2 ?_
        refine zR_iconst (x := (-1 : Int32)) dX0_placeInRow_37 (by decide) ?_
        have h := Option.some.inj h
        subst h
        exact zR_iret (x := (-1 : Int32)) dX0_placeInRow_38 rfl rfl
      · have h := zif_f h c2
        refine zR_icmp_ge_f (tgt := 37) dX0_placeInRow_16 (by decide) c2 ?_
        refine zR_aload_n dX0_placeInRow_19 0 rfl ?_
        refine zG_getR dX0_placeInRow_20 zf_X0_18 zd_48 rfl rfl ?_
        refine zR_iload_n dX0_placeInRow_23 2 rfl ?_
        obtain ⟨g3, h⟩ := zchk_some h
        refine zG_iald dX0_placeInRow_24 zd_51 rfl rfl g3 ?_
        refine zR_iload_n dX0_placeInRow_25 1 rfl ?_
        by_cases c4 : (zA V5 13 (x2).toNatClampNeg) = x1
        · have h := zif_t h c4
          refine zR_icmp_ne_f (tgt := 31) dX0_placeInRow_26 (by decide) c4 ?_
          refine zR_iload_n dX0_placeInRow_29 2 rfl ?_
          have h := Option.some.inj h
          subst h
          exact zR_iret (x := x2) dX0_placeInRow_30 rfl rfl
        · have h := zif_f h c4
          refine zR_icmp_ne_t (tgt := 31) dX0_placeInRow_26 (by decide) c4 ?_
          refine zR_iinc (u := (x2 + 1)) (lv' := [(0, .ref (w.1 + 48)), (1, .int x1), (2, .int (x2 + 1))]) dX0_placeInRow_31 2 rfl rfl (Nat.le_of_ble_eq_true rfl) rfl ?_
          refine zR_goto (tgt := 2) dX0_placeInRow_34 (by decide) ?_
          exact ih V0 V1 V2 V3 V4 V5 V6 V7 x1 (x2 + 1) _ h
set_option maxRecDepth 100000 in
set_option maxHeartbeats 4000000 in
theorem mX0_placeInRow_5 {w : zW} (F : Nat) (V0 V1 V2 V3 V4 V5 V6 V7 : zV) (x1 : Int32) (res : Int32) (h : fX0_placeInRow F V5 x1 = some res) : zMet w kX0_placeInRow 0 0 0 [.ref (w.1 + 48), .int x1] (zE zds w [V0, V1, V2, V3, V4, V5, V6, V7]) (some (.int res)) (zE zds w [V0, V1, V2, V3, V4, V5, V6, V7]) := by
  refine zMet_of (by decide) (Nat.le_of_ble_eq_true rfl) (Nat.le_refl 0) fun _ => ?_
  show zR w kX0_placeInRow 0 0 0 (some (.int res)) (zE zds w [V0, V1, V2, V3, V4, V5, V6, V7]) 0 [(0, .ref (w.1 + 48)), (1, .int x1)] [] (zE zds w [V0, V1, V2, V3, V4, V5, V6, V7])
  unfold fX0_placeInRow at h
  refine zR_iconst (x := (0 : Int32)) dX0_placeInRow_0 rfl ?_
  refine zR_istore_n (lv' := [(0, .ref (w.1 + 48)), (1, .int x1), (2, .int (0 : Int32))]) dX0_placeInRow_1 (Nat.le_of_ble_eq_true rfl) rfl ?_
  exact wX0_placeInRow_5_l2 F F V0 V1 V2 V3 V4 V5 V6 V7 x1 (0 : Int32) _ h
set_option maxRecDepth 100000 in
set_option maxHeartbeats 4000000 in
theorem mX0_await_5 {w : zW} (F : Nat) (V0 V1 V2 V3 V4 V5 V6 V7 : zV) (x1 : Int32) (res : zV) (h : fX0_await F V4 V5 x1 = some res) : zMet w kX0_await 1 0 0 [.ref (w.1 + 48), .int x1] (zE zds w [V0, V1, V2, V3, V4, V5, V6, V7]) none (zE zds w [V0, V1, V2, V3, V4, res, V6, V7]) := by
  refine zMet_of (by decide) (Nat.le_of_ble_eq_true rfl) (Nat.le_refl 0) fun _ => ?_
  show zR w kX0_await 1 0 0 none (zE zds w [V0, V1, V2, V3, V4, res, V6, V7]) 0 [(0, .ref (w.1 + 48)), (1, .int x1)] [] (zE zds w [V0, V1, V2, V3, V4, V5, V6, V7])
  unfold fX0_await at h
  refine zR_aload_n dX0_await_0 0 rfl ?_
  refine zG_getR dX0_await_1 zf_X0_25 zd_48 rfl rfl ?_
  refine zR_iconst (x := (1 : Int32)) dX0_await_4 rfl ?_
  refine zR_iload_n dX0_await_5 1 rfl ?_
  obtain ⟨q1, hq2, h⟩ := zbd_some h
  refine zR_cV (rest := []) (st1 := [.int q1]) dX0_await_6 (mX9_has F V0 V1 V2 V3 V4 V5 V6 V7 (1 : Int32) x1 _ hq2) zc_X0_29 rfl (zE_at zd_15) ⟨_, _, rfl⟩ rfl (Nat.le_of_ble_eq_true rfl) (Nat.le_of_ble_eq_true rfl) rfl ?_
  by_cases c3 : q1 = 0
  · have h := zif_t h c3
    refine zR_if_eq_t (tgt := 53) dX0_await_9 (by decide) c3 ?_
    have h := Option.some.inj h
    subst h
    exact zR_ret dX0_await_53 rfl
  · have h := zif_f h c3
    refine zR_if_eq_f (tgt := 53) dX0_await_9 (by decide) c3 ?_
    refine zR_aload_n dX0_await_12 0 rfl ?_
    refine zG_getI dX0_await_13 zf_X0_21 zd_48 rfl rfl ?_
    refine zR_aload_n dX0_await_16 0 rfl ?_
    refine zG_getR dX0_await_17 zf_X0_18 zd_48 rfl rfl ?_
    refine zG_alen (u := (8 : Int32)) dX0_await_20 zd_51 (Nat.le_of_ble_eq_true rfl) rfl rfl rfl ?_
    by_cases c4 : (8 : Int32) ≤ (zI V5 10 4)
    · have h := zif_t h c4
      refine zR_icmp_ge_t (tgt := 53) dX0_await_21 (by decide) c4 ?_
      have h := Option.some.inj h
      subst h
      exact zR_ret dX0_await_53 rfl
    · have h := zif_f h c4
      refine zR_icmp_ge_f (tgt := 53) dX0_await_21 (by decide) c4 ?_
      refine zR_aload_n dX0_await_24 0 rfl ?_
      refine zR_iload_n dX0_await_25 1 rfl ?_
      obtain ⟨q5, hq6, h⟩ := zbd_some h
      refine zR_cV (rest := []) (st1 := [.int q5]) dX0_await_26 (mX0_placeInRow_5 F V0 V1 V2 V3 V4 V5 V6 V7 x1 _ hq6) zc_X0_35 rfl (zE_at zd_48) ⟨_, _, rfl⟩ rfl (Nat.le_of_ble_eq_true rfl) (Nat.le_of_ble_eq_true rfl) rfl ?_
      refine zR_iconst (x := (-1 : Int32)) dX0_await_29 (by decide) ?_
      by_cases c7 : q5 = (-1 : Int32)
      · have h := zif_t h c7
        refine zR_icmp_ne_f (tgt := 53) dX0_await_30 (by decide) c7 ?_
        refine zR_aload_n dX0_await_33 0 rfl ?_
        refine zG_getR dX0_await_34 zf_X0_18 zd_48 rfl rfl ?_
        refine zR_aload_n dX0_await_37 0 rfl ?_
        refine zG_getI dX0_await_38 zf_X0_21 zd_48 rfl rfl ?_
        refine zR_iload_n dX0_await_41 1 rfl ?_
        obtain ⟨g8, h⟩ := zchk_some h
        obtain ⟨V5_9, e10, h⟩ := zlet_some h
        refine zG_iast zds_ok dX0_await_42 zd_51 rfl rfl g8 e10 rfl ?_
        refine zR_aload_n dX0_await_43 0 rfl ?_
        refine zR_dup dX0_await_44 rfl ?_
        refine zG_getI dX0_await_45 zf_X0_21 zd_48 rfl rfl ?_
        refine zR_iconst (x := (1 : Int32)) dX0_await_48 rfl ?_
        refine zR_iadd dX0_await_49 ?_
        obtain ⟨V5_11, e12, h⟩ := zlet_some h
        refine zG_putI zds_ok dX0_await_50 zf_X0_21 zt_X0_4 zd_48 rfl rfl e12 rfl ?_
        have h := Option.some.inj h
        subst h
        exact zR_ret dX0_await_53 rfl
      · have h := zif_f h c7
        refine zR_icmp_ne_t (tgt := 53) dX0_await_30 (by decide) c7 ?_
        have h := Option.some.inj h
        subst h
        exact zR_ret dX0_await_53 rfl
set_option maxRecDepth 100000 in
set_option maxHeartbeats 4000000 in
theorem wX3_dropBall_5_l23 {w : zW} (F : Nat) : ∀ (n : Nat) (V0 V1 V2 V3 V4 V5 V6 V7 : zV) (x1 : Int32) (res : zV), fX3_dropBall_l23 F n V4 V5 x1 = some res → zR w kX3_dropBall 3 0 0 none (zE zds w [V0, V1, V2, V3, V4, res, V6, V7]) 23 [(0, .ref (w.1 + 52)), (1, .int x1)] [] (zE zds w [V0, V1, V2, V3, V4, V5, V6, V7]) := by
  intro n
  induction n with
  | zero =>
    intro V0 V1 V2 V3 V4 V5 V6 V7 x1 res h
    simp [fX3_dropBall_l23] at h
  | succ n ih =>
    intro V0 V1 V2 V3 V4 V5 V6 V7 x1 res h
    rw [fX3_dropBall_l23] at h
    refine zR_iload_n dX3_dropBall_23 1 rfl ?_
    refine zR_aload_n dX3_dropBall_24 0 rfl ?_
    refine zG_getR dX3_dropBall_25 zf_X3_27 zd_52 rfl rfl ?_
    refine zG_getR dX3_dropBall_28 zf_X3_44 zd_15 rfl rfl ?_
    refine zR_iconst (x := (4 : Int32)) dX3_dropBall_31 rfl ?_
    refine zG_iald dX3_dropBall_32 zd_16 rfl rfl (show zix (4 : Int32) 27 from by decide) ?_
    by_cases c1 : (zA V4 1 ((4 : Int32)).toNatClampNeg) < x1
    · have h := zif_t h c1
      refine zR_icmp_gt_t (tgt := 48) dX3_dropBall_33 (by decide) c1 ?_
      have h := Option.some.inj h
      subst h
      exact zR_ret dX3_dropBall_48 rfl
    · have h := zif_f h c1
      refine zR_icmp_gt_f (tgt := 48) dX3_dropBall_33 (by decide) c1 ?_
      refine zR_aload_n dX3_dropBall_36 0 rfl ?_
      refine zR_iload_n dX3_dropBall_37 1 rfl ?_
      refine zR_iconst (x := (0 : Int32)) dX3_dropBall_38 rfl ?_
      obtain ⟨q2, hq3, h⟩ := zbd_some h
      refine zR_cV (rest := []) (st1 := []) dX3_dropBall_39 (mX3_moveAll_5 F V0 V1 V2 V3 V4 V5 V6 V7 x1 (0 : Int32) _ hq3) zc_X3_53 rfl (zE_at zd_52) ⟨_, _, rfl⟩ rfl (Nat.le_of_ble_eq_true rfl) (Nat.le_of_ble_eq_true rfl) rfl ?_
      refine zR_iinc (u := (x1 + 1)) (lv' := [(0, .ref (w.1 + 52)), (1, .int (x1 + 1))]) dX3_dropBall_42 1 rfl rfl (Nat.le_of_ble_eq_true rfl) rfl ?_
      refine zR_goto (tgt := 23) dX3_dropBall_45 (by decide) ?_
      exact ih V0 V1 V2 V3 V4 q2 V6 V7 (x1 + 1) _ h
set_option maxRecDepth 100000 in
set_option maxHeartbeats 4000000 in
theorem mX3_dropBall_5 {w : zW} (F : Nat) (V0 V1 V2 V3 V4 V5 V6 V7 : zV) (res : zV) (h : fX3_dropBall F V4 V5 = some res) : zMet w kX3_dropBall 3 0 0 [.ref (w.1 + 52)] (zE zds w [V0, V1, V2, V3, V4, V5, V6, V7]) none (zE zds w [V0, V1, V2, V3, V4, res, V6, V7]) := by
  refine zMet_of (by decide) (Nat.le_of_ble_eq_true rfl) (Nat.le_refl 0) fun _ => ?_
  show zR w kX3_dropBall 3 0 0 none (zE zds w [V0, V1, V2, V3, V4, res, V6, V7]) 0 [(0, .ref (w.1 + 52))] [] (zE zds w [V0, V1, V2, V3, V4, V5, V6, V7])
  unfold fX3_dropBall at h
  refine zR_aload_n dX3_dropBall_0 0 rfl ?_
  refine zG_getI dX3_dropBall_1 zf_X3_21 zd_52 rfl rfl ?_
  by_cases c4 : (zI V5 14 7) ≤ 0
  · have h := zif_t h c4
    refine zR_if_le_t (tgt := 48) dX3_dropBall_4 (by decide) c4 ?_
    have h := Option.some.inj h
    subst h
    exact zR_ret dX3_dropBall_48 rfl
  · have h := zif_f h c4
    refine zR_if_le_f (tgt := 48) dX3_dropBall_4 (by decide) c4 ?_
    refine zR_aload_n dX3_dropBall_7 0 rfl ?_
    refine zR_dup dX3_dropBall_8 rfl ?_
    refine zG_getI dX3_dropBall_9 zf_X3_21 zd_52 rfl rfl ?_
    refine zR_iconst (x := (1 : Int32)) dX3_dropBall_12 rfl ?_
    refine zR_isub dX3_dropBall_13 ?_
    obtain ⟨V5_5, e6, h⟩ := zlet_some h
    refine zG_putI zds_ok dX3_dropBall_14 zf_X3_21 zt_X3_7 zd_52 rfl rfl e6 rfl ?_
    refine zR_aload_n dX3_dropBall_17 0 rfl ?_
    obtain ⟨q7, hq8, h⟩ := zbd_some h
    refine zR_cV (rest := []) (st1 := []) dX3_dropBall_18 (mX3_turnOver_5 F V0 V1 V2 V3 V4 V5_5 V6 V7 _ hq8) zc_X3_41 rfl (zE_at zd_52) ⟨_, _, rfl⟩ rfl (Nat.le_of_ble_eq_true rfl) (Nat.le_of_ble_eq_true rfl) rfl ?_
    refine zR_iconst (x := (1 : Int32)) dX3_dropBall_21 rfl ?_
    refine zR_istore_n (lv' := [(0, .ref (w.1 + 52)), (1, .int (1 : Int32))]) dX3_dropBall_22 (Nat.le_of_ble_eq_true rfl) rfl ?_
    exact wX3_dropBall_5_l23 F F V0 V1 V2 V3 V4 q7 V6 V7 (1 : Int32) _ h
set_option maxRecDepth 100000 in
set_option maxHeartbeats 4000000 in
theorem wX4_turnOffAllButFirst_5_l2 {w : zW} (F : Nat) : ∀ (n : Nat) (V0 V1 V2 V3 V4 V5 V6 V7 : zV) (x1 : Int32) (res : zV), fX4_turnOffAllButFirst_l2 F n V4 V5 x1 = some res → zR w kX4_turnOffAllButFirst 2 0 0 none (zE zds w [V0, V1, V2, V3, V4, res, V6, V7]) 2 [(0, .ref (w.1 + 56)), (1, .int x1)] [] (zE zds w [V0, V1, V2, V3, V4, V5, V6, V7]) := by
  intro n
  induction n with
  | zero =>
    intro V0 V1 V2 V3 V4 V5 V6 V7 x1 res h
    simp [fX4_turnOffAllButFirst_l2] at h
  | succ n ih =>
    intro V0 V1 V2 V3 V4 V5 V6 V7 x1 res h
    rw [fX4_turnOffAllButFirst_l2] at h
    refine zR_iload_n dX4_turnOffAllButFirst_2 1 rfl ?_
    refine zR_aload_n dX4_turnOffAllButFirst_3 0 rfl ?_
    refine zG_getR dX4_turnOffAllButFirst_4 zf_X4_32 zd_56 rfl rfl ?_
    refine zG_getR dX4_turnOffAllButFirst_7 zf_X4_36 zd_15 rfl rfl ?_
    refine zR_bipush (x := (7 : Int32)) dX4_turnOffAllButFirst_10 rfl ?_
    refine zG_iald dX4_turnOffAllButFirst_12 zd_16 rfl rfl (show zix (7 : Int32) 27 from by decide) ?_
    by_cases c1 : (zA V4 1 ((7 : Int32)).toNatClampNeg) ≤ x1
    · have h := zif_t h c1
      refine zR_icmp_ge_t (tgt := 28) dX4_turnOffAllButFirst_13 (by decide) c1 ?_
      have h := Option.some.inj h
      subst h
      exact zR_ret dX4_turnOffAllButFirst_28 rfl
    · have h := zif_f h c1
      refine zR_icmp_ge_f (tgt := 28) dX4_turnOffAllButFirst_13 (by decide) c1 ?_
      refine zR_aload_n dX4_turnOffAllButFirst_16 0 rfl ?_
      refine zR_iload_n dX4_turnOffAllButFirst_17 1 rfl ?_
      obtain ⟨q2, hq3, h⟩ := zbd_some h
      refine zR_cV (rest := []) (st1 := [.int q2.1]) dX4_turnOffAllButFirst_18 (mX4_turnOff_5 F V0 V1 V2 V3 V4 V5 V6 V7 x1 _ hq3) zc_X4_52 rfl (zE_at zd_56) ⟨_, _, rfl⟩ rfl (Nat.le_of_ble_eq_true rfl) (Nat.le_of_ble_eq_true rfl) rfl ?_
      refine zR_pop dX4_turnOffAllButFirst_21 rfl ?_
      refine zR_iinc (u := (x1 + 1)) (lv' := [(0, .ref (w.1 + 56)), (1, .int (x1 + 1))]) dX4_turnOffAllButFirst_22 1 rfl rfl (Nat.le_of_ble_eq_true rfl) rfl ?_
      refine zR_goto (tgt := 2) dX4_turnOffAllButFirst_25 (by decide) ?_
      exact ih V0 V1 V2 V3 V4 q2.2 V6 V7 (x1 + 1) _ h
set_option maxRecDepth 100000 in
set_option maxHeartbeats 4000000 in
theorem mX4_turnOffAllButFirst_5 {w : zW} (F : Nat) (V0 V1 V2 V3 V4 V5 V6 V7 : zV) (res : zV) (h : fX4_turnOffAllButFirst F V4 V5 = some res) : zMet w kX4_turnOffAllButFirst 2 0 0 [.ref (w.1 + 56)] (zE zds w [V0, V1, V2, V3, V4, V5, V6, V7]) none (zE zds w [V0, V1, V2, V3, V4, res, V6, V7]) := by
  refine zMet_of (by decide) (Nat.le_of_ble_eq_true rfl) (Nat.le_refl 0) fun _ => ?_
  show zR w kX4_turnOffAllButFirst 2 0 0 none (zE zds w [V0, V1, V2, V3, V4, res, V6, V7]) 0 [(0, .ref (w.1 + 56))] [] (zE zds w [V0, V1, V2, V3, V4, V5, V6, V7])
  unfold fX4_turnOffAllButFirst at h
  refine zR_iconst (x := (1 : Int32)) dX4_turnOffAllButFirst_0 rfl ?_
  refine zR_istore_n (lv' := [(0, .ref (w.1 + 56)), (1, .int (1 : Int32))]) dX4_turnOffAllButFirst_1 (Nat.le_of_ble_eq_true rfl) rfl ?_
  exact wX4_turnOffAllButFirst_5_l2 F F V0 V1 V2 V3 V4 V5 V6 V7 (1 : Int32) _ h
set_option maxRecDepth 100000 in
set_option maxHeartbeats 4000000 in
theorem wX1_doActs_5_b294 {w : zW} (F : Nat) (D : Nat) (hD : 4 ≤ D + 1) (rR rA : zV → zV → Int32 → Int32 → Int32 → Option zV) (hR : ∀ (V0 V1 V2 V3 V4 V5 V6 V7 : zV) (x1 x2 x3 : Int32) (res : zV), rR V4 V5 x1 x2 x3 = some res → zMet w kX1_doRules D 0 0 [.ref (w.1 + 38), .int x1, .int x2, .int x3] (zE zds w [V0, V1, V2, V3, V4, V5, V6, V7]) none (zE zds w [V0, V1, V2, V3, V4, res, V6, V7])) (hA : ∀ (V0 V1 V2 V3 V4 V5 V6 V7 : zV) (x1 x2 x3 : Int32) (res : zV), rA V4 V5 x1 x2 x3 = some res → zMet w kX1_doActs D 0 0 [.ref (w.1 + 38), .int x1, .int x2, .int x3] (zE zds w [V0, V1, V2, V3, V4, V5, V6, V7]) none (zE zds w [V0, V1, V2, V3, V4, res, V6, V7])) (k10 : zV → zV → Int32 → Int32 → Int32 → Option (zV)) (hk10 : ∀ (V0 V1 V2 V3 V4 V5 V6 V7 : zV) (x2 : Int32) (x3 : Int32) (x4 : Int32) (res : zV), k10 V4 V5 x2 x3 x4 = some res → zR w kX1_doActs (D + 1) 0 0 none (zE zds w [V0, V1, V2, V3, V4, res, V6, V7]) 10 [(0, .ref (w.1 + 38)), (2, .int x2), (3, .int x3), (4, .int x4)] [] (zE zds w [V0, V1, V2, V3, V4, V5, V6, V7])) (V0 V1 V2 V3 V4 V5 V6 V7 : zV) (x2 : Int32) (x3 : Int32) (x4 : Int32) (res : zV) (h : fX1_doActs_b294 F rR rA k10 V4 V5 x2 x3 x4 = some res) : zR w kX1_doActs (D + 1) 0 0 none (zE zds w [V0, V1, V2, V3, V4, res, V6, V7]) 294 [(0, .ref (w.1 + 38)), (2, .int x2), (3, .int x3), (4, .int x4)] [] (zE zds w [V0, V1, V2, V3, V4, V5, V6, V7]) := by
  unfold fX1_doActs_b294 at h
  refine zR_iinc (u := (x4 + 1)) (lv' := [(0, .ref (w.1 + 38)), (2, .int x2), (3, .int x3), (4, .int (x4 + 1))]) dX1_doActs_294 3 rfl rfl (Nat.le_of_ble_eq_true rfl) rfl ?_
  refine zR_goto (tgt := 10) dX1_doActs_297 (by decide) ?_
  exact hk10 V0 V1 V2 V3 V4 V5 V6 V7 x2 x3 (x4 + 1) _ h
set_option maxRecDepth 100000 in
set_option maxHeartbeats 4000000 in
theorem wX1_doActs_5_b256 {w : zW} (F : Nat) (D : Nat) (hD : 4 ≤ D + 1) (rR rA : zV → zV → Int32 → Int32 → Int32 → Option zV) (hR : ∀ (V0 V1 V2 V3 V4 V5 V6 V7 : zV) (x1 x2 x3 : Int32) (res : zV), rR V4 V5 x1 x2 x3 = some res → zMet w kX1_doRules D 0 0 [.ref (w.1 + 38), .int x1, .int x2, .int x3] (zE zds w [V0, V1, V2, V3, V4, V5, V6, V7]) none (zE zds w [V0, V1, V2, V3, V4, res, V6, V7])) (hA : ∀ (V0 V1 V2 V3 V4 V5 V6 V7 : zV) (x1 x2 x3 : Int32) (res : zV), rA V4 V5 x1 x2 x3 = some res → zMet w kX1_doActs D 0 0 [.ref (w.1 + 38), .int x1, .int x2, .int x3] (zE zds w [V0, V1, V2, V3, V4, V5, V6, V7]) none (zE zds w [V0, V1, V2, V3, V4, res, V6, V7])) (k10 : zV → zV → Int32 → Int32 → Int32 → Option (zV)) (hk10 : ∀ (V0 V1 V2 V3 V4 V5 V6 V7 : zV) (x2 : Int32) (x3 : Int32) (x4 : Int32) (res : zV), k10 V4 V5 x2 x3 x4 = some res → zR w kX1_doActs (D + 1) 0 0 none (zE zds w [V0, V1, V2, V3, V4, res, V6, V7]) 10 [(0, .ref (w.1 + 38)), (2, .int x2), (3, .int x3), (4, .int x4)] [] (zE zds w [V0, V1, V2, V3, V4, V5, V6, V7])) (V0 V1 V2 V3 V4 V5 V6 V7 : zV) (x2 : Int32) (x3 : Int32) (x4 : Int32) (s1 : Int32) (res : zV) (h : fX1_doActs_b256 F rR rA k10 V4 V5 x2 x3 x4 s1 = some res) : zR w kX1_doActs (D + 1) 0 0 none (zE zds w [V0, V1, V2, V3, V4, res, V6, V7]) 256 [(0, .ref (w.1 + 38)), (2, .int x2), (3, .int x3), (4, .int x4)] [.int s1, .ref (w.1 + 38)] (zE zds w [V0, V1, V2, V3, V4, V5, V6, V7]) := by
  unfold fX1_doActs_b256 at h
  obtain ⟨g3, h⟩ := zchk_some h
  obtain ⟨V5_1, e2, h⟩ := zlet_some h
  refine zG_putZ zds_ok dX1_doActs_256 zf_X1_36 zt_X1_14 zd_38 rfl rfl g3 e2 rfl ?_
  refine zR_goto (tgt := 294) dX1_doActs_259 (by decide) ?_
  exact wX1_doActs_5_b294 F D hD rR rA hR hA k10 hk10 V0 V1 V2 V3 V4 V5_1 V6 V7 x2 x3 x4 _ h
set_option maxRecDepth 100000 in
set_option maxHeartbeats 4000000 in
theorem wX1_doActs_5_b251 {w : zW} (F : Nat) (D : Nat) (hD : 4 ≤ D + 1) (rR rA : zV → zV → Int32 → Int32 → Int32 → Option zV) (hR : ∀ (V0 V1 V2 V3 V4 V5 V6 V7 : zV) (x1 x2 x3 : Int32) (res : zV), rR V4 V5 x1 x2 x3 = some res → zMet w kX1_doRules D 0 0 [.ref (w.1 + 38), .int x1, .int x2, .int x3] (zE zds w [V0, V1, V2, V3, V4, V5, V6, V7]) none (zE zds w [V0, V1, V2, V3, V4, res, V6, V7])) (hA : ∀ (V0 V1 V2 V3 V4 V5 V6 V7 : zV) (x1 x2 x3 : Int32) (res : zV), rA V4 V5 x1 x2 x3 = some res → zMet w kX1_doActs D 0 0 [.ref (w.1 + 38), .int x1, .int x2, .int x3] (zE zds w [V0, V1, V2, V3, V4, V5, V6, V7]) none (zE zds w [V0, V1, V2, V3, V4, res, V6, V7])) (k10 : zV → zV → Int32 → Int32 → Int32 → Option (zV)) (hk10 : ∀ (V0 V1 V2 V3 V4 V5 V6 V7 : zV) (x2 : Int32) (x3 : Int32) (x4 : Int32) (res : zV), k10 V4 V5 x2 x3 x4 = some res → zR w kX1_doActs (D + 1) 0 0 none (zE zds w [V0, V1, V2, V3, V4, res, V6, V7]) 10 [(0, .ref (w.1 + 38)), (2, .int x2), (3, .int x3), (4, .int x4)] [] (zE zds w [V0, V1, V2, V3, V4, V5, V6, V7])) (V0 V1 V2 V3 V4 V5 V6 V7 : zV) (x2 : Int32) (x3 : Int32) (x4 : Int32) (res : zV) (h : fX1_doActs_b251 F rR rA k10 V4 V5 x2 x3 x4 = some res) : zR w kX1_doActs (D + 1) 0 0 none (zE zds w [V0, V1, V2, V3, V4, res, V6, V7]) 251 [(0, .ref (w.1 + 38)), (2, .int x2), (3, .int x3), (4, .int x4)] [.ref (w.1 + 38)] (zE zds w [V0, V1, V2, V3, V4, V5, V6, V7]) := by
  unfold fX1_doActs_b251 at h
  refine zR_iconst (x := (1 : Int32)) dX1_doActs_251 rfl ?_
  refine zR_goto (tgt := 256) dX1_doActs_252 (by decide) ?_
  exact wX1_doActs_5_b256 F D hD rR rA hR hA k10 hk10 V0 V1 V2 V3 V4 V5 V6 V7 x2 x3 x4 (1 : Int32) _ h
set_option maxRecDepth 100000 in
set_option maxHeartbeats 4000000 in
theorem wX1_doActs_5_l10 {w : zW} (F : Nat) (D : Nat) (hD : 4 ≤ D + 1) (rR rA : zV → zV → Int32 → Int32 → Int32 → Option zV) (hR : ∀ (V0 V1 V2 V3 V4 V5 V6 V7 : zV) (x1 x2 x3 : Int32) (res : zV), rR V4 V5 x1 x2 x3 = some res → zMet w kX1_doRules D 0 0 [.ref (w.1 + 38), .int x1, .int x2, .int x3] (zE zds w [V0, V1, V2, V3, V4, V5, V6, V7]) none (zE zds w [V0, V1, V2, V3, V4, res, V6, V7])) (hA : ∀ (V0 V1 V2 V3 V4 V5 V6 V7 : zV) (x1 x2 x3 : Int32) (res : zV), rA V4 V5 x1 x2 x3 = some res → zMet w kX1_doActs D 0 0 [.ref (w.1 + 38), .int x1, .int x2, .int x3] (zE zds w [V0, V1, V2, V3, V4, V5, V6, V7]) none (zE zds w [V0, V1, V2, V3, V4, res, V6, V7])) : ∀ (n : Nat) (V0 V1 V2 V3 V4 V5 V6 V7 : zV) (x2 : Int32) (x3 : Int32) (x4 : Int32) (res : zV), fX1_doActs_l10 F rR rA n V4 V5 x2 x3 x4 = some res → zR w kX1_doActs (D + 1) 0 0 none (zE zds w [V0, V1, V2, V3, V4, res, V6, V7]) 10 [(0, .ref (w.1 + 38)), (2, .int x2), (3, .int x3), (4, .int x4)] [] (zE zds w [V0, V1, V2, V3, V4, V5, V6, V7]) := by
  intro n
  induction n with
  | zero =>
    intro V0 V1 V2 V3 V4 V5 V6 V7 x2 x3 x4 res h
    simp [fX1_doActs_l10] at h
  | succ n ih =>
    intro V0 V1 V2 V3 V4 V5 V6 V7 x2 x3 x4 res h
    rw [fX1_doActs_l10] at h
    refine zR_iload dX1_doActs_10 3 rfl ?_
    refine zR_aload_n dX1_doActs_12 0 rfl ?_
    refine zG_getR dX1_doActs_13 zf_X1_49 zd_38 rfl rfl ?_
    obtain ⟨q4, hq5, h⟩ := zbd_some h
    refine zR_cV (rest := [.int x4]) (st1 := [.int q4, .int x4]) dX1_doActs_16 (mX6_size F V0 V1 V2 V3 V4 V5 V6 V7 _ hq5) zc_X1_177 rfl (zE_at zd_28) ⟨_, _, rfl⟩ rfl (Nat.le_of_ble_eq_true rfl) (Nat.le_trans (Nat.le_of_ble_eq_true rfl) hD) rfl ?_
    by_cases c6 : q4 ≤ x4
    · have h := zif_t h c6
      refine zR_icmp_ge_t (tgt := 300) dX1_doActs_19 (by decide) c6 ?_
      have h := Option.some.inj h
      subst h
      exact zR_ret dX1_doActs_300 rfl
    · have h := zif_f h c6
      refine zR_icmp_ge_f (tgt := 300) dX1_doActs_19 (by decide) c6 ?_
      refine zR_aload_n dX1_doActs_22 0 rfl ?_
      refine zG_getR dX1_doActs_23 zf_X1_49 zd_38 rfl rfl ?_
      refine zR_iload dX1_doActs_26 3 rfl ?_
      obtain ⟨q7, hq8, h⟩ := zbd_some h
      refine zR_cV (rest := []) (st1 := [.int q7]) dX1_doActs_28 (mX6_kindAt F V0 V1 V2 V3 V4 V5 V6 V7 x4 _ hq8) zc_X1_181 rfl (zE_at zd_28) ⟨_, _, rfl⟩ rfl (Nat.le_of_ble_eq_true rfl) (Nat.le_trans (Nat.le_of_ble_eq_true rfl) hD) rfl ?_
      refine zR_istore (lv' := [(0, .ref (w.1 + 38)), (2, .int x2), (3, .int x3), (4, .int x4), (5, .int q7)]) dX1_doActs_31 (Nat.le_of_ble_eq_true rfl) rfl ?_
      refine zR_iload dX1_doActs_33 4 rfl ?_
      refine zR_bipush (x := (29 : Int32)) dX1_doActs_35 rfl ?_
      by_cases c9 : q7 = (29 : Int32)
      · have h := zif_t h c9
        refine zR_icmp_ne_f (tgt := 41) dX1_doActs_37 (by decide) c9 ?_
        have h := Option.some.inj h
        subst h
        exact zR_ret dX1_doActs_40 rfl
      · have h := zif_f h c9
        refine zR_icmp_ne_t (tgt := 41) dX1_doActs_37 (by decide) c9 ?_
        refine zR_iload dX1_doActs_41 4 rfl ?_
        refine zR_bipush (x := (16 : Int32)) dX1_doActs_43 rfl ?_
        by_cases c10 : q7 < (16 : Int32)
        · have h := zif_t h c10
          refine zR_icmp_lt_t (tgt := 294) dX1_doActs_45 (by decide) c10 ?_
          refine zR_sub (lv' := [(0, .ref (w.1 + 38)), (2, .int x2), (3, .int x3), (4, .int x4)]) [0, 1, 2, 3] rfl ?_
          exact wX1_doActs_5_b294 F D hD rR rA hR hA (fX1_doActs_l10 F rR rA n) ih V0 V1 V2 V3 V4 V5 V6 V7 x2 x3 x4 _ h
        · have h := zif_f h c10
          refine zR_icmp_lt_f (tgt := 294) dX1_doActs_45 (by decide) c10 ?_
          refine zR_iload dX1_doActs_48 4 rfl ?_
          refine zR_bipush (x := (24 : Int32)) dX1_doActs_50 rfl ?_
          by_cases c11 : q7 ≤ (24 : Int32)
          · have h := zif_t h c11
            refine zR_icmp_le_t (tgt := 58) dX1_doActs_52 (by decide) c11 ?_
            refine zR_aload_n dX1_doActs_58 0 rfl ?_
            refine zG_getI dX1_doActs_59 zf_X1_33 zd_38 rfl rfl ?_
            refine zR_sipush (x := (200 : Int32)) dX1_doActs_62 rfl ?_
            by_cases c12 : (zI V5 0 13) < (200 : Int32)
            · have h := zif_t h c12
              refine zR_icmp_lt_t (tgt := 74) dX1_doActs_65 (by decide) c12 ?_
              refine zR_aload_n dX1_doActs_74 0 rfl ?_
              refine zR_dup dX1_doActs_75 rfl ?_
              refine zG_getI dX1_doActs_76 zf_X1_33 zd_38 rfl rfl ?_
              refine zR_iconst (x := (1 : Int32)) dX1_doActs_79 rfl ?_
              refine zR_iadd dX1_doActs_80 ?_
              obtain ⟨V5_13, e14, h⟩ := zlet_some h
              refine zG_putI zds_ok dX1_doActs_81 zf_X1_33 zt_X1_13 zd_38 rfl rfl e14 rfl ?_
              refine zR_aload_n dX1_doActs_84 0 rfl ?_
              refine zG_getR dX1_doActs_85 zf_X1_49 zd_38 rfl rfl ?_
              refine zR_iload dX1_doActs_88 3 rfl ?_
              refine zR_iconst (x := (1 : Int32)) dX1_doActs_90 rfl ?_
              refine zR_iadd dX1_doActs_91 ?_
              obtain ⟨q15, hq16, h⟩ := zbd_some h
              refine zR_cV (rest := []) (st1 := [.int q15]) dX1_doActs_92 (mX6_numberAt F V0 V1 V2 V3 V4 V5_13 V6 V7 (x4 + (1 : Int32)) _ hq16) zc_X1_184 rfl (zE_at zd_28) ⟨_, _, rfl⟩ rfl (Nat.le_of_ble_eq_true rfl) (Nat.le_trans (Nat.le_of_ble_eq_true rfl) hD) rfl ?_
              refine zR_istore (lv' := [(0, .ref (w.1 + 38)), (2, .int x2), (3, .int x3), (4, .int x4), (5, .int q7), (6, .int q15)]) dX1_doActs_95 (Nat.le_of_ble_eq_true rfl) rfl ?_
              refine zR_iload dX1_doActs_97 4 rfl ?_
              by_cases c17 : q7 = (16 : Int32)
              · have h := zif_t h c17
                refine zR_tabc (tgt := 144) dX1_doActs_99 c17 rfl (by decide) ?_
                refine zR_aload_n dX1_doActs_144 0 rfl ?_
                refine zR_aload_n dX1_doActs_145 0 rfl ?_
                refine zR_iload dX1_doActs_146 3 rfl ?_
                refine zR_iconst (x := (1 : Int32)) dX1_doActs_148 rfl ?_
                refine zR_iadd dX1_doActs_149 ?_
                refine zR_iload_n dX1_doActs_150 1 rfl ?_
                obtain ⟨q18, hq19, h⟩ := zbd_some h
                refine zR_cV (rest := [.ref (w.1 + 38)]) (st1 := [.int q18.1, .ref (w.1 + 38)]) dX1_doActs_151 (mX1_work_5 F V0 V1 V2 V3 V4 V5_13 V6 V7 (x4 + (1 : Int32)) x2 _ hq19) zc_X1_187 rfl (zE_at zd_38) ⟨_, _, rfl⟩ rfl (Nat.le_of_ble_eq_true rfl) (Nat.le_trans (Nat.le_of_ble_eq_true rfl) hD) rfl ?_
                obtain ⟨q20, hq21, h⟩ := zbd_some h
                refine zR_cV (rest := []) (st1 := []) dX1_doActs_154 (mX1_gain_5 F V0 V1 V2 V3 V4 q18.2 V6 V7 q18.1 _ hq21) zc_X1_191 rfl (zE_at zd_38) ⟨_, _, rfl⟩ rfl (Nat.le_of_ble_eq_true rfl) (Nat.le_trans (Nat.le_of_ble_eq_true rfl) hD) rfl ?_
                refine zR_goto (tgt := 294) dX1_doActs_157 (by decide) ?_
                refine zR_sub (lv' := [(0, .ref (w.1 + 38)), (2, .int x2), (3, .int x3), (4, .int x4)]) [0, 1, 2, 3] rfl ?_
                exact wX1_doActs_5_b294 F D hD rR rA hR hA (fX1_doActs_l10 F rR rA n) ih V0 V1 V2 V3 V4 q20 V6 V7 x2 x3 x4 _ h
              · have h := zif_f h c17
                by_cases c22 : q7 = (17 : Int32)
                · have h := zif_t h c22
                  refine zR_tabc (tgt := 160) dX1_doActs_99 c22 rfl (by decide) ?_
                  refine zR_aload_n dX1_doActs_160 0 rfl ?_
                  refine zR_iload dX1_doActs_161 5 rfl ?_
                  refine zR_aload_n dX1_doActs_163 0 rfl ?_
                  refine zR_iload dX1_doActs_164 3 rfl ?_
                  refine zR_iconst (x := (2 : Int32)) dX1_doActs_166 rfl ?_
                  refine zR_iadd dX1_doActs_167 ?_
                  refine zR_iload_n dX1_doActs_168 1 rfl ?_
                  obtain ⟨q23, hq24, h⟩ := zbd_some h
                  refine zR_cV (rest := [.int q15, .ref (w.1 + 38)]) (st1 := [.int q23.1, .int q15, .ref (w.1 + 38)]) dX1_doActs_169 (mX1_work_5 F V0 V1 V2 V3 V4 V5_13 V6 V7 (x4 + (2 : Int32)) x2 _ hq24) zc_X1_187 rfl (zE_at zd_38) ⟨_, _, rfl⟩ rfl (Nat.le_of_ble_eq_true rfl) (Nat.le_trans (Nat.le_of_ble_eq_true rfl) hD) rfl ?_
                  obtain ⟨q25, hq26, h⟩ := zbd_some h
                  refine zR_cV (rest := []) (st1 := []) dX1_doActs_172 (mX1_assign_5 F V0 V1 V2 V3 V4 q23.2 V6 V7 q15 q23.1 _ hq26) zc_X1_194 rfl (zE_at zd_38) ⟨_, _, rfl⟩ rfl (Nat.le_of_ble_eq_true rfl) (Nat.le_trans (Nat.le_of_ble_eq_true rfl) hD) rfl ?_
                  refine zR_goto (tgt := 294) dX1_doActs_175 (by decide) ?_
                  refine zR_sub (lv' := [(0, .ref (w.1 + 38)), (2, .int x2), (3, .int x3), (4, .int x4)]) [0, 1, 2, 3] rfl ?_
                  exact wX1_doActs_5_b294 F D hD rR rA hR hA (fX1_doActs_l10 F rR rA n) ih V0 V1 V2 V3 V4 q25 V6 V7 x2 x3 x4 _ h
                · have h := zif_f h c22
                  by_cases c27 : q7 = (18 : Int32)
                  · have h := zif_t h c27
                    refine zR_tabc (tgt := 178) dX1_doActs_99 c27 rfl (by decide) ?_
                    refine zR_aload_n dX1_doActs_178 0 rfl ?_
                    refine zG_getR dX1_doActs_179 zf_X1_87 zd_38 rfl rfl ?_
                    refine zR_iload dX1_doActs_182 5 rfl ?_
                    obtain ⟨q28, hq29, h⟩ := zbd_some h
                    refine zR_cV (rest := []) (st1 := [.int q28.1]) dX1_doActs_184 (mX4_turnOn_5 F V0 V1 V2 V3 V4 V5_13 V6 V7 q15 _ hq29) zc_X1_106 rfl (zE_at zd_56) ⟨_, _, rfl⟩ rfl (Nat.le_of_ble_eq_true rfl) (Nat.le_trans (Nat.le_of_ble_eq_true rfl) hD) rfl ?_
                    by_cases c30 : q28.1 = 0
                    · have h := zif_t h c30
                      refine zR_if_eq_t (tgt := 294) dX1_doActs_187 (by decide) c30 ?_
                      refine zR_sub (lv' := [(0, .ref (w.1 + 38)), (2, .int x2), (3, .int x3), (4, .int x4)]) [0, 1, 2, 3] rfl ?_
                      exact wX1_doActs_5_b294 F D hD rR rA hR hA (fX1_doActs_l10 F rR rA n) ih V0 V1 V2 V3 V4 q28.2 V6 V7 x2 x3 x4 _ h
                    · have h := zif_f h c30
                      refine zR_if_eq_f (tgt := 294) dX1_doActs_187 (by decide) c30 ?_
                      refine zR_aload_n dX1_doActs_190 0 rfl ?_
                      refine zR_iload dX1_doActs_191 5 rfl ?_
                      refine zR_iconst (x := (-1 : Int32)) dX1_doActs_193 (by decide) ?_
                      refine zR_iload_n dX1_doActs_194 2 rfl ?_
                      refine zR_iconst (x := (1 : Int32)) dX1_doActs_195 rfl ?_
                      refine zR_iadd dX1_doActs_196 ?_
                      obtain ⟨q31, hq32, h⟩ := zbd_some h
                      refine zR_cV (rest := []) (st1 := []) dX1_doActs_197 (hR V0 V1 V2 V3 V4 q28.2 V6 V7 q15 (-1 : Int32) (x3 + (1 : Int32)) _ hq32) zc_X1_110 rfl (zE_at zd_38) ⟨_, _, rfl⟩ rfl (Nat.le_of_ble_eq_true rfl) (Nat.le_refl _) rfl ?_
                      refine zR_goto (tgt := 294) dX1_doActs_200 (by decide) ?_
                      refine zR_sub (lv' := [(0, .ref (w.1 + 38)), (2, .int x2), (3, .int x3), (4, .int x4)]) [0, 1, 2, 3] rfl ?_
                      exact wX1_doActs_5_b294 F D hD rR rA hR hA (fX1_doActs_l10 F rR rA n) ih V0 V1 V2 V3 V4 q31 V6 V7 x2 x3 x4 _ h
                  · have h := zif_f h c27
                    by_cases c33 : q7 = (19 : Int32)
                    · have h := zif_t h c33
                      refine zR_tabc (tgt := 203) dX1_doActs_99 c33 rfl (by decide) ?_
                      refine zR_aload_n dX1_doActs_203 0 rfl ?_
                      refine zG_getR dX1_doActs_204 zf_X1_87 zd_38 rfl rfl ?_
                      refine zR_iload_n dX1_doActs_207 1 rfl ?_
                      obtain ⟨q34, hq35, h⟩ := zbd_some h
                      refine zR_cV (rest := []) (st1 := [.int q34.1]) dX1_doActs_208 (mX4_turnOff_5 F V0 V1 V2 V3 V4 V5_13 V6 V7 x2 _ hq35) zc_X1_141 rfl (zE_at zd_56) ⟨_, _, rfl⟩ rfl (Nat.le_of_ble_eq_true rfl) (Nat.le_trans (Nat.le_of_ble_eq_true rfl) hD) rfl ?_
                      by_cases c36 : q34.1 = 0
                      · have h := zif_t h c36
                        refine zR_if_eq_t (tgt := 294) dX1_doActs_211 (by decide) c36 ?_
                        refine zR_sub (lv' := [(0, .ref (w.1 + 38)), (2, .int x2), (3, .int x3), (4, .int x4)]) [0, 1, 2, 3] rfl ?_
                        exact wX1_doActs_5_b294 F D hD rR rA hR hA (fX1_doActs_l10 F rR rA n) ih V0 V1 V2 V3 V4 q34.2 V6 V7 x2 x3 x4 _ h
                      · have h := zif_f h c36
                        refine zR_if_eq_f (tgt := 294) dX1_doActs_211 (by decide) c36 ?_
                        refine zR_aload_n dX1_doActs_214 0 rfl ?_
                        refine zR_iload_n dX1_doActs_215 1 rfl ?_
                        refine zR_bipush (x := (-2 : Int32)) dX1_doActs_216 (by decide) ?_
                        refine zR_iload_n dX1_doActs_218 2 rfl ?_
                        refine zR_iconst (x := (1 : Int32)) dX1_doActs_219 rfl ?_
                        refine zR_iadd dX1_doActs_220 ?_
                        obtain ⟨q37, hq38, h⟩ := zbd_some h
                        refine zR_cV (rest := []) (st1 := []) dX1_doActs_221 (hR V0 V1 V2 V3 V4 q34.2 V6 V7 x2 (-2 : Int32) (x3 + (1 : Int32)) _ hq38) zc_X1_110 rfl (zE_at zd_38) ⟨_, _, rfl⟩ rfl (Nat.le_of_ble_eq_true rfl) (Nat.le_refl _) rfl ?_
                        refine zR_goto (tgt := 294) dX1_doActs_224 (by decide) ?_
                        refine zR_sub (lv' := [(0, .ref (w.1 + 38)), (2, .int x2), (3, .int x3), (4, .int x4)]) [0, 1, 2, 3] rfl ?_
                        exact wX1_doActs_5_b294 F D hD rR rA hR hA (fX1_doActs_l10 F rR rA n) ih V0 V1 V2 V3 V4 q37 V6 V7 x2 x3 x4 _ h
                    · have h := zif_f h c33
                      by_cases c39 : q7 = (20 : Int32)
                      · have h := zif_t h c39
                        refine zR_tabc (tgt := 227) dX1_doActs_99 c39 rfl (by decide) ?_
                        refine zR_aload_n dX1_doActs_227 0 rfl ?_
                        refine zG_getR dX1_doActs_228 zf_X1_71 zd_38 rfl rfl ?_
                        refine zR_iload dX1_doActs_231 5 rfl ?_
                        obtain ⟨q40, hq41, h⟩ := zbd_some h
                        refine zR_cV (rest := []) (st1 := []) dX1_doActs_233 (mX0_await_5 F V0 V1 V2 V3 V4 V5_13 V6 V7 q15 _ hq41) zc_X1_198 rfl (zE_at zd_48) ⟨_, _, rfl⟩ rfl (Nat.le_of_ble_eq_true rfl) (Nat.le_trans (Nat.le_of_ble_eq_true rfl) hD) rfl ?_
                        refine zR_goto (tgt := 294) dX1_doActs_236 (by decide) ?_
                        refine zR_sub (lv' := [(0, .ref (w.1 + 38)), (2, .int x2), (3, .int x3), (4, .int x4)]) [0, 1, 2, 3] rfl ?_
                        exact wX1_doActs_5_b294 F D hD rR rA hR hA (fX1_doActs_l10 F rR rA n) ih V0 V1 V2 V3 V4 q40 V6 V7 x2 x3 x4 _ h
                      · have h := zif_f h c39
                        by_cases c42 : q7 = (21 : Int32)
                        · have h := zif_t h c42
                          refine zR_tabc (tgt := 239) dX1_doActs_99 c42 rfl (by decide) ?_
                          refine zR_aload_n dX1_doActs_239 0 rfl ?_
                          refine zR_aload_n dX1_doActs_240 0 rfl ?_
                          refine zG_getI dX1_doActs_241 zf_X1_36 zd_38 rfl rfl ?_
                          by_cases c43 : (zI V5_13 0 14) = 0
                          · have h := zif_t h c43
                            refine zR_if_ne_f (tgt := 251) dX1_doActs_244 (by decide) c43 ?_
                            refine zR_iload_n dX1_doActs_247 2 rfl ?_
                            by_cases c44 : x3 = 0
                            · have h := zif_t h c44
                              refine zR_if_ne_f (tgt := 255) dX1_doActs_248 (by decide) c44 ?_
                              refine zR_sub (lv' := [(0, .ref (w.1 + 38)), (2, .int x2), (3, .int x3), (4, .int x4)]) [0, 1, 2, 3] rfl ?_
                              exact wX1_doActs_5_b251 F D hD rR rA hR hA (fX1_doActs_l10 F rR rA n) ih V0 V1 V2 V3 V4 V5_13 V6 V7 x2 x3 x4 _ h
                            · have h := zif_f h c44
                              refine zR_if_ne_t (tgt := 255) dX1_doActs_248 (by decide) c44 ?_
                              refine zR_iconst (x := (0 : Int32)) dX1_doActs_255 rfl ?_
                              refine zR_sub (lv' := [(0, .ref (w.1 + 38)), (2, .int x2), (3, .int x3), (4, .int x4)]) [0, 1, 2, 3] rfl ?_
                              exact wX1_doActs_5_b256 F D hD rR rA hR hA (fX1_doActs_l10 F rR rA n) ih V0 V1 V2 V3 V4 V5_13 V6 V7 x2 x3 x4 (0 : Int32) _ h
                          · have h := zif_f h c43
                            refine zR_if_ne_t (tgt := 251) dX1_doActs_244 (by decide) c43 ?_
                            refine zR_sub (lv' := [(0, .ref (w.1 + 38)), (2, .int x2), (3, .int x3), (4, .int x4)]) [0, 1, 2, 3] rfl ?_
                            exact wX1_doActs_5_b251 F D hD rR rA hR hA (fX1_doActs_l10 F rR rA n) ih V0 V1 V2 V3 V4 V5_13 V6 V7 x2 x3 x4 _ h
                        · have h := zif_f h c42
                          by_cases c45 : q7 = (22 : Int32)
                          · have h := zif_t h c45
                            refine zR_tabc (tgt := 262) dX1_doActs_99 c45 rfl (by decide) ?_
                            refine zR_aload_n dX1_doActs_262 0 rfl ?_
                            refine zG_getR dX1_doActs_263 zf_X1_80 zd_38 rfl rfl ?_
                            obtain ⟨q46, hq47, h⟩ := zbd_some h
                            refine zR_cV (rest := []) (st1 := []) dX1_doActs_266 (mX3_dropBall_5 F V0 V1 V2 V3 V4 V5_13 V6 V7 _ hq47) zc_X1_201 rfl (zE_at zd_52) ⟨_, _, rfl⟩ rfl (Nat.le_of_ble_eq_true rfl) (Nat.le_trans (Nat.le_of_ble_eq_true rfl) hD) rfl ?_
                            refine zR_goto (tgt := 294) dX1_doActs_269 (by decide) ?_
                            refine zR_sub (lv' := [(0, .ref (w.1 + 38)), (2, .int x2), (3, .int x3), (4, .int x4)]) [0, 1, 2, 3] rfl ?_
                            exact wX1_doActs_5_b294 F D hD rR rA hR hA (fX1_doActs_l10 F rR rA n) ih V0 V1 V2 V3 V4 q46 V6 V7 x2 x3 x4 _ h
                          · have h := zif_f h c45
                            by_cases c48 : q7 = (23 : Int32)
                            · have h := zif_t h c48
                              refine zR_tabc (tgt := 272) dX1_doActs_99 c48 rfl (by decide) ?_
                              refine zR_aload_n dX1_doActs_272 0 rfl ?_
                              refine zG_getR dX1_doActs_273 zf_X1_80 zd_38 rfl rfl ?_
                              obtain ⟨q49, hq50, h⟩ := zbd_some h
                              refine zR_cV (rest := []) (st1 := []) dX1_doActs_276 (mX3_takeBall_5 F V0 V1 V2 V3 V4 V5_13 V6 V7 _ hq50) zc_X1_100 rfl (zE_at zd_52) ⟨_, _, rfl⟩ rfl (Nat.le_of_ble_eq_true rfl) (Nat.le_trans (Nat.le_of_ble_eq_true rfl) hD) rfl ?_
                              refine zR_goto (tgt := 294) dX1_doActs_279 (by decide) ?_
                              refine zR_sub (lv' := [(0, .ref (w.1 + 38)), (2, .int x2), (3, .int x3), (4, .int x4)]) [0, 1, 2, 3] rfl ?_
                              exact wX1_doActs_5_b294 F D hD rR rA hR hA (fX1_doActs_l10 F rR rA n) ih V0 V1 V2 V3 V4 q49 V6 V7 x2 x3 x4 _ h
                            · have h := zif_f h c48
                              refine zR_tabO (tgt := 282) dX1_doActs_99 (by have u16 := zne c17 (n := 16) rfl; have u17 := zne c22 (n := 17) rfl; have u18 := zne c27 (n := 18) rfl; have u19 := zne c33 (n := 19) rfl; have u20 := zne c39 (n := 20) rfl; have u21 := zne c42 (n := 21) rfl; have u22 := zne c45 (n := 22) rfl; have u23 := zne c48 (n := 23) rfl; omega) (by decide) ?_
                              refine zR_aload_n dX1_doActs_282 0 rfl ?_
                              refine zR_iconst (x := (1 : Int32)) dX1_doActs_283 rfl ?_
                              obtain ⟨V5_51, e52, h⟩ := zlet_some h
                              refine zG_putZ zds_ok dX1_doActs_284 zf_X1_30 zt_X1_12 zd_38 rfl rfl (Or.inr rfl) e52 rfl ?_
                              refine zR_aload_n dX1_doActs_287 0 rfl ?_
                              refine zG_getR dX1_doActs_288 zf_X1_87 zd_38 rfl rfl ?_
                              obtain ⟨q53, hq54, h⟩ := zbd_some h
                              refine zR_cV (rest := []) (st1 := []) dX1_doActs_291 (mX4_turnOffAllButFirst_5 F V0 V1 V2 V3 V4 V5_51 V6 V7 _ hq54) zc_X1_153 rfl (zE_at zd_56) ⟨_, _, rfl⟩ rfl (Nat.le_of_ble_eq_true rfl) (Nat.le_trans (Nat.le_of_ble_eq_true rfl) hD) rfl ?_
                              refine zR_sub (lv' := [(0, .ref (w.1 + 38)), (2, .int x2), (3, .int x3), (4, .int x4)]) [0, 1, 2, 3] rfl ?_
                              exact wX1_doActs_5_b294 F D hD rR rA hR hA (fX1_doActs_l10 F rR rA n) ih V0 V1 V2 V3 V4 q53 V6 V7 x2 x3 x4 _ h
            · have h := zif_f h c12
              refine zR_icmp_lt_f (tgt := 74) dX1_doActs_65 (by decide) c12 ?_
              refine zR_aload_n dX1_doActs_68 0 rfl ?_
              refine zR_iconst (x := (1 : Int32)) dX1_doActs_69 rfl ?_
              obtain ⟨V5_55, e56, h⟩ := zlet_some h
              refine zG_putZ zds_ok dX1_doActs_70 zf_X1_26 zt_X1_11 zd_38 rfl rfl (Or.inr rfl) e56 rfl ?_
              have h := Option.some.inj h
              subst h
              exact zR_ret dX1_doActs_73 rfl
          · have h := zif_f h c11
            refine zR_icmp_le_f (tgt := 58) dX1_doActs_52 (by decide) c11 ?_
            refine zR_goto (tgt := 294) dX1_doActs_55 (by decide) ?_
            refine zR_sub (lv' := [(0, .ref (w.1 + 38)), (2, .int x2), (3, .int x3), (4, .int x4)]) [0, 1, 2, 3] rfl ?_
            exact wX1_doActs_5_b294 F D hD rR rA hR hA (fX1_doActs_l10 F rR rA n) ih V0 V1 V2 V3 V4 V5 V6 V7 x2 x3 x4 _ h
set_option maxRecDepth 100000 in
set_option maxHeartbeats 4000000 in
theorem mX1_doActs_5_body {w : zW} (F : Nat) (D : Nat) (hD : 4 ≤ D + 1) (rR rA : zV → zV → Int32 → Int32 → Int32 → Option zV) (hR : ∀ (V0 V1 V2 V3 V4 V5 V6 V7 : zV) (x1 x2 x3 : Int32) (res : zV), rR V4 V5 x1 x2 x3 = some res → zMet w kX1_doRules D 0 0 [.ref (w.1 + 38), .int x1, .int x2, .int x3] (zE zds w [V0, V1, V2, V3, V4, V5, V6, V7]) none (zE zds w [V0, V1, V2, V3, V4, res, V6, V7])) (hA : ∀ (V0 V1 V2 V3 V4 V5 V6 V7 : zV) (x1 x2 x3 : Int32) (res : zV), rA V4 V5 x1 x2 x3 = some res → zMet w kX1_doActs D 0 0 [.ref (w.1 + 38), .int x1, .int x2, .int x3] (zE zds w [V0, V1, V2, V3, V4, V5, V6, V7]) none (zE zds w [V0, V1, V2, V3, V4, res, V6, V7])) (V0 V1 V2 V3 V4 V5 V6 V7 : zV) (x1 : Int32) (x2 : Int32) (x3 : Int32) (res : zV) (h : fX1_doActs_body F rR rA V4 V5 x1 x2 x3 = some res) : zMet w kX1_doActs (D + 1) 0 0 [.ref (w.1 + 38), .int x1, .int x2, .int x3] (zE zds w [V0, V1, V2, V3, V4, V5, V6, V7]) none (zE zds w [V0, V1, V2, V3, V4, res, V6, V7]) := by
  refine zMet_of (by decide) (Nat.le_of_ble_eq_true rfl) (Nat.le_refl 0) fun _ => ?_
  show zR w kX1_doActs (D + 1) 0 0 none (zE zds w [V0, V1, V2, V3, V4, res, V6, V7]) 0 [(0, .ref (w.1 + 38)), (1, .int x1), (2, .int x2), (3, .int x3)] [] (zE zds w [V0, V1, V2, V3, V4, V5, V6, V7])
  unfold fX1_doActs_body at h
  refine zR_aload_n dX1_doActs_0 0 rfl ?_
  refine zG_getR dX1_doActs_1 zf_X1_49 zd_38 rfl rfl ?_
  refine zR_iload_n dX1_doActs_4 1 rfl ?_
  obtain ⟨q57, hq58, h⟩ := zbd_some h
  refine zR_cV (rest := []) (st1 := [.int q57]) dX1_doActs_5 (mX6_actsOf F V0 V1 V2 V3 V4 V5 V6 V7 x1 _ hq58) zc_X1_174 rfl (zE_at zd_28) ⟨_, _, rfl⟩ rfl (Nat.le_of_ble_eq_true rfl) (Nat.le_trans (Nat.le_of_ble_eq_true rfl) hD) rfl ?_
  refine zR_istore (lv' := [(0, .ref (w.1 + 38)), (1, .int x1), (2, .int x2), (3, .int x3), (4, .int q57)]) dX1_doActs_8 (Nat.le_of_ble_eq_true rfl) rfl ?_
  refine zR_sub (lv' := [(0, .ref (w.1 + 38)), (2, .int x2), (3, .int x3), (4, .int q57)]) [0, 2, 3, 4] rfl ?_
  exact wX1_doActs_5_l10 F D hD rR rA hR hA F V0 V1 V2 V3 V4 V5 V6 V7 x2 x3 q57 _ h
set_option maxRecDepth 100000 in
set_option maxHeartbeats 4000000 in
theorem wX1_doRules_5_b116 {w : zW} (F : Nat) (D : Nat) (hD : 4 ≤ D + 1) (rR rA : zV → zV → Int32 → Int32 → Int32 → Option zV) (hR : ∀ (V0 V1 V2 V3 V4 V5 V6 V7 : zV) (x1 x2 x3 : Int32) (res : zV), rR V4 V5 x1 x2 x3 = some res → zMet w kX1_doRules D 0 0 [.ref (w.1 + 38), .int x1, .int x2, .int x3] (zE zds w [V0, V1, V2, V3, V4, V5, V6, V7]) none (zE zds w [V0, V1, V2, V3, V4, res, V6, V7])) (hA : ∀ (V0 V1 V2 V3 V4 V5 V6 V7 : zV) (x1 x2 x3 : Int32) (res : zV), rA V4 V5 x1 x2 x3 = some res → zMet w kX1_doActs D 0 0 [.ref (w.1 + 38), .int x1, .int x2, .int x3] (zE zds w [V0, V1, V2, V3, V4, V5, V6, V7]) none (zE zds w [V0, V1, V2, V3, V4, res, V6, V7])) (k27 : zV → zV → Int32 → Int32 → Int32 → Int32 → Int32 → Option (zV)) (hk27 : ∀ (V0 V1 V2 V3 V4 V5 V6 V7 : zV) (x1 : Int32) (x2 : Int32) (x3 : Int32) (x4 : Int32) (x5 : Int32) (res : zV), k27 V4 V5 x1 x2 x3 x4 x5 = some res → zR w kX1_doRules (D + 1) 0 0 none (zE zds w [V0, V1, V2, V3, V4, res, V6, V7]) 27 [(0, .ref (w.1 + 38)), (1, .int x1), (2, .int x2), (3, .int x3), (4, .int x4), (5, .int x5)] [] (zE zds w [V0, V1, V2, V3, V4, V5, V6, V7])) (V0 V1 V2 V3 V4 V5 V6 V7 : zV) (x1 : Int32) (x2 : Int32) (x3 : Int32) (x4 : Int32) (x5 : Int32) (res : zV) (h : fX1_doRules_b116 F rR rA k27 V4 V5 x1 x2 x3 x4 x5 = some res) : zR w kX1_doRules (D + 1) 0 0 none (zE zds w [V0, V1, V2, V3, V4, res, V6, V7]) 116 [(0, .ref (w.1 + 38)), (1, .int x1), (2, .int x2), (3, .int x3), (4, .int x4), (5, .int x5)] [] (zE zds w [V0, V1, V2, V3, V4, V5, V6, V7]) := by
  unfold fX1_doRules_b116 at h
  refine zR_iinc (u := (x5 + 1)) (lv' := [(0, .ref (w.1 + 38)), (1, .int x1), (2, .int x2), (3, .int x3), (4, .int x4), (5, .int (x5 + 1))]) dX1_doRules_116 5 rfl rfl (Nat.le_of_ble_eq_true rfl) rfl ?_
  refine zR_goto (tgt := 27) dX1_doRules_119 (by decide) ?_
  exact hk27 V0 V1 V2 V3 V4 V5 V6 V7 x1 x2 x3 x4 (x5 + 1) _ h
set_option maxRecDepth 100000 in
set_option maxHeartbeats 4000000 in
theorem wX1_doRules_5_b97 {w : zW} (F : Nat) (D : Nat) (hD : 4 ≤ D + 1) (rR rA : zV → zV → Int32 → Int32 → Int32 → Option zV) (hR : ∀ (V0 V1 V2 V3 V4 V5 V6 V7 : zV) (x1 x2 x3 : Int32) (res : zV), rR V4 V5 x1 x2 x3 = some res → zMet w kX1_doRules D 0 0 [.ref (w.1 + 38), .int x1, .int x2, .int x3] (zE zds w [V0, V1, V2, V3, V4, V5, V6, V7]) none (zE zds w [V0, V1, V2, V3, V4, res, V6, V7])) (hA : ∀ (V0 V1 V2 V3 V4 V5 V6 V7 : zV) (x1 x2 x3 : Int32) (res : zV), rA V4 V5 x1 x2 x3 = some res → zMet w kX1_doActs D 0 0 [.ref (w.1 + 38), .int x1, .int x2, .int x3] (zE zds w [V0, V1, V2, V3, V4, V5, V6, V7]) none (zE zds w [V0, V1, V2, V3, V4, res, V6, V7])) (k27 : zV → zV → Int32 → Int32 → Int32 → Int32 → Int32 → Option (zV)) (hk27 : ∀ (V0 V1 V2 V3 V4 V5 V6 V7 : zV) (x1 : Int32) (x2 : Int32) (x3 : Int32) (x4 : Int32) (x5 : Int32) (res : zV), k27 V4 V5 x1 x2 x3 x4 x5 = some res → zR w kX1_doRules (D + 1) 0 0 none (zE zds w [V0, V1, V2, V3, V4, res, V6, V7]) 27 [(0, .ref (w.1 + 38)), (1, .int x1), (2, .int x2), (3, .int x3), (4, .int x4), (5, .int x5)] [] (zE zds w [V0, V1, V2, V3, V4, V5, V6, V7])) (V0 V1 V2 V3 V4 V5 V6 V7 : zV) (x1 : Int32) (x2 : Int32) (x3 : Int32) (x4 : Int32) (x5 : Int32) (s0 : Int32) (res : zV) (h : fX1_doRules_b97 F rR rA k27 V4 V5 x1 x2 x3 x4 x5 s0 = some res) : zR w kX1_doRules (D + 1) 0 0 none (zE zds w [V0, V1, V2, V3, V4, res, V6, V7]) 97 [(0, .ref (w.1 + 38)), (1, .int x1), (2, .int x2), (3, .int x3), (4, .int x4), (5, .int x5)] [.int s0] (zE zds w [V0, V1, V2, V3, V4, V5, V6, V7]) := by
  unfold fX1_doRules_b97 at h
  refine zR_istore (lv' := [(0, .ref (w.1 + 38)), (1, .int x1), (2, .int x2), (3, .int x3), (4, .int x4), (5, .int x5), (6, .int s0)]) dX1_doRules_97 (Nat.le_of_ble_eq_true rfl) rfl ?_
  refine zR_iload dX1_doRules_99 6 rfl ?_
  by_cases c1 : s0 = 0
  · have h := zif_t h c1
    refine zR_if_ne_f (tgt := 115) dX1_doRules_101 (by decide) c1 ?_
    refine zR_iload_n dX1_doRules_104 3 rfl ?_
    by_cases c2 : x3 = 0
    · have h := zif_t h c2
      refine zR_if_ne_f (tgt := 116) dX1_doRules_105 (by decide) c2 ?_
      refine zR_aload_n dX1_doRules_108 0 rfl ?_
      refine zG_getI dX1_doRules_109 zf_X1_36 zd_38 rfl rfl ?_
      by_cases c3 : (zI V5 0 14) = 0
      · have h := zif_t h c3
        refine zR_if_eq_t (tgt := 116) dX1_doRules_112 (by decide) c3 ?_
        refine zR_sub (lv' := [(0, .ref (w.1 + 38)), (1, .int x1), (2, .int x2), (3, .int x3), (4, .int x4), (5, .int x5)]) [0, 1, 2, 3, 4, 5] rfl ?_
        exact wX1_doRules_5_b116 F D hD rR rA hR hA k27 hk27 V0 V1 V2 V3 V4 V5 V6 V7 x1 x2 x3 x4 x5 _ h
      · have h := zif_f h c3
        refine zR_if_eq_f (tgt := 116) dX1_doRules_112 (by decide) c3 ?_
        have h := Option.some.inj h
        subst h
        exact zR_ret dX1_doRules_115 rfl
    · have h := zif_f h c2
      refine zR_if_ne_t (tgt := 116) dX1_doRules_105 (by decide) c2 ?_
      refine zR_sub (lv' := [(0, .ref (w.1 + 38)), (1, .int x1), (2, .int x2), (3, .int x3), (4, .int x4), (5, .int x5)]) [0, 1, 2, 3, 4, 5] rfl ?_
      exact wX1_doRules_5_b116 F D hD rR rA hR hA k27 hk27 V0 V1 V2 V3 V4 V5 V6 V7 x1 x2 x3 x4 x5 _ h
  · have h := zif_f h c1
    refine zR_if_ne_t (tgt := 115) dX1_doRules_101 (by decide) c1 ?_
    have h := Option.some.inj h
    subst h
    exact zR_ret dX1_doRules_115 rfl
set_option maxRecDepth 100000 in
set_option maxHeartbeats 4000000 in
theorem wX1_doRules_5_b96 {w : zW} (F : Nat) (D : Nat) (hD : 4 ≤ D + 1) (rR rA : zV → zV → Int32 → Int32 → Int32 → Option zV) (hR : ∀ (V0 V1 V2 V3 V4 V5 V6 V7 : zV) (x1 x2 x3 : Int32) (res : zV), rR V4 V5 x1 x2 x3 = some res → zMet w kX1_doRules D 0 0 [.ref (w.1 + 38), .int x1, .int x2, .int x3] (zE zds w [V0, V1, V2, V3, V4, V5, V6, V7]) none (zE zds w [V0, V1, V2, V3, V4, res, V6, V7])) (hA : ∀ (V0 V1 V2 V3 V4 V5 V6 V7 : zV) (x1 x2 x3 : Int32) (res : zV), rA V4 V5 x1 x2 x3 = some res → zMet w kX1_doActs D 0 0 [.ref (w.1 + 38), .int x1, .int x2, .int x3] (zE zds w [V0, V1, V2, V3, V4, V5, V6, V7]) none (zE zds w [V0, V1, V2, V3, V4, res, V6, V7])) (k27 : zV → zV → Int32 → Int32 → Int32 → Int32 → Int32 → Option (zV)) (hk27 : ∀ (V0 V1 V2 V3 V4 V5 V6 V7 : zV) (x1 : Int32) (x2 : Int32) (x3 : Int32) (x4 : Int32) (x5 : Int32) (res : zV), k27 V4 V5 x1 x2 x3 x4 x5 = some res → zR w kX1_doRules (D + 1) 0 0 none (zE zds w [V0, V1, V2, V3, V4, res, V6, V7]) 27 [(0, .ref (w.1 + 38)), (1, .int x1), (2, .int x2), (3, .int x3), (4, .int x4), (5, .int x5)] [] (zE zds w [V0, V1, V2, V3, V4, V5, V6, V7])) (V0 V1 V2 V3 V4 V5 V6 V7 : zV) (x1 : Int32) (x2 : Int32) (x3 : Int32) (x4 : Int32) (x5 : Int32) (res : zV) (h : fX1_doRules_b96 F rR rA k27 V4 V5 x1 x2 x3 x4 x5 = some res) : zR w kX1_doRules (D + 1) 0 0 none (zE zds w [V0, V1, V2, V3, V4, res, V6, V7]) 96 [(0, .ref (w.1 + 38)), (1, .int x1), (2, .int x2), (3, .int x3), (4, .int x4), (5, .int x5)] [] (zE zds w [V0, V1, V2, V3, V4, V5, V6, V7]) := by
  unfold fX1_doRules_b96 at h
  refine zR_iconst (x := (0 : Int32)) dX1_doRules_96 rfl ?_
  exact wX1_doRules_5_b97 F D hD rR rA hR hA k27 hk27 V0 V1 V2 V3 V4 V5 V6 V7 x1 x2 x3 x4 x5 (0 : Int32) _ h
set_option maxRecDepth 100000 in
set_option maxHeartbeats 4000000 in
theorem wX1_doRules_5_l27 {w : zW} (F : Nat) (D : Nat) (hD : 4 ≤ D + 1) (rR rA : zV → zV → Int32 → Int32 → Int32 → Option zV) (hR : ∀ (V0 V1 V2 V3 V4 V5 V6 V7 : zV) (x1 x2 x3 : Int32) (res : zV), rR V4 V5 x1 x2 x3 = some res → zMet w kX1_doRules D 0 0 [.ref (w.1 + 38), .int x1, .int x2, .int x3] (zE zds w [V0, V1, V2, V3, V4, V5, V6, V7]) none (zE zds w [V0, V1, V2, V3, V4, res, V6, V7])) (hA : ∀ (V0 V1 V2 V3 V4 V5 V6 V7 : zV) (x1 x2 x3 : Int32) (res : zV), rA V4 V5 x1 x2 x3 = some res → zMet w kX1_doActs D 0 0 [.ref (w.1 + 38), .int x1, .int x2, .int x3] (zE zds w [V0, V1, V2, V3, V4, V5, V6, V7]) none (zE zds w [V0, V1, V2, V3, V4, res, V6, V7])) : ∀ (n : Nat) (V0 V1 V2 V3 V4 V5 V6 V7 : zV) (x1 : Int32) (x2 : Int32) (x3 : Int32) (x4 : Int32) (x5 : Int32) (res : zV), fX1_doRules_l27 F rR rA n V4 V5 x1 x2 x3 x4 x5 = some res → zR w kX1_doRules (D + 1) 0 0 none (zE zds w [V0, V1, V2, V3, V4, res, V6, V7]) 27 [(0, .ref (w.1 + 38)), (1, .int x1), (2, .int x2), (3, .int x3), (4, .int x4), (5, .int x5)] [] (zE zds w [V0, V1, V2, V3, V4, V5, V6, V7]) := by
  intro n
  induction n with
  | zero =>
    intro V0 V1 V2 V3 V4 V5 V6 V7 x1 x2 x3 x4 x5 res h
    simp [fX1_doRules_l27] at h
  | succ n ih =>
    intro V0 V1 V2 V3 V4 V5 V6 V7 x1 x2 x3 x4 x5 res h
    rw [fX1_doRules_l27] at h
    refine zR_iload dX1_doRules_27 5 rfl ?_
    refine zR_aload_n dX1_doRules_29 0 rfl ?_
    refine zG_getR dX1_doRules_30 zf_X1_49 zd_38 rfl rfl ?_
    refine zR_iload_n dX1_doRules_33 1 rfl ?_
    refine zR_iconst (x := (1 : Int32)) dX1_doRules_34 rfl ?_
    refine zR_iadd dX1_doRules_35 ?_
    obtain ⟨q4, hq5, h⟩ := zbd_some h
    refine zR_cV (rest := [.int x5]) (st1 := [.int q4, .int x5]) dX1_doRules_36 (mX6_headOf F V0 V1 V2 V3 V4 V5 V6 V7 (x1 + (1 : Int32)) _ hq5) zc_X1_159 rfl (zE_at zd_28) ⟨_, _, rfl⟩ rfl (Nat.le_of_ble_eq_true rfl) (Nat.le_trans (Nat.le_of_ble_eq_true rfl) hD) rfl ?_
    by_cases c6 : q4 ≤ x5
    · have h := zif_t h c6
      refine zR_icmp_ge_t (tgt := 122) dX1_doRules_39 (by decide) c6 ?_
      have h := Option.some.inj h
      subst h
      exact zR_ret dX1_doRules_122 rfl
    · have h := zif_f h c6
      refine zR_icmp_ge_f (tgt := 122) dX1_doRules_39 (by decide) c6 ?_
      refine zR_aload_n dX1_doRules_42 0 rfl ?_
      refine zG_getR dX1_doRules_43 zf_X1_49 zd_38 rfl rfl ?_
      refine zR_iload dX1_doRules_46 5 rfl ?_
      refine zR_iload_n dX1_doRules_48 2 rfl ?_
      obtain ⟨q7, hq8, h⟩ := zbd_some h
      refine zR_cV (rest := []) (st1 := [.int q7]) dX1_doRules_49 (mX6_isOn F V0 V1 V2 V3 V4 V5 V6 V7 x5 x2 _ hq8) zc_X1_164 rfl (zE_at zd_28) ⟨_, _, rfl⟩ rfl (Nat.le_of_ble_eq_true rfl) (Nat.le_trans (Nat.le_of_ble_eq_true rfl) hD) rfl ?_
      by_cases c9 : q7 = 0
      · have h := zif_t h c9
        refine zR_if_eq_t (tgt := 116) dX1_doRules_52 (by decide) c9 ?_
        exact wX1_doRules_5_b116 F D hD rR rA hR hA (fX1_doRules_l27 F rR rA n) ih V0 V1 V2 V3 V4 V5 V6 V7 x1 x2 x3 x4 x5 _ h
      · have h := zif_f h c9
        refine zR_if_eq_f (tgt := 116) dX1_doRules_52 (by decide) c9 ?_
        refine zR_aload_n dX1_doRules_55 0 rfl ?_
        refine zR_iload dX1_doRules_56 5 rfl ?_
        refine zR_iload_n dX1_doRules_58 1 rfl ?_
        obtain ⟨q10, hq11, h⟩ := zbd_some h
        refine zR_cV (rest := []) (st1 := [.int q10.1]) dX1_doRules_59 (mX1_holds_5 F V0 V1 V2 V3 V4 V5 V6 V7 x5 x1 _ hq11) zc_X1_168 rfl (zE_at zd_38) ⟨_, _, rfl⟩ rfl (Nat.le_of_ble_eq_true rfl) (Nat.le_trans (Nat.le_of_ble_eq_true rfl) hD) rfl ?_
        by_cases c12 : q10.1 = 0
        · have h := zif_t h c12
          refine zR_if_eq_t (tgt := 116) dX1_doRules_62 (by decide) c12 ?_
          exact wX1_doRules_5_b116 F D hD rR rA hR hA (fX1_doRules_l27 F rR rA n) ih V0 V1 V2 V3 V4 q10.2 V6 V7 x1 x2 x3 x4 x5 _ h
        · have h := zif_f h c12
          refine zR_if_eq_f (tgt := 116) dX1_doRules_62 (by decide) c12 ?_
          refine zR_aload_n dX1_doRules_65 0 rfl ?_
          refine zR_iload dX1_doRules_66 5 rfl ?_
          refine zR_iload_n dX1_doRules_68 1 rfl ?_
          refine zR_iload_n dX1_doRules_69 3 rfl ?_
          obtain ⟨q13, hq14, h⟩ := zbd_some h
          refine zR_cV (rest := []) (st1 := []) dX1_doRules_70 (hA V0 V1 V2 V3 V4 q10.2 V6 V7 x5 x1 x3 _ hq14) zc_X1_171 rfl (zE_at zd_38) ⟨_, _, rfl⟩ rfl (Nat.le_of_ble_eq_true rfl) (Nat.le_refl _) rfl ?_
          refine zR_iload_n dX1_doRules_73 2 rfl ?_
          refine zR_bipush (x := (-2 : Int32)) dX1_doRules_74 (by decide) ?_
          by_cases c15 : x2 = (-2 : Int32)
          · have h := zif_t h c15
            refine zR_icmp_eq_t (tgt := 96) dX1_doRules_76 (by decide) c15 ?_
            exact wX1_doRules_5_b96 F D hD rR rA hR hA (fX1_doRules_l27 F rR rA n) ih V0 V1 V2 V3 V4 q13 V6 V7 x1 x2 x3 x4 x5 _ h
          · have h := zif_f h c15
            refine zR_icmp_eq_f (tgt := 96) dX1_doRules_76 (by decide) c15 ?_
            refine zR_aload_n dX1_doRules_79 0 rfl ?_
            refine zG_getR dX1_doRules_80 zf_X1_87 zd_38 rfl rfl ?_
            refine zR_iload_n dX1_doRules_83 1 rfl ?_
            obtain ⟨q16, hq17, h⟩ := zbd_some h
            refine zR_cV (rest := []) (st1 := [.int q16]) dX1_doRules_84 (mX4_offsOf_5 F V0 V1 V2 V3 V4 q13 V6 V7 x1 _ hq17) zc_X1_156 rfl (zE_at zd_56) ⟨_, _, rfl⟩ rfl (Nat.le_of_ble_eq_true rfl) (Nat.le_trans (Nat.le_of_ble_eq_true rfl) hD) rfl ?_
            refine zR_iload dX1_doRules_87 4 rfl ?_
            by_cases c18 : q16 = x4
            · have h := zif_t h c18
              refine zR_icmp_eq_t (tgt := 96) dX1_doRules_89 (by decide) c18 ?_
              exact wX1_doRules_5_b96 F D hD rR rA hR hA (fX1_doRules_l27 F rR rA n) ih V0 V1 V2 V3 V4 q13 V6 V7 x1 x2 x3 x4 x5 _ h
            · have h := zif_f h c18
              refine zR_icmp_eq_f (tgt := 96) dX1_doRules_89 (by decide) c18 ?_
              refine zR_iconst (x := (1 : Int32)) dX1_doRules_92 rfl ?_
              refine zR_goto (tgt := 97) dX1_doRules_93 (by decide) ?_
              exact wX1_doRules_5_b97 F D hD rR rA hR hA (fX1_doRules_l27 F rR rA n) ih V0 V1 V2 V3 V4 q13 V6 V7 x1 x2 x3 x4 x5 (1 : Int32) _ h
set_option maxRecDepth 100000 in
set_option maxHeartbeats 4000000 in
theorem mX1_doRules_5_body {w : zW} (F : Nat) (D : Nat) (hD : 4 ≤ D + 1) (rR rA : zV → zV → Int32 → Int32 → Int32 → Option zV) (hR : ∀ (V0 V1 V2 V3 V4 V5 V6 V7 : zV) (x1 x2 x3 : Int32) (res : zV), rR V4 V5 x1 x2 x3 = some res → zMet w kX1_doRules D 0 0 [.ref (w.1 + 38), .int x1, .int x2, .int x3] (zE zds w [V0, V1, V2, V3, V4, V5, V6, V7]) none (zE zds w [V0, V1, V2, V3, V4, res, V6, V7])) (hA : ∀ (V0 V1 V2 V3 V4 V5 V6 V7 : zV) (x1 x2 x3 : Int32) (res : zV), rA V4 V5 x1 x2 x3 = some res → zMet w kX1_doActs D 0 0 [.ref (w.1 + 38), .int x1, .int x2, .int x3] (zE zds w [V0, V1, V2, V3, V4, V5, V6, V7]) none (zE zds w [V0, V1, V2, V3, V4, res, V6, V7])) (V0 V1 V2 V3 V4 V5 V6 V7 : zV) (x1 : Int32) (x2 : Int32) (x3 : Int32) (res : zV) (h : fX1_doRules_body F rR rA V4 V5 x1 x2 x3 = some res) : zMet w kX1_doRules (D + 1) 0 0 [.ref (w.1 + 38), .int x1, .int x2, .int x3] (zE zds w [V0, V1, V2, V3, V4, V5, V6, V7]) none (zE zds w [V0, V1, V2, V3, V4, res, V6, V7]) := by
  refine zMet_of (by decide) (Nat.le_of_ble_eq_true rfl) (Nat.le_refl 0) fun _ => ?_
  show zR w kX1_doRules (D + 1) 0 0 none (zE zds w [V0, V1, V2, V3, V4, res, V6, V7]) 0 [(0, .ref (w.1 + 38)), (1, .int x1), (2, .int x2), (3, .int x3)] [] (zE zds w [V0, V1, V2, V3, V4, V5, V6, V7])
  unfold fX1_doRules_body at h
  refine zR_iload_n dX1_doRules_0 3 rfl ?_
  refine zR_bipush (x := (8 : Int32)) dX1_doRules_1 rfl ?_
  by_cases c19 : x3 ≤ (8 : Int32)
  · have h := zif_t h c19
    refine zR_icmp_le_t (tgt := 7) dX1_doRules_3 (by decide) c19 ?_
    refine zR_aload_n dX1_doRules_7 0 rfl ?_
    refine zG_getR dX1_doRules_8 zf_X1_87 zd_38 rfl rfl ?_
    refine zR_iload_n dX1_doRules_11 1 rfl ?_
    obtain ⟨q20, hq21, h⟩ := zbd_some h
    refine zR_cV (rest := []) (st1 := [.int q20]) dX1_doRules_12 (mX4_offsOf_5 F V0 V1 V2 V3 V4 V5 V6 V7 x1 _ hq21) zc_X1_156 rfl (zE_at zd_56) ⟨_, _, rfl⟩ rfl (Nat.le_of_ble_eq_true rfl) (Nat.le_trans (Nat.le_of_ble_eq_true rfl) hD) rfl ?_
    refine zR_istore (lv' := [(0, .ref (w.1 + 38)), (1, .int x1), (2, .int x2), (3, .int x3), (4, .int q20)]) dX1_doRules_15 (Nat.le_of_ble_eq_true rfl) rfl ?_
    refine zR_aload_n dX1_doRules_17 0 rfl ?_
    refine zG_getR dX1_doRules_18 zf_X1_49 zd_38 rfl rfl ?_
    refine zR_iload_n dX1_doRules_21 1 rfl ?_
    obtain ⟨q22, hq23, h⟩ := zbd_some h
    refine zR_cV (rest := []) (st1 := [.int q22]) dX1_doRules_22 (mX6_headOf F V0 V1 V2 V3 V4 V5 V6 V7 x1 _ hq23) zc_X1_159 rfl (zE_at zd_28) ⟨_, _, rfl⟩ rfl (Nat.le_of_ble_eq_true rfl) (Nat.le_trans (Nat.le_of_ble_eq_true rfl) hD) rfl ?_
    refine zR_istore (lv' := [(0, .ref (w.1 + 38)), (1, .int x1), (2, .int x2), (3, .int x3), (4, .int q20), (5, .int q22)]) dX1_doRules_25 (Nat.le_of_ble_eq_true rfl) rfl ?_
    exact wX1_doRules_5_l27 F D hD rR rA hR hA F V0 V1 V2 V3 V4 V5 V6 V7 x1 x2 x3 q20 q22 _ h
  · have h := zif_f h c19
    refine zR_icmp_le_f (tgt := 7) dX1_doRules_3 (by decide) c19 ?_
    have h := Option.some.inj h
    subst h
    exact zR_ret dX1_doRules_6 rfl
theorem mX1_rec_5 {w : zW} (F : Nat) : ∀ n : Nat, (∀ (V0 V1 V2 V3 V4 V5 V6 V7 : zV) (x1 x2 x3 : Int32) (res : zV), fX1_rec F n false V4 V5 x1 x2 x3 = some res → zMet w kX1_doRules (4 + n) 0 0 [.ref (w.1 + 38), .int x1, .int x2, .int x3] (zE zds w [V0, V1, V2, V3, V4, V5, V6, V7]) none (zE zds w [V0, V1, V2, V3, V4, res, V6, V7])) ∧ (∀ (V0 V1 V2 V3 V4 V5 V6 V7 : zV) (x1 x2 x3 : Int32) (res : zV), fX1_rec F n true V4 V5 x1 x2 x3 = some res → zMet w kX1_doActs (4 + n) 0 0 [.ref (w.1 + 38), .int x1, .int x2, .int x3] (zE zds w [V0, V1, V2, V3, V4, V5, V6, V7]) none (zE zds w [V0, V1, V2, V3, V4, res, V6, V7])) := by
  intro n
  induction n with
  | zero => exact ⟨fun V0 V1 V2 V3 V4 V5 V6 V7 x1 x2 x3 res h => by simp [fX1_rec] at h, fun V0 V1 V2 V3 V4 V5 V6 V7 x1 x2 x3 res h => by simp [fX1_rec] at h⟩
  | succ n ih => exact ⟨fun V0 V1 V2 V3 V4 V5 V6 V7 x1 x2 x3 res h => mX1_doRules_5_body F (4 + n) (by omega) _ _ ih.1 ih.2 V0 V1 V2 V3 V4 V5 V6 V7 x1 x2 x3 res (by rw [fX1_rec] at h; exact h), fun V0 V1 V2 V3 V4 V5 V6 V7 x1 x2 x3 res h => mX1_doActs_5_body F (4 + n) (by omega) _ _ ih.1 ih.2 V0 V1 V2 V3 V4 V5 V6 V7 x1 x2 x3 res (by rw [fX1_rec] at h; exact h)⟩
theorem mX1_doRules_5 {w : zW} (F : Nat) (V0 V1 V2 V3 V4 V5 V6 V7 : zV) (x1 x2 x3 : Int32) (res : zV) (h : fX1_doRules F V4 V5 x1 x2 x3 = some res) : zMet w kX1_doRules 24 0 0 [.ref (w.1 + 38), .int x1, .int x2, .int x3] (zE zds w [V0, V1, V2, V3, V4, V5, V6, V7]) none (zE zds w [V0, V1, V2, V3, V4, res, V6, V7]) := (mX1_rec_5 F 20).1 V0 V1 V2 V3 V4 V5 V6 V7 x1 x2 x3 res h
theorem mX1_doActs_5 {w : zW} (F : Nat) (V0 V1 V2 V3 V4 V5 V6 V7 : zV) (x1 x2 x3 : Int32) (res : zV) (h : fX1_doActs F V4 V5 x1 x2 x3 = some res) : zMet w kX1_doActs 24 0 0 [.ref (w.1 + 38), .int x1, .int x2, .int x3] (zE zds w [V0, V1, V2, V3, V4, V5, V6, V7]) none (zE zds w [V0, V1, V2, V3, V4, res, V6, V7]) := (mX1_rec_5 F 20).2 V0 V1 V2 V3 V4 V5 V6 V7 x1 x2 x3 res h
set_option maxRecDepth 100000 in
set_option maxHeartbeats 4000000 in
theorem mX1_endBallIfNoneInPlay_5 {w : zW} (F : Nat) (V0 V1 V2 V3 V4 V5 V6 V7 : zV) (res : zV) (h : fX1_endBallIfNoneInPlay F V4 V5 = some res) : zMet w kX1_endBallIfNoneInPlay 4 0 0 [.ref (w.1 + 38)] (zE zds w [V0, V1, V2, V3, V4, V5, V6, V7]) none (zE zds w [V0, V1, V2, V3, V4, res, V6, V7]) := by
  refine zMet_of (by decide) (Nat.le_of_ble_eq_true rfl) (Nat.le_refl 0) fun _ => ?_
  show zR w kX1_endBallIfNoneInPlay 4 0 0 none (zE zds w [V0, V1, V2, V3, V4, res, V6, V7]) 0 [(0, .ref (w.1 + 38))] [] (zE zds w [V0, V1, V2, V3, V4, V5, V6, V7])
  unfold fX1_endBallIfNoneInPlay at h
  refine zR_aload_n dX1_endBallIfNoneInPlay_0 0 rfl ?_
  refine zG_getI dX1_endBallIfNoneInPlay_1 zf_X1_19 zd_38 rfl rfl ?_
  by_cases c1 : (zI V5 0 9) = 0
  · have h := zif_t h c1
    refine zR_if_eq_t (tgt := 17) dX1_endBallIfNoneInPlay_4 (by decide) c1 ?_
    have h := Option.some.inj h
    subst h
    exact zR_ret dX1_endBallIfNoneInPlay_17 rfl
  · have h := zif_f h c1
    refine zR_if_eq_f (tgt := 17) dX1_endBallIfNoneInPlay_4 (by decide) c1 ?_
    refine zR_aload_n dX1_endBallIfNoneInPlay_7 0 rfl ?_
    refine zG_getR dX1_endBallIfNoneInPlay_8 zf_X1_80 zd_38 rfl rfl ?_
    refine zG_getI dX1_endBallIfNoneInPlay_11 zf_X1_150 zd_52 rfl rfl ?_
    by_cases c2 : (zI V5 14 7) ≤ 0
    · have h := zif_t h c2
      refine zR_if_le_t (tgt := 18) dX1_endBallIfNoneInPlay_14 (by decide) c2 ?_
      refine zR_aload_n dX1_endBallIfNoneInPlay_18 0 rfl ?_
      refine zG_getR dX1_endBallIfNoneInPlay_19 zf_X1_87 zd_38 rfl rfl ?_
      obtain ⟨q3, hq4, h⟩ := zbd_some h
      refine zR_cV (rest := []) (st1 := []) dX1_endBallIfNoneInPlay_22 (mX4_turnOffAllButFirst_5 F V0 V1 V2 V3 V4 V5 V6 V7 _ hq4) zc_X1_153 rfl (zE_at zd_56) ⟨_, _, rfl⟩ rfl (Nat.le_of_ble_eq_true rfl) (Nat.le_of_ble_eq_true rfl) rfl ?_
      refine zR_aload_n dX1_endBallIfNoneInPlay_25 0 rfl ?_
      refine zR_iconst (x := (0 : Int32)) dX1_endBallIfNoneInPlay_26 rfl ?_
      obtain ⟨V5_5, e6, h⟩ := zlet_some h
      refine zG_putZ zds_ok dX1_endBallIfNoneInPlay_27 zf_X1_30 zt_X1_12 zd_38 rfl rfl (Or.inl rfl) e6 rfl ?_
      refine zR_aload_n dX1_endBallIfNoneInPlay_30 0 rfl ?_
      refine zG_getI dX1_endBallIfNoneInPlay_31 zf_X1_19 zd_38 rfl rfl ?_
      refine zR_iconst (x := (3 : Int32)) dX1_endBallIfNoneInPlay_34 rfl ?_
      by_cases c7 : (zI V5_5 0 9) = (3 : Int32)
      · have h := zif_t h c7
        refine zR_icmp_ne_f (tgt := 46) dX1_endBallIfNoneInPlay_35 (by decide) c7 ?_
        refine zR_aload_n dX1_endBallIfNoneInPlay_38 0 rfl ?_
        refine zR_iconst (x := (0 : Int32)) dX1_endBallIfNoneInPlay_39 rfl ?_
        obtain ⟨V5_12, e13, h⟩ := zlet_some h
        refine zG_putI zds_ok dX1_endBallIfNoneInPlay_40 zf_X1_19 zt_X1_9 zd_38 rfl rfl e13 rfl ?_
        refine zR_goto (tgt := 63) dX1_endBallIfNoneInPlay_43 (by decide) ?_
        have h := Option.some.inj h
        subst h
        exact zR_ret dX1_endBallIfNoneInPlay_63 rfl
      · have h := zif_f h c7
        refine zR_icmp_ne_t (tgt := 46) dX1_endBallIfNoneInPlay_35 (by decide) c7 ?_
        refine zR_aload_n dX1_endBallIfNoneInPlay_46 0 rfl ?_
        refine zR_dup dX1_endBallIfNoneInPlay_47 rfl ?_
        refine zG_getI dX1_endBallIfNoneInPlay_48 zf_X1_19 zd_38 rfl rfl ?_
        refine zR_iconst (x := (1 : Int32)) dX1_endBallIfNoneInPlay_51 rfl ?_
        refine zR_iadd dX1_endBallIfNoneInPlay_52 ?_
        obtain ⟨V5_8, e9, h⟩ := zlet_some h
        refine zG_putI zds_ok dX1_endBallIfNoneInPlay_53 zf_X1_19 zt_X1_9 zd_38 rfl rfl e9 rfl ?_
        refine zR_aload_n dX1_endBallIfNoneInPlay_56 0 rfl ?_
        refine zG_getR dX1_endBallIfNoneInPlay_57 zf_X1_80 zd_38 rfl rfl ?_
        obtain ⟨q10, hq11, h⟩ := zbd_some h
        refine zR_cV (rest := []) (st1 := []) dX1_endBallIfNoneInPlay_60 (mX3_takeBall_5 F V0 V1 V2 V3 V4 V5_8 V6 V7 _ hq11) zc_X1_100 rfl (zE_at zd_52) ⟨_, _, rfl⟩ rfl (Nat.le_of_ble_eq_true rfl) (Nat.le_of_ble_eq_true rfl) rfl ?_
        have h := Option.some.inj h
        subst h
        exact zR_ret dX1_endBallIfNoneInPlay_63 rfl
    · have h := zif_f h c2
      refine zR_if_le_f (tgt := 18) dX1_endBallIfNoneInPlay_14 (by decide) c2 ?_
      have h := Option.some.inj h
      subst h
      exact zR_ret dX1_endBallIfNoneInPlay_17 rfl
set_option maxRecDepth 100000 in
set_option maxHeartbeats 4000000 in
theorem wX1_open_5_b114 {w : zW} (F : Nat) (V0 V1 V2 V3 V4 V5 V6 V7 : zV) (res : zV) (h : fX1_open_b114 F V4 V5 = some res) : zR w kX1_open 25 0 0 none (zE zds w [V0, V1, V2, V3, V4, res, V6, V7]) 114 [(0, .ref (w.1 + 38))] [] (zE zds w [V0, V1, V2, V3, V4, V5, V6, V7]) := by
  unfold fX1_open_b114 at h
  refine zR_aload_n dX1_open_114 0 rfl ?_
  obtain ⟨q1, hq2, h⟩ := zbd_some h
  refine zR_cV (rest := []) (st1 := []) dX1_open_115 (mX1_endBallIfNoneInPlay_5 F V0 V1 V2 V3 V4 V5 V6 V7 _ hq2) zc_X1_114 rfl (zE_at zd_38) ⟨_, _, rfl⟩ rfl (Nat.le_of_ble_eq_true rfl) (Nat.le_of_ble_eq_true rfl) rfl ?_
  have h := Option.some.inj h
  subst h
  exact zR_ret dX1_open_118 rfl
set_option maxRecDepth 100000 in
set_option maxHeartbeats 4000000 in
theorem wX1_open_5_l23 {w : zW} (F : Nat) : ∀ (n : Nat) (V0 V1 V2 V3 V4 V5 V6 V7 : zV) (x1 : Int32) (res : zV), fX1_open_l23 F n V4 V5 x1 = some res → zR w kX1_open 25 0 0 none (zE zds w [V0, V1, V2, V3, V4, res, V6, V7]) 23 [(0, .ref (w.1 + 38)), (1, .int x1)] [] (zE zds w [V0, V1, V2, V3, V4, V5, V6, V7]) := by
  intro n
  induction n with
  | zero =>
    intro V0 V1 V2 V3 V4 V5 V6 V7 x1 res h
    simp [fX1_open_l23] at h
  | succ n ih =>
    intro V0 V1 V2 V3 V4 V5 V6 V7 x1 res h
    rw [fX1_open_l23] at h
    refine zR_iload_n dX1_open_23 1 rfl ?_
    refine zR_aload_n dX1_open_24 0 rfl ?_
    refine zG_getR dX1_open_25 zf_X1_9 zd_38 rfl rfl ?_
    refine zG_alen (u := (16 : Int32)) dX1_open_28 zd_39 (Nat.le_of_ble_eq_true rfl) rfl rfl rfl ?_
    by_cases c3 : (16 : Int32) ≤ x1
    · have h := zif_t h c3
      refine zR_icmp_ge_t (tgt := 53) dX1_open_29 (by decide) c3 ?_
      refine zR_aload_n dX1_open_53 0 rfl ?_
      refine zG_getR dX1_open_54 zf_X1_87 zd_38 rfl rfl ?_
      obtain ⟨q4, hq5, h⟩ := zbd_some h
      refine zR_cV (rest := []) (st1 := []) dX1_open_57 (mX4_clear_5 F V0 V1 V2 V3 V4 V5 V6 V7 _ hq5) zc_X1_99 rfl (zE_at zd_56) ⟨_, _, rfl⟩ rfl (Nat.le_of_ble_eq_true rfl) (Nat.le_of_ble_eq_true rfl) rfl ?_
      refine zR_aload_n dX1_open_60 0 rfl ?_
      refine zR_lconst (x := (0 : Int64)) dX1_open_61 rfl ?_
      obtain ⟨V5_6, e7, h⟩ := zlet_some h
      refine zG_putL zds_ok dX1_open_62 zf_X1_15 zt_X1_8 zd_38 rfl rfl e7 rfl ?_
      refine zR_aload_n dX1_open_65 0 rfl ?_
      refine zR_iconst (x := (1 : Int32)) dX1_open_66 rfl ?_
      obtain ⟨V5_8, e9, h⟩ := zlet_some h
      refine zG_putI zds_ok dX1_open_67 zf_X1_19 zt_X1_9 zd_38 rfl rfl e9 rfl ?_
      refine zR_aload_n dX1_open_70 0 rfl ?_
      refine zR_iconst (x := (0 : Int32)) dX1_open_71 rfl ?_
      obtain ⟨V5_10, e11, h⟩ := zlet_some h
      refine zG_putI zds_ok dX1_open_72 zf_X1_23 zt_X1_10 zd_38 rfl rfl e11 rfl ?_
      refine zR_aload_n dX1_open_75 0 rfl ?_
      refine zR_iconst (x := (0 : Int32)) dX1_open_76 rfl ?_
      obtain ⟨V5_12, e13, h⟩ := zlet_some h
      refine zG_putZ zds_ok dX1_open_77 zf_X1_26 zt_X1_11 zd_38 rfl rfl (Or.inl rfl) e13 rfl ?_
      refine zR_aload_n dX1_open_80 0 rfl ?_
      refine zR_iconst (x := (0 : Int32)) dX1_open_81 rfl ?_
      obtain ⟨V5_14, e15, h⟩ := zlet_some h
      refine zG_putZ zds_ok dX1_open_82 zf_X1_30 zt_X1_12 zd_38 rfl rfl (Or.inl rfl) e15 rfl ?_
      refine zR_aload_n dX1_open_85 0 rfl ?_
      refine zG_getR dX1_open_86 zf_X1_80 zd_38 rfl rfl ?_
      obtain ⟨q16, hq17, h⟩ := zbd_some h
      refine zR_cV (rest := []) (st1 := []) dX1_open_89 (mX3_takeBall_5 F V0 V1 V2 V3 V4 V5_14 V6 V7 _ hq17) zc_X1_100 rfl (zE_at zd_52) ⟨_, _, rfl⟩ rfl (Nat.le_of_ble_eq_true rfl) (Nat.le_of_ble_eq_true rfl) rfl ?_
      refine zR_aload_n dX1_open_92 0 rfl ?_
      obtain ⟨q18, hq19, h⟩ := zbd_some h
      refine zR_cV (rest := []) (st1 := []) dX1_open_93 (mX1_beginActs_5 F V0 V1 V2 V3 V4 q16 V6 V7 _ hq19) zc_X1_103 rfl (zE_at zd_38) ⟨_, _, rfl⟩ rfl (Nat.le_of_ble_eq_true rfl) (Nat.le_of_ble_eq_true rfl) rfl ?_
      refine zR_aload_n dX1_open_96 0 rfl ?_
      refine zG_getR dX1_open_97 zf_X1_87 zd_38 rfl rfl ?_
      refine zR_iconst (x := (0 : Int32)) dX1_open_100 rfl ?_
      obtain ⟨q20, hq21, h⟩ := zbd_some h
      refine zR_cV (rest := []) (st1 := [.int q20.1]) dX1_open_101 (mX4_turnOn_5 F V0 V1 V2 V3 V4 q18 V6 V7 (0 : Int32) _ hq21) zc_X1_106 rfl (zE_at zd_56) ⟨_, _, rfl⟩ rfl (Nat.le_of_ble_eq_true rfl) (Nat.le_of_ble_eq_true rfl) rfl ?_
      by_cases c22 : q20.1 = 0
      · have h := zif_t h c22
        refine zR_if_eq_t (tgt := 114) dX1_open_104 (by decide) c22 ?_
        refine zR_sub (lv' := [(0, .ref (w.1 + 38))]) [0] rfl ?_
        exact wX1_open_5_b114 F V0 V1 V2 V3 V4 q20.2 V6 V7 _ h
      · have h := zif_f h c22
        refine zR_if_eq_f (tgt := 114) dX1_open_104 (by decide) c22 ?_
        refine zR_aload_n dX1_open_107 0 rfl ?_
        refine zR_iconst (x := (0 : Int32)) dX1_open_108 rfl ?_
        refine zR_iconst (x := (-1 : Int32)) dX1_open_109 (by decide) ?_
        refine zR_iconst (x := (1 : Int32)) dX1_open_110 rfl ?_
        obtain ⟨q23, hq24, h⟩ := zbd_some h
        refine zR_cV (rest := []) (st1 := []) dX1_open_111 (mX1_doRules_5 F V0 V1 V2 V3 V4 q20.2 V6 V7 (0 : Int32) (-1 : Int32) (1 : Int32) _ hq24) zc_X1_110 rfl (zE_at zd_38) ⟨_, _, rfl⟩ rfl (Nat.le_of_ble_eq_true rfl) (Nat.le_of_ble_eq_true rfl) rfl ?_
        refine zR_sub (lv' := [(0, .ref (w.1 + 38))]) [0] rfl ?_
        exact wX1_open_5_b114 F V0 V1 V2 V3 V4 q23 V6 V7 _ h
    · have h := zif_f h c3
      refine zR_icmp_ge_f (tgt := 53) dX1_open_29 (by decide) c3 ?_
      refine zR_aload_n dX1_open_32 0 rfl ?_
      refine zG_getR dX1_open_33 zf_X1_9 zd_38 rfl rfl ?_
      refine zR_iload_n dX1_open_36 1 rfl ?_
      refine zR_aload_n dX1_open_37 0 rfl ?_
      refine zG_getR dX1_open_38 zf_X1_39 zd_38 rfl rfl ?_
      refine zG_getR dX1_open_41 zf_X1_96 zd_15 rfl rfl ?_
      refine zR_iload_n dX1_open_44 1 rfl ?_
      obtain ⟨g25, h⟩ := zchk_some h
      refine zG_iald dX1_open_45 zd_24 rfl rfl g25 ?_
      obtain ⟨g26, h⟩ := zchk_some h
      obtain ⟨V5_27, e28, h⟩ := zlet_some h
      refine zG_iast zds_ok dX1_open_46 zd_39 rfl rfl g26 e28 rfl ?_
      refine zR_iinc (u := (x1 + 1)) (lv' := [(0, .ref (w.1 + 38)), (1, .int (x1 + 1))]) dX1_open_47 1 rfl rfl (Nat.le_of_ble_eq_true rfl) rfl ?_
      refine zR_goto (tgt := 23) dX1_open_50 (by decide) ?_
      exact ih V0 V1 V2 V3 V4 V5_27 V6 V7 (x1 + 1) _ h
set_option maxRecDepth 100000 in
set_option maxHeartbeats 4000000 in
theorem mX1_open_5 {w : zW} (F : Nat) (V0 V1 V2 V3 V4 V5 V6 V7 : zV) (res : zV) (h : fX1_open F V4 V5 = some res) : zMet w kX1_open 25 0 0 [.ref (w.1 + 38)] (zE zds w [V0, V1, V2, V3, V4, V5, V6, V7]) none (zE zds w [V0, V1, V2, V3, V4, res, V6, V7]) := by
  refine zMet_of (by decide) (Nat.le_of_ble_eq_true rfl) (Nat.le_refl 0) fun _ => ?_
  show zR w kX1_open 25 0 0 none (zE zds w [V0, V1, V2, V3, V4, res, V6, V7]) 0 [(0, .ref (w.1 + 38))] [] (zE zds w [V0, V1, V2, V3, V4, V5, V6, V7])
  unfold fX1_open at h
  refine zR_aload_n dX1_open_0 0 rfl ?_
  refine zG_getR dX1_open_1 zf_X1_64 zd_38 rfl rfl ?_
  obtain ⟨q29, hq30, h⟩ := zbd_some h
  refine zR_cV (rest := []) (st1 := []) dX1_open_4 (mX8_clear_5 F V0 V1 V2 V3 V4 V5 V6 V7 _ hq30) zc_X1_91 rfl (zE_at zd_43) ⟨_, _, rfl⟩ rfl (Nat.le_of_ble_eq_true rfl) (Nat.le_of_ble_eq_true rfl) rfl ?_
  refine zR_aload_n dX1_open_7 0 rfl ?_
  refine zG_getR dX1_open_8 zf_X1_71 zd_38 rfl rfl ?_
  obtain ⟨q31, hq32, h⟩ := zbd_some h
  refine zR_cV (rest := []) (st1 := []) dX1_open_11 (mX0_clear_5 F V0 V1 V2 V3 V4 q29 V6 V7 _ hq32) zc_X1_94 rfl (zE_at zd_48) ⟨_, _, rfl⟩ rfl (Nat.le_of_ble_eq_true rfl) (Nat.le_of_ble_eq_true rfl) rfl ?_
  refine zR_aload_n dX1_open_14 0 rfl ?_
  refine zG_getR dX1_open_15 zf_X1_80 zd_38 rfl rfl ?_
  obtain ⟨q33, hq34, h⟩ := zbd_some h
  refine zR_cV (rest := []) (st1 := []) dX1_open_18 (mX3_clear_5 F V0 V1 V2 V3 V4 q31 V6 V7 _ hq34) zc_X1_95 rfl (zE_at zd_52) ⟨_, _, rfl⟩ rfl (Nat.le_of_ble_eq_true rfl) (Nat.le_of_ble_eq_true rfl) rfl ?_
  refine zR_iconst (x := (0 : Int32)) dX1_open_21 rfl ?_
  refine zR_istore_n (lv' := [(0, .ref (w.1 + 38)), (1, .int (0 : Int32))]) dX1_open_22 (Nat.le_of_ble_eq_true rfl) rfl ?_
  exact wX1_open_5_l23 F F V0 V1 V2 V3 V4 q33 V6 V7 (0 : Int32) _ h
set_option maxRecDepth 100000 in
set_option maxHeartbeats 4000000 in
theorem mX11_begin {w : zW} (F : Nat) (V0 V1 V2 V3 V4 V5 V6 V7 : zV) (res : Int32 × zV × zV) (h : fX11_begin F V0 V4 V5 = some res) : zMet w kX11_begin 26 0 0 [.ref (w.1 + 0)] (zE zds w [V0, V1, V2, V3, V4, V5, V6, V7]) (some (.int res.1)) (zE zds w [res.2.1, V1, V2, V3, V4, res.2.2, V6, V7]) := by
  refine zMet_of (by decide) (Nat.le_of_ble_eq_true rfl) (Nat.le_refl 0) fun _ => ?_
  show zR w kX11_begin 26 0 0 (some (.int res.1)) (zE zds w [res.2.1, V1, V2, V3, V4, res.2.2, V6, V7]) 0 [(0, .ref (w.1 + 0))] [] (zE zds w [V0, V1, V2, V3, V4, V5, V6, V7])
  unfold fX11_begin at h
  refine zR_aload_n dX11_begin_0 0 rfl ?_
  refine zG_getI dX11_begin_1 zf_X11_50 zd_0 rfl rfl ?_
  by_cases c1 : (zI V0 0 7) = 0
  · have h := zif_t h c1
    refine zR_if_ne_f (tgt := 9) dX11_begin_4 (by decide) c1 ?_
    refine zR_iconst (x := (0 : Int32)) dX11_begin_7 rfl ?_
    have h := Option.some.inj h
    subst h
    exact zR_iret (x := (0 : Int32)) dX11_begin_8 rfl znar0
  · have h := zif_f h c1
    refine zR_if_ne_t (tgt := 9) dX11_begin_4 (by decide) c1 ?_
    refine zR_aload_n dX11_begin_9 0 rfl ?_
    refine zR_iconst (x := (1 : Int32)) dX11_begin_10 rfl ?_
    obtain ⟨V0_2, e3, h⟩ := zlet_some h
    refine zG_putZ zds_ok dX11_begin_11 zf_X11_63 zt_X11_9 zd_0 rfl rfl (Or.inr rfl) e3 rfl ?_
    refine zR_aload_n dX11_begin_14 0 rfl ?_
    refine zR_iconst (x := (0 : Int32)) dX11_begin_15 rfl ?_
    obtain ⟨V0_4, e5, h⟩ := zlet_some h
    refine zG_putI zds_ok dX11_begin_16 zf_X11_73 zt_X11_12 zd_0 rfl rfl e5 rfl ?_
    refine zR_aload_n dX11_begin_19 0 rfl ?_
    refine zG_getR dX11_begin_20 zf_X11_59 zd_0 rfl rfl ?_
    obtain ⟨q6, hq7, h⟩ := zbd_some h
    refine zR_cV (rest := []) (st1 := []) dX11_begin_23 (mX1_open_5 F V0_4 V1 V2 V3 V4 V5 V6 V7 _ hq7) zc_X11_98 rfl (zE_at zd_38) ⟨_, _, rfl⟩ rfl (Nat.le_of_ble_eq_true rfl) (Nat.le_of_ble_eq_true rfl) rfl ?_
    refine zR_iconst (x := (1 : Int32)) dX11_begin_26 rfl ?_
    have h := Option.some.inj h
    subst h
    exact zR_iret (x := (1 : Int32)) dX11_begin_27 rfl znar1
set_option maxRecDepth 100000 in
set_option maxHeartbeats 4000000 in
theorem wX8_take_5_b68 {w : zW} (F : Nat) (V0 V1 V2 V3 V4 V5 V6 V7 : zV) (x1 : Int32) (x2 : Int32) (x3 : Int32) (res : Int32 × zV) (h : fX8_take_b68 F V4 V5 x1 x2 x3 = some res) : zR w kX8_take 1 0 0 (some (.int res.1)) (zE zds w [V0, V1, V2, V3, V4, res.2, V6, V7]) 68 [(0, .ref (w.1 + 43)), (1, .int x1), (2, .int x2), (3, .int x3)] [] (zE zds w [V0, V1, V2, V3, V4, V5, V6, V7]) := by
  unfold fX8_take_b68 at h
  refine zR_aload_n dX8_take_68 0 rfl ?_
  refine zG_getR dX8_take_69 zf_X8_9 zd_43 rfl rfl ?_
  refine zR_iload_n dX8_take_72 1 rfl ?_
  refine zR_dup2 dX8_take_73 rfl rfl ?_
  obtain ⟨g1, h⟩ := zchk_some h
  refine zG_iald dX8_take_74 zd_44 rfl rfl g1 ?_
  refine zR_iconst (x := (1 : Int32)) dX8_take_75 rfl ?_
  refine zR_iadd dX8_take_76 ?_
  obtain ⟨g2, h⟩ := zchk_some h
  obtain ⟨V5_3, e4, h⟩ := zlet_some h
  refine zG_iast zds_ok dX8_take_77 zd_44 rfl rfl g2 e4 rfl ?_
  refine zR_aload_n dX8_take_78 0 rfl ?_
  refine zG_getR dX8_take_79 zf_X8_18 zd_43 rfl rfl ?_
  refine zR_iload_n dX8_take_82 1 rfl ?_
  refine zR_iload_n dX8_take_83 2 rfl ?_
  obtain ⟨g5, h⟩ := zchk_some h
  obtain ⟨V5_6, e7, h⟩ := zlet_some h
  refine zG_iast zds_ok dX8_take_84 zd_46 rfl rfl g5 e7 rfl ?_
  refine zR_aload_n dX8_take_85 0 rfl ?_
  refine zG_getR dX8_take_86 zf_X8_21 zd_43 rfl rfl ?_
  refine zR_iload_n dX8_take_89 1 rfl ?_
  refine zR_iload_n dX8_take_90 3 rfl ?_
  obtain ⟨g8, h⟩ := zchk_some h
  obtain ⟨V5_9, e10, h⟩ := zlet_some h
  refine zG_iast zds_ok dX8_take_91 zd_47 rfl rfl g8 e10 rfl ?_
  refine zR_iconst (x := (1 : Int32)) dX8_take_92 rfl ?_
  have h := Option.some.inj h
  subst h
  exact zR_iret (x := (1 : Int32)) dX8_take_93 rfl znar1
set_option maxRecDepth 100000 in
set_option maxHeartbeats 4000000 in
theorem mX8_take_5 {w : zW} (F : Nat) (V0 V1 V2 V3 V4 V5 V6 V7 : zV) (x1 : Int32) (x2 : Int32) (x3 : Int32) (res : Int32 × zV) (h : fX8_take F V4 V5 x1 x2 x3 = some res) : zMet w kX8_take 1 0 0 [.ref (w.1 + 43), .int x1, .int x2, .int x3] (zE zds w [V0, V1, V2, V3, V4, V5, V6, V7]) (some (.int res.1)) (zE zds w [V0, V1, V2, V3, V4, res.2, V6, V7]) := by
  refine zMet_of (by decide) (Nat.le_of_ble_eq_true rfl) (Nat.le_refl 0) fun _ => ?_
  show zR w kX8_take 1 0 0 (some (.int res.1)) (zE zds w [V0, V1, V2, V3, V4, res.2, V6, V7]) 0 [(0, .ref (w.1 + 43)), (1, .int x1), (2, .int x2), (3, .int x3)] [] (zE zds w [V0, V1, V2, V3, V4, V5, V6, V7])
  unfold fX8_take at h
  refine zR_aload_n dX8_take_0 0 rfl ?_
  refine zG_getR dX8_take_1 zf_X8_24 zd_43 rfl rfl ?_
  refine zR_iconst (x := (0 : Int32)) dX8_take_4 rfl ?_
  refine zR_iload_n dX8_take_5 1 rfl ?_
  obtain ⟨q11, hq12, h⟩ := zbd_some h
  refine zR_cV (rest := []) (st1 := [.int q11]) dX8_take_6 (mX9_has F V0 V1 V2 V3 V4 V5 V6 V7 (0 : Int32) x1 _ hq12) zc_X8_28 rfl (zE_at zd_15) ⟨_, _, rfl⟩ rfl (Nat.le_of_ble_eq_true rfl) (Nat.le_of_ble_eq_true rfl) rfl ?_
  by_cases c13 : q11 = 0
  · have h := zif_t h c13
    refine zR_if_eq_t (tgt := 21) dX8_take_9 (by decide) c13 ?_
    refine zR_iconst (x := (0 : Int32)) dX8_take_21 rfl ?_
    have h := Option.some.inj h
    subst h
    exact zR_iret (x := (0 : Int32)) dX8_take_22 rfl znar0
  · have h := zif_f h c13
    refine zR_if_eq_f (tgt := 21) dX8_take_9 (by decide) c13 ?_
    refine zR_iload_n dX8_take_12 1 rfl ?_
    refine zR_aload_n dX8_take_13 0 rfl ?_
    refine zG_getR dX8_take_14 zf_X8_9 zd_43 rfl rfl ?_
    refine zG_alen (u := (16 : Int32)) dX8_take_17 zd_44 (Nat.le_of_ble_eq_true rfl) rfl rfl rfl ?_
    by_cases c14 : x1 < (16 : Int32)
    · have h := zif_t h c14
      refine zR_icmp_lt_t (tgt := 23) dX8_take_18 (by decide) c14 ?_
      refine zR_aload_n dX8_take_23 0 rfl ?_
      refine zG_getR dX8_take_24 zf_X8_15 zd_43 rfl rfl ?_
      refine zR_iload_n dX8_take_27 1 rfl ?_
      refine zR_dup2 dX8_take_28 rfl rfl ?_
      obtain ⟨g15, h⟩ := zchk_some h
      refine zG_iald dX8_take_29 zd_45 rfl rfl g15 ?_
      refine zR_iconst (x := (1 : Int32)) dX8_take_30 rfl ?_
      refine zR_iadd dX8_take_31 ?_
      obtain ⟨g16, h⟩ := zchk_some h
      obtain ⟨V5_17, e18, h⟩ := zlet_some h
      refine zG_iast zds_ok dX8_take_32 zd_45 rfl rfl g16 e18 rfl ?_
      refine zR_iload_n dX8_take_33 3 rfl ?_
      by_cases c19 : x3 = 0
      · have h := zif_t h c19
        refine zR_if_eq_t (tgt := 66) dX8_take_34 (by decide) c19 ?_
        refine zR_iconst (x := (0 : Int32)) dX8_take_66 rfl ?_
        have h := Option.some.inj h
        subst h
        exact zR_iret (x := (0 : Int32)) dX8_take_67 rfl znar0
      · have h := zif_f h c19
        refine zR_if_eq_f (tgt := 66) dX8_take_34 (by decide) c19 ?_
        refine zR_aload_n dX8_take_37 0 rfl ?_
        refine zG_getR dX8_take_38 zf_X8_9 zd_43 rfl rfl ?_
        refine zR_iload_n dX8_take_41 1 rfl ?_
        obtain ⟨g20, h⟩ := zchk_some h
        refine zG_iald dX8_take_42 zd_44 rfl rfl g20 ?_
        by_cases c21 : (zA V5_17 6 (x1).toNatClampNeg) ≤ 0
        · have h := zif_t h c21
          refine zR_if_le_t (tgt := 68) dX8_take_43 (by decide) c21 ?_
          exact wX8_take_5_b68 F V0 V1 V2 V3 V4 V5_17 V6 V7 x1 x2 x3 _ h
        · have h := zif_f h c21
          refine zR_if_le_f (tgt := 68) dX8_take_43 (by decide) c21 ?_
          refine zR_iload_n dX8_take_46 2 rfl ?_
          refine zR_aload_n dX8_take_47 0 rfl ?_
          refine zG_getR dX8_take_48 zf_X8_18 zd_43 rfl rfl ?_
          refine zR_iload_n dX8_take_51 1 rfl ?_
          obtain ⟨g22, h⟩ := zchk_some h
          refine zG_iald dX8_take_52 zd_46 rfl rfl g22 ?_
          refine zR_isub dX8_take_53 ?_
          refine zR_aload_n dX8_take_54 0 rfl ?_
          refine zG_getR dX8_take_55 zf_X8_24 zd_43 rfl rfl ?_
          refine zG_getR dX8_take_58 zf_X8_34 zd_15 rfl rfl ?_
          refine zR_iload_n dX8_take_61 1 rfl ?_
          obtain ⟨g23, h⟩ := zchk_some h
          refine zG_iald dX8_take_62 zd_17 rfl rfl g23 ?_
          by_cases c24 : (zA V4 2 (x1).toNatClampNeg) ≤ (x2 - (zA V5_17 8 (x1).toNatClampNeg))
          · have h := zif_t h c24
            refine zR_icmp_ge_t (tgt := 68) dX8_take_63 (by decide) c24 ?_
            exact wX8_take_5_b68 F V0 V1 V2 V3 V4 V5_17 V6 V7 x1 x2 x3 _ h
          · have h := zif_f h c24
            refine zR_icmp_ge_f (tgt := 68) dX8_take_63 (by decide) c24 ?_
            refine zR_iconst (x := (0 : Int32)) dX8_take_66 rfl ?_
            have h := Option.some.inj h
            subst h
            exact zR_iret (x := (0 : Int32)) dX8_take_67 rfl znar0
    · have h := zif_f h c14
      refine zR_icmp_lt_f (tgt := 23) dX8_take_18 (by decide) c14 ?_
      refine zR_iconst (x := (0 : Int32)) dX8_take_21 rfl ?_
      have h := Option.some.inj h
      subst h
      exact zR_iret (x := (0 : Int32)) dX8_take_22 rfl znar0
set_option maxRecDepth 100000 in
set_option maxHeartbeats 4000000 in
theorem wX3_putAll_5_b98 {w : zW} (F : Nat) (k2 : zV → zV → Int32 → Option (zV)) (hk2 : ∀ (V0 V1 V2 V3 V4 V5 V6 V7 : zV) (x1 : Int32) (res : zV), k2 V4 V5 x1 = some res → zR w kX3_putAll 1 0 0 none (zE zds w [V0, V1, V2, V3, V4, res, V6, V7]) 2 [(0, .ref (w.1 + 52)), (1, .int x1)] [] (zE zds w [V0, V1, V2, V3, V4, V5, V6, V7])) (V0 V1 V2 V3 V4 V5 V6 V7 : zV) (x1 : Int32) (res : zV) (h : fX3_putAll_b98 F k2 V4 V5 x1 = some res) : zR w kX3_putAll 1 0 0 none (zE zds w [V0, V1, V2, V3, V4, res, V6, V7]) 98 [(0, .ref (w.1 + 52)), (1, .int x1)] [] (zE zds w [V0, V1, V2, V3, V4, V5, V6, V7]) := by
  unfold fX3_putAll_b98 at h
  refine zR_iinc (u := (x1 + 1)) (lv' := [(0, .ref (w.1 + 52)), (1, .int (x1 + 1))]) dX3_putAll_98 1 rfl rfl (Nat.le_of_ble_eq_true rfl) rfl ?_
  refine zR_goto (tgt := 2) dX3_putAll_101 (by decide) ?_
  exact hk2 V0 V1 V2 V3 V4 V5 V6 V7 (x1 + 1) _ h
set_option maxRecDepth 100000 in
set_option maxHeartbeats 4000000 in
theorem wX3_putAll_5_b57 {w : zW} (F : Nat) (k2 : zV → zV → Int32 → Option (zV)) (hk2 : ∀ (V0 V1 V2 V3 V4 V5 V6 V7 : zV) (x1 : Int32) (res : zV), k2 V4 V5 x1 = some res → zR w kX3_putAll 1 0 0 none (zE zds w [V0, V1, V2, V3, V4, res, V6, V7]) 2 [(0, .ref (w.1 + 52)), (1, .int x1)] [] (zE zds w [V0, V1, V2, V3, V4, V5, V6, V7])) (V0 V1 V2 V3 V4 V5 V6 V7 : zV) (x1 : Int32) (x2 : Int32) (x3 : Int32) (x4 : Int32) (s0 : Int32) (s1 : Int32) (res : zV) (h : fX3_putAll_b57 F k2 V4 V5 x1 x2 x3 x4 s0 s1 = some res) : zR w kX3_putAll 1 0 0 none (zE zds w [V0, V1, V2, V3, V4, res, V6, V7]) 57 [(0, .ref (w.1 + 52)), (1, .int x1), (2, .int x2), (3, .int x3), (4, .int x4)] [.int s1, .int s0] (zE zds w [V0, V1, V2, V3, V4, V5, V6, V7]) := by
  unfold fX3_putAll_b57 at h
  refine zR_iadd dX3_putAll_57 ?_
  refine zR_istore (lv' := [(0, .ref (w.1 + 52)), (1, .int x1), (2, .int x2), (3, .int x3), (4, .int x4), (5, .int (s0 + s1))]) dX3_putAll_58 (Nat.le_of_ble_eq_true rfl) rfl ?_
  refine zR_iload_n dX3_putAll_60 2 rfl ?_
  refine zR_aload_n dX3_putAll_61 0 rfl ?_
  refine zG_getR dX3_putAll_62 zf_X3_27 zd_52 rfl rfl ?_
  refine zG_getR dX3_putAll_65 zf_X3_44 zd_15 rfl rfl ?_
  refine zR_iconst (x := (4 : Int32)) dX3_putAll_68 rfl ?_
  refine zG_iald dX3_putAll_69 zd_16 rfl rfl (show zix (4 : Int32) 27 from by decide) ?_
  by_cases c1 : (zA V4 1 ((4 : Int32)).toNatClampNeg) < x2
  · have h := zif_t h c1
    refine zR_icmp_gt_t (tgt := 98) dX3_putAll_70 (by decide) c1 ?_
    refine zR_sub (lv' := [(0, .ref (w.1 + 52)), (1, .int x1)]) [0, 1] rfl ?_
    exact wX3_putAll_5_b98 F k2 hk2 V0 V1 V2 V3 V4 V5 V6 V7 x1 _ h
  · have h := zif_f h c1
    refine zR_icmp_gt_f (tgt := 98) dX3_putAll_70 (by decide) c1 ?_
    refine zR_iload_n dX3_putAll_73 2 rfl ?_
    refine zR_iload_n dX3_putAll_74 3 rfl ?_
    by_cases c2 : x2 < x3
    · have h := zif_t h c2
      refine zR_icmp_lt_t (tgt := 98) dX3_putAll_75 (by decide) c2 ?_
      refine zR_sub (lv' := [(0, .ref (w.1 + 52)), (1, .int x1)]) [0, 1] rfl ?_
      exact wX3_putAll_5_b98 F k2 hk2 V0 V1 V2 V3 V4 V5 V6 V7 x1 _ h
    · have h := zif_f h c2
      refine zR_icmp_lt_f (tgt := 98) dX3_putAll_75 (by decide) c2 ?_
      refine zR_iload_n dX3_putAll_78 3 rfl ?_
      refine zR_iload dX3_putAll_79 4 rfl ?_
      by_cases c3 : x3 < x4
      · have h := zif_t h c3
        refine zR_icmp_lt_t (tgt := 98) dX3_putAll_81 (by decide) c3 ?_
        refine zR_sub (lv' := [(0, .ref (w.1 + 52)), (1, .int x1)]) [0, 1] rfl ?_
        exact wX3_putAll_5_b98 F k2 hk2 V0 V1 V2 V3 V4 V5 V6 V7 x1 _ h
      · have h := zif_f h c3
        refine zR_icmp_lt_f (tgt := 98) dX3_putAll_81 (by decide) c3 ?_
        refine zR_iload dX3_putAll_84 5 rfl ?_
        refine zR_aload_n dX3_putAll_86 0 rfl ?_
        refine zG_getI dX3_putAll_87 zf_X3_21 zd_52 rfl rfl ?_
        by_cases c4 : (s0 + s1) = (zI V5 14 7)
        · have h := zif_t h c4
          refine zR_icmp_ne_f (tgt := 98) dX3_putAll_90 (by decide) c4 ?_
          refine zR_aload_n dX3_putAll_93 0 rfl ?_
          refine zR_iload_n dX3_putAll_94 1 rfl ?_
          obtain ⟨q5, hq6, h⟩ := zbd_some h
          refine zR_cV (rest := []) (st1 := []) dX3_putAll_95 (mX3_put_5 F V0 V1 V2 V3 V4 V5 V6 V7 x1 _ hq6) zc_X3_49 rfl (zE_at zd_52) ⟨_, _, rfl⟩ rfl (Nat.le_of_ble_eq_true rfl) (Nat.le_of_ble_eq_true rfl) rfl ?_
          refine zR_sub (lv' := [(0, .ref (w.1 + 52)), (1, .int x1)]) [0, 1] rfl ?_
          exact wX3_putAll_5_b98 F k2 hk2 V0 V1 V2 V3 V4 q5 V6 V7 x1 _ h
        · have h := zif_f h c4
          refine zR_icmp_ne_t (tgt := 98) dX3_putAll_90 (by decide) c4 ?_
          refine zR_sub (lv' := [(0, .ref (w.1 + 52)), (1, .int x1)]) [0, 1] rfl ?_
          exact wX3_putAll_5_b98 F k2 hk2 V0 V1 V2 V3 V4 V5 V6 V7 x1 _ h
set_option maxRecDepth 100000 in
set_option maxHeartbeats 4000000 in
theorem wX3_putAll_5_b46 {w : zW} (F : Nat) (k2 : zV → zV → Int32 → Option (zV)) (hk2 : ∀ (V0 V1 V2 V3 V4 V5 V6 V7 : zV) (x1 : Int32) (res : zV), k2 V4 V5 x1 = some res → zR w kX3_putAll 1 0 0 none (zE zds w [V0, V1, V2, V3, V4, res, V6, V7]) 2 [(0, .ref (w.1 + 52)), (1, .int x1)] [] (zE zds w [V0, V1, V2, V3, V4, V5, V6, V7])) (V0 V1 V2 V3 V4 V5 V6 V7 : zV) (x1 : Int32) (x2 : Int32) (x3 : Int32) (x4 : Int32) (s0 : Int32) (s1 : Int32) (res : zV) (h : fX3_putAll_b46 F k2 V4 V5 x1 x2 x3 x4 s0 s1 = some res) : zR w kX3_putAll 1 0 0 none (zE zds w [V0, V1, V2, V3, V4, res, V6, V7]) 46 [(0, .ref (w.1 + 52)), (1, .int x1), (2, .int x2), (3, .int x3), (4, .int x4)] [.int s1, .int s0] (zE zds w [V0, V1, V2, V3, V4, V5, V6, V7]) := by
  unfold fX3_putAll_b46 at h
  refine zR_iadd dX3_putAll_46 ?_
  refine zR_iload dX3_putAll_47 4 rfl ?_
  by_cases c7 : x4 ≤ 0
  · have h := zif_t h c7
    refine zR_if_le_t (tgt := 56) dX3_putAll_49 (by decide) c7 ?_
    refine zR_iconst (x := (0 : Int32)) dX3_putAll_56 rfl ?_
    exact wX3_putAll_5_b57 F k2 hk2 V0 V1 V2 V3 V4 V5 V6 V7 x1 x2 x3 x4 (s0 + s1) (0 : Int32) _ h
  · have h := zif_f h c7
    refine zR_if_le_f (tgt := 56) dX3_putAll_49 (by decide) c7 ?_
    refine zR_iconst (x := (1 : Int32)) dX3_putAll_52 rfl ?_
    refine zR_goto (tgt := 57) dX3_putAll_53 (by decide) ?_
    exact wX3_putAll_5_b57 F k2 hk2 V0 V1 V2 V3 V4 V5 V6 V7 x1 x2 x3 x4 (s0 + s1) (1 : Int32) _ h
set_option maxRecDepth 100000 in
set_option maxHeartbeats 4000000 in
theorem wX3_putAll_5_b37 {w : zW} (F : Nat) (k2 : zV → zV → Int32 → Option (zV)) (hk2 : ∀ (V0 V1 V2 V3 V4 V5 V6 V7 : zV) (x1 : Int32) (res : zV), k2 V4 V5 x1 = some res → zR w kX3_putAll 1 0 0 none (zE zds w [V0, V1, V2, V3, V4, res, V6, V7]) 2 [(0, .ref (w.1 + 52)), (1, .int x1)] [] (zE zds w [V0, V1, V2, V3, V4, V5, V6, V7])) (V0 V1 V2 V3 V4 V5 V6 V7 : zV) (x1 : Int32) (x2 : Int32) (x3 : Int32) (x4 : Int32) (s0 : Int32) (res : zV) (h : fX3_putAll_b37 F k2 V4 V5 x1 x2 x3 x4 s0 = some res) : zR w kX3_putAll 1 0 0 none (zE zds w [V0, V1, V2, V3, V4, res, V6, V7]) 37 [(0, .ref (w.1 + 52)), (1, .int x1), (2, .int x2), (3, .int x3), (4, .int x4)] [.int s0] (zE zds w [V0, V1, V2, V3, V4, V5, V6, V7]) := by
  unfold fX3_putAll_b37 at h
  refine zR_iload_n dX3_putAll_37 3 rfl ?_
  by_cases c8 : x3 ≤ 0
  · have h := zif_t h c8
    refine zR_if_le_t (tgt := 45) dX3_putAll_38 (by decide) c8 ?_
    refine zR_iconst (x := (0 : Int32)) dX3_putAll_45 rfl ?_
    exact wX3_putAll_5_b46 F k2 hk2 V0 V1 V2 V3 V4 V5 V6 V7 x1 x2 x3 x4 s0 (0 : Int32) _ h
  · have h := zif_f h c8
    refine zR_if_le_f (tgt := 45) dX3_putAll_38 (by decide) c8 ?_
    refine zR_iconst (x := (1 : Int32)) dX3_putAll_41 rfl ?_
    refine zR_goto (tgt := 46) dX3_putAll_42 (by decide) ?_
    exact wX3_putAll_5_b46 F k2 hk2 V0 V1 V2 V3 V4 V5 V6 V7 x1 x2 x3 x4 s0 (1 : Int32) _ h
set_option maxRecDepth 100000 in
set_option maxHeartbeats 4000000 in
theorem wX3_putAll_5_l2 {w : zW} (F : Nat) : ∀ (n : Nat) (V0 V1 V2 V3 V4 V5 V6 V7 : zV) (x1 : Int32) (res : zV), fX3_putAll_l2 F n V4 V5 x1 = some res → zR w kX3_putAll 1 0 0 none (zE zds w [V0, V1, V2, V3, V4, res, V6, V7]) 2 [(0, .ref (w.1 + 52)), (1, .int x1)] [] (zE zds w [V0, V1, V2, V3, V4, V5, V6, V7]) := by
  intro n
  induction n with
  | zero =>
    intro V0 V1 V2 V3 V4 V5 V6 V7 x1 res h
    simp [fX3_putAll_l2] at h
  | succ n ih =>
    intro V0 V1 V2 V3 V4 V5 V6 V7 x1 res h
    rw [fX3_putAll_l2] at h
    refine zR_iload_n dX3_putAll_2 1 rfl ?_
    refine zR_sipush (x := (729 : Int32)) dX3_putAll_3 rfl ?_
    by_cases c9 : (729 : Int32) ≤ x1
    · have h := zif_t h c9
      refine zR_icmp_ge_t (tgt := 104) dX3_putAll_6 (by decide) c9 ?_
      have h := Option.some.inj h
      subst h
      exact zR_ret dX3_putAll_104 rfl
    · have h := zif_f h c9
      refine zR_icmp_ge_f (tgt := 104) dX3_putAll_6 (by decide) c9 ?_
      refine zR_iload_n dX3_putAll_9 1 rfl ?_
      refine zR_bipush (x := (81 : Int32)) dX3_putAll_10 rfl ?_
      refine zR_idiv dX3_putAll_12 (by decide) ?_
      obtain ⟨y10, e11, h⟩ := zlet_some h
      refine zR_nmI e11 ?_
      refine zR_istore_n (lv' := [(0, .ref (w.1 + 52)), (1, .int x1), (2, .int y10)]) dX3_putAll_13 (Nat.le_of_ble_eq_true rfl) rfl ?_
      refine zR_iload_n dX3_putAll_14 1 rfl ?_
      refine zR_bipush (x := (9 : Int32)) dX3_putAll_15 rfl ?_
      refine zR_idiv dX3_putAll_17 (by decide) ?_
      refine zR_bipush (x := (9 : Int32)) dX3_putAll_18 rfl ?_
      refine zR_irem dX3_putAll_20 (by decide) ?_
      obtain ⟨y12, e13, h⟩ := zlet_some h
      refine zR_nmI e13 ?_
      refine zR_istore_n (lv' := [(0, .ref (w.1 + 52)), (1, .int x1), (2, .int y10), (3, .int y12)]) dX3_putAll_21 (Nat.le_of_ble_eq_true rfl) rfl ?_
      refine zR_iload_n dX3_putAll_22 1 rfl ?_
      refine zR_bipush (x := (9 : Int32)) dX3_putAll_23 rfl ?_
      refine zR_irem dX3_putAll_25 (by decide) ?_
      obtain ⟨y14, e15, h⟩ := zlet_some h
      refine zR_nmI e15 ?_
      refine zR_istore (lv' := [(0, .ref (w.1 + 52)), (1, .int x1), (2, .int y10), (3, .int y12), (4, .int y14)]) dX3_putAll_26 (Nat.le_of_ble_eq_true rfl) rfl ?_
      refine zR_iload_n dX3_putAll_28 2 rfl ?_
      by_cases c16 : y10 ≤ 0
      · have h := zif_t h c16
        refine zR_if_le_t (tgt := 36) dX3_putAll_29 (by decide) c16 ?_
        refine zR_iconst (x := (0 : Int32)) dX3_putAll_36 rfl ?_
        exact wX3_putAll_5_b37 F (fX3_putAll_l2 F n) ih V0 V1 V2 V3 V4 V5 V6 V7 x1 y10 y12 y14 (0 : Int32) _ h
      · have h := zif_f h c16
        refine zR_if_le_f (tgt := 36) dX3_putAll_29 (by decide) c16 ?_
        refine zR_iconst (x := (1 : Int32)) dX3_putAll_32 rfl ?_
        refine zR_goto (tgt := 37) dX3_putAll_33 (by decide) ?_
        exact wX3_putAll_5_b37 F (fX3_putAll_l2 F n) ih V0 V1 V2 V3 V4 V5 V6 V7 x1 y10 y12 y14 (1 : Int32) _ h
set_option maxRecDepth 100000 in
set_option maxHeartbeats 4000000 in
theorem mX3_putAll_5 {w : zW} (F : Nat) (V0 V1 V2 V3 V4 V5 V6 V7 : zV) (res : zV) (h : fX3_putAll F V4 V5 = some res) : zMet w kX3_putAll 1 0 0 [.ref (w.1 + 52)] (zE zds w [V0, V1, V2, V3, V4, V5, V6, V7]) none (zE zds w [V0, V1, V2, V3, V4, res, V6, V7]) := by
  refine zMet_of (by decide) (Nat.le_of_ble_eq_true rfl) (Nat.le_refl 0) fun _ => ?_
  show zR w kX3_putAll 1 0 0 none (zE zds w [V0, V1, V2, V3, V4, res, V6, V7]) 0 [(0, .ref (w.1 + 52))] [] (zE zds w [V0, V1, V2, V3, V4, V5, V6, V7])
  unfold fX3_putAll at h
  refine zR_iconst (x := (0 : Int32)) dX3_putAll_0 rfl ?_
  refine zR_istore_n (lv' := [(0, .ref (w.1 + 52)), (1, .int (0 : Int32))]) dX3_putAll_1 (Nat.le_of_ble_eq_true rfl) rfl ?_
  exact wX3_putAll_5_l2 F F V0 V1 V2 V3 V4 V5 V6 V7 (0 : Int32) _ h
set_option maxRecDepth 100000 in
set_option maxHeartbeats 4000000 in
theorem wX3_moveBallBy_5_b115 {w : zW} (F : Nat) (V0 V1 V2 V3 V4 V5 V6 V7 : zV) (x2 : Int32) (res : zV) (h : fX3_moveBallBy_b115 F V4 V5 x2 = some res) : zR w kX3_moveBallBy 3 0 0 none (zE zds w [V0, V1, V2, V3, V4, res, V6, V7]) 115 [(0, .ref (w.1 + 52)), (2, .int x2)] [] (zE zds w [V0, V1, V2, V3, V4, V5, V6, V7]) := by
  unfold fX3_moveBallBy_b115 at h
  refine zR_iload_n dX3_moveBallBy_115 1 rfl ?_
  by_cases c1 : x2 = 0
  · have h := zif_t h c1
    refine zR_if_eq_t (tgt := 123) dX3_moveBallBy_116 (by decide) c1 ?_
    have h := Option.some.inj h
    subst h
    exact zR_ret dX3_moveBallBy_123 rfl
  · have h := zif_f h c1
    refine zR_if_eq_f (tgt := 123) dX3_moveBallBy_116 (by decide) c1 ?_
    refine zR_aload_n dX3_moveBallBy_119 0 rfl ?_
    obtain ⟨q2, hq3, h⟩ := zbd_some h
    refine zR_cV (rest := []) (st1 := []) dX3_moveBallBy_120 (mX3_spread_5 F V0 V1 V2 V3 V4 V5 V6 V7 _ hq3) zc_X3_57 rfl (zE_at zd_52) ⟨_, _, rfl⟩ rfl (Nat.le_of_ble_eq_true rfl) (Nat.le_of_ble_eq_true rfl) rfl ?_
    have h := Option.some.inj h
    subst h
    exact zR_ret dX3_moveBallBy_123 rfl
set_option maxRecDepth 100000 in
set_option maxHeartbeats 4000000 in
theorem wX3_moveBallBy_5_b87 {w : zW} (F : Nat) (V0 V1 V2 V3 V4 V5 V6 V7 : zV) (x2 : Int32) (res : zV) (h : fX3_moveBallBy_b87 F V4 V5 x2 = some res) : zR w kX3_moveBallBy 3 0 0 none (zE zds w [V0, V1, V2, V3, V4, res, V6, V7]) 87 [(0, .ref (w.1 + 52)), (2, .int x2)] [] (zE zds w [V0, V1, V2, V3, V4, V5, V6, V7]) := by
  unfold fX3_moveBallBy_b87 at h
  refine zR_iload_n dX3_moveBallBy_87 1 rfl ?_
  by_cases c4 : x2 = 0
  · have h := zif_t h c4
    refine zR_if_eq_t (tgt := 115) dX3_moveBallBy_88 (by decide) c4 ?_
    exact wX3_moveBallBy_5_b115 F V0 V1 V2 V3 V4 V5 V6 V7 x2 _ h
  · have h := zif_f h c4
    refine zR_if_eq_f (tgt := 115) dX3_moveBallBy_88 (by decide) c4 ?_
    refine zR_aload_n dX3_moveBallBy_91 0 rfl ?_
    refine zG_getI dX3_moveBallBy_92 zf_X3_15 zd_52 rfl rfl ?_
    by_cases c5 : (zI V5 14 5) = 0
    · have h := zif_t h c5
      refine zR_if_ne_f (tgt := 115) dX3_moveBallBy_95 (by decide) c5 ?_
      refine zR_aload_n dX3_moveBallBy_98 0 rfl ?_
      refine zR_dup dX3_moveBallBy_99 rfl ?_
      refine zG_getI dX3_moveBallBy_100 zf_X3_24 zd_52 rfl rfl ?_
      refine zR_iconst (x := (1 : Int32)) dX3_moveBallBy_103 rfl ?_
      refine zR_iadd dX3_moveBallBy_104 ?_
      obtain ⟨V5_6, e7, h⟩ := zlet_some h
      refine zG_putI zds_ok dX3_moveBallBy_105 zf_X3_24 zt_X3_8 zd_52 rfl rfl e7 rfl ?_
      refine zR_aload_n dX3_moveBallBy_108 0 rfl ?_
      obtain ⟨q8, hq9, h⟩ := zbd_some h
      refine zR_cV (rest := []) (st1 := []) dX3_moveBallBy_109 (mX3_putAll_5 F V0 V1 V2 V3 V4 V5_6 V6 V7 _ hq9) zc_X3_69 rfl (zE_at zd_52) ⟨_, _, rfl⟩ rfl (Nat.le_of_ble_eq_true rfl) (Nat.le_of_ble_eq_true rfl) rfl ?_
      refine zR_goto (tgt := 123) dX3_moveBallBy_112 (by decide) ?_
      have h := Option.some.inj h
      subst h
      exact zR_ret dX3_moveBallBy_123 rfl
    · have h := zif_f h c5
      refine zR_if_ne_t (tgt := 115) dX3_moveBallBy_95 (by decide) c5 ?_
      exact wX3_moveBallBy_5_b115 F V0 V1 V2 V3 V4 V5 V6 V7 x2 _ h
set_option maxRecDepth 100000 in
set_option maxHeartbeats 4000000 in
theorem wX3_moveBallBy_5_b81 {w : zW} (F : Nat) (k13 : zV → zV → Int32 → Int32 → Int32 → Option (zV)) (hk13 : ∀ (V0 V1 V2 V3 V4 V5 V6 V7 : zV) (x1 : Int32) (x2 : Int32) (x3 : Int32) (res : zV), k13 V4 V5 x1 x2 x3 = some res → zR w kX3_moveBallBy 3 0 0 none (zE zds w [V0, V1, V2, V3, V4, res, V6, V7]) 13 [(0, .ref (w.1 + 52)), (1, .int x1), (2, .int x2), (3, .int x3)] [] (zE zds w [V0, V1, V2, V3, V4, V5, V6, V7])) (V0 V1 V2 V3 V4 V5 V6 V7 : zV) (x1 : Int32) (x2 : Int32) (x3 : Int32) (res : zV) (h : fX3_moveBallBy_b81 F k13 V4 V5 x1 x2 x3 = some res) : zR w kX3_moveBallBy 3 0 0 none (zE zds w [V0, V1, V2, V3, V4, res, V6, V7]) 81 [(0, .ref (w.1 + 52)), (1, .int x1), (2, .int x2), (3, .int x3)] [] (zE zds w [V0, V1, V2, V3, V4, V5, V6, V7]) := by
  unfold fX3_moveBallBy_b81 at h
  refine zR_iinc (u := (x3 + 1)) (lv' := [(0, .ref (w.1 + 52)), (1, .int x1), (2, .int x2), (3, .int (x3 + 1))]) dX3_moveBallBy_81 3 rfl rfl (Nat.le_of_ble_eq_true rfl) rfl ?_
  refine zR_goto (tgt := 13) dX3_moveBallBy_84 (by decide) ?_
  exact hk13 V0 V1 V2 V3 V4 V5 V6 V7 x1 x2 (x3 + 1) _ h
set_option maxRecDepth 100000 in
set_option maxHeartbeats 4000000 in
theorem wX3_moveBallBy_5_b53 {w : zW} (F : Nat) (k13 : zV → zV → Int32 → Int32 → Int32 → Option (zV)) (hk13 : ∀ (V0 V1 V2 V3 V4 V5 V6 V7 : zV) (x1 : Int32) (x2 : Int32) (x3 : Int32) (res : zV), k13 V4 V5 x1 x2 x3 = some res → zR w kX3_moveBallBy 3 0 0 none (zE zds w [V0, V1, V2, V3, V4, res, V6, V7]) 13 [(0, .ref (w.1 + 52)), (1, .int x1), (2, .int x2), (3, .int x3)] [] (zE zds w [V0, V1, V2, V3, V4, V5, V6, V7])) (V0 V1 V2 V3 V4 V5 V6 V7 : zV) (x1 : Int32) (x3 : Int32) (res : zV) (h : fX3_moveBallBy_b53 F k13 V4 V5 x1 x3 = some res) : zR w kX3_moveBallBy 3 0 0 none (zE zds w [V0, V1, V2, V3, V4, res, V6, V7]) 53 [(0, .ref (w.1 + 52)), (1, .int x1), (3, .int x3)] [] (zE zds w [V0, V1, V2, V3, V4, V5, V6, V7]) := by
  unfold fX3_moveBallBy_b53 at h
  refine zR_iconst (x := (1 : Int32)) dX3_moveBallBy_53 rfl ?_
  refine zR_istore_n (lv' := [(0, .ref (w.1 + 52)), (1, .int x1), (3, .int x3), (2, .int (1 : Int32))]) dX3_moveBallBy_54 (Nat.le_of_ble_eq_true rfl) rfl ?_
  refine zR_aload_n dX3_moveBallBy_55 0 rfl ?_
  refine zR_aload_n dX3_moveBallBy_56 0 rfl ?_
  refine zG_getR dX3_moveBallBy_57 zf_X3_27 zd_52 rfl rfl ?_
  refine zG_getR dX3_moveBallBy_60 zf_X3_63 zd_15 rfl rfl ?_
  refine zR_iload_n dX3_moveBallBy_63 2 rfl ?_
  obtain ⟨g10, h⟩ := zchk_some h
  refine zG_iald dX3_moveBallBy_64 zd_21 rfl rfl g10 ?_
  refine zR_iconst (x := (1 : Int32)) dX3_moveBallBy_65 rfl ?_
  refine zR_iadd dX3_moveBallBy_66 ?_
  refine zR_aload_n dX3_moveBallBy_67 0 rfl ?_
  refine zG_getR dX3_moveBallBy_68 zf_X3_27 zd_52 rfl rfl ?_
  refine zG_getR dX3_moveBallBy_71 zf_X3_66 zd_15 rfl rfl ?_
  refine zR_iload_n dX3_moveBallBy_74 2 rfl ?_
  obtain ⟨g11, h⟩ := zchk_some h
  refine zG_iald dX3_moveBallBy_75 zd_22 rfl rfl g11 ?_
  refine zR_iconst (x := (1 : Int32)) dX3_moveBallBy_76 rfl ?_
  refine zR_iadd dX3_moveBallBy_77 ?_
  obtain ⟨q12, hq13, h⟩ := zbd_some h
  refine zR_cV (rest := []) (st1 := []) dX3_moveBallBy_78 (mX3_moveAll_5 F V0 V1 V2 V3 V4 V5 V6 V7 ((zA V4 6 (x3).toNatClampNeg) + (1 : Int32)) ((zA V4 7 (x3).toNatClampNeg) + (1 : Int32)) _ hq13) zc_X3_53 rfl (zE_at zd_52) ⟨_, _, rfl⟩ rfl (Nat.le_of_ble_eq_true rfl) (Nat.le_of_ble_eq_true rfl) rfl ?_
  refine zR_sub (lv' := [(0, .ref (w.1 + 52)), (1, .int x1), (2, .int (1 : Int32)), (3, .int x3)]) [0, 1, 3, 2] rfl ?_
  exact wX3_moveBallBy_5_b81 F k13 hk13 V0 V1 V2 V3 V4 q12 V6 V7 x1 (1 : Int32) x3 _ h
set_option maxRecDepth 100000 in
set_option maxHeartbeats 4000000 in
theorem wX3_moveBallBy_5_l13 {w : zW} (F : Nat) : ∀ (n : Nat) (V0 V1 V2 V3 V4 V5 V6 V7 : zV) (x1 : Int32) (x2 : Int32) (x3 : Int32) (res : zV), fX3_moveBallBy_l13 F n V4 V5 x1 x2 x3 = some res → zR w kX3_moveBallBy 3 0 0 none (zE zds w [V0, V1, V2, V3, V4, res, V6, V7]) 13 [(0, .ref (w.1 + 52)), (1, .int x1), (2, .int x2), (3, .int x3)] [] (zE zds w [V0, V1, V2, V3, V4, V5, V6, V7]) := by
  intro n
  induction n with
  | zero =>
    intro V0 V1 V2 V3 V4 V5 V6 V7 x1 x2 x3 res h
    simp [fX3_moveBallBy_l13] at h
  | succ n ih =>
    intro V0 V1 V2 V3 V4 V5 V6 V7 x1 x2 x3 res h
    rw [fX3_moveBallBy_l13] at h
    refine zR_iload_n dX3_moveBallBy_13 3 rfl ?_
    refine zR_aload_n dX3_moveBallBy_14 0 rfl ?_
    refine zG_getR dX3_moveBallBy_15 zf_X3_27 zd_52 rfl rfl ?_
    refine zG_getR dX3_moveBallBy_18 zf_X3_44 zd_15 rfl rfl ?_
    refine zR_iconst (x := (5 : Int32)) dX3_moveBallBy_21 rfl ?_
    refine zG_iald dX3_moveBallBy_22 zd_16 rfl rfl (show zix (5 : Int32) 27 from by decide) ?_
    by_cases c14 : (zA V4 1 ((5 : Int32)).toNatClampNeg) ≤ x3
    · have h := zif_t h c14
      refine zR_icmp_ge_t (tgt := 87) dX3_moveBallBy_23 (by decide) c14 ?_
      refine zR_sub (lv' := [(0, .ref (w.1 + 52)), (2, .int x2)]) [0, 2] rfl ?_
      exact wX3_moveBallBy_5_b87 F V0 V1 V2 V3 V4 V5 V6 V7 x2 _ h
    · have h := zif_f h c14
      refine zR_icmp_ge_f (tgt := 87) dX3_moveBallBy_23 (by decide) c14 ?_
      refine zR_iload_n dX3_moveBallBy_26 3 rfl ?_
      refine zR_bipush (x := (24 : Int32)) dX3_moveBallBy_27 rfl ?_
      by_cases c15 : (24 : Int32) ≤ x3
      · have h := zif_t h c15
        refine zR_icmp_ge_t (tgt := 87) dX3_moveBallBy_29 (by decide) c15 ?_
        refine zR_sub (lv' := [(0, .ref (w.1 + 52)), (2, .int x2)]) [0, 2] rfl ?_
        exact wX3_moveBallBy_5_b87 F V0 V1 V2 V3 V4 V5 V6 V7 x2 _ h
      · have h := zif_f h c15
        refine zR_icmp_ge_f (tgt := 87) dX3_moveBallBy_29 (by decide) c15 ?_
        refine zR_aload_n dX3_moveBallBy_32 0 rfl ?_
        refine zG_getR dX3_moveBallBy_33 zf_X3_27 zd_52 rfl rfl ?_
        refine zG_getR dX3_moveBallBy_36 zf_X3_60 zd_15 rfl rfl ?_
        refine zR_iload_n dX3_moveBallBy_39 3 rfl ?_
        obtain ⟨g16, h⟩ := zchk_some h
        refine zG_iald dX3_moveBallBy_40 zd_23 rfl rfl g16 ?_
        refine zR_iload_n dX3_moveBallBy_41 1 rfl ?_
        by_cases c17 : (zA V4 8 (x3).toNatClampNeg) = x1
        · have h := zif_t h c17
          refine zR_icmp_ne_f (tgt := 81) dX3_moveBallBy_42 (by decide) c17 ?_
          refine zR_iload_n dX3_moveBallBy_45 2 rfl ?_
          by_cases c18 : x2 = 0
          · have h := zif_t h c18
            refine zR_if_ne_f (tgt := 53) dX3_moveBallBy_46 (by decide) c18 ?_
            refine zR_aload_n dX3_moveBallBy_49 0 rfl ?_
            obtain ⟨q19, hq20, h⟩ := zbd_some h
            refine zR_cV (rest := []) (st1 := []) dX3_moveBallBy_50 (mX3_turnOver_5 F V0 V1 V2 V3 V4 V5 V6 V7 _ hq20) zc_X3_41 rfl (zE_at zd_52) ⟨_, _, rfl⟩ rfl (Nat.le_of_ble_eq_true rfl) (Nat.le_of_ble_eq_true rfl) rfl ?_
            refine zR_sub (lv' := [(0, .ref (w.1 + 52)), (1, .int x1), (3, .int x3)]) [0, 1, 3] rfl ?_
            exact wX3_moveBallBy_5_b53 F (fX3_moveBallBy_l13 F n) ih V0 V1 V2 V3 V4 q19 V6 V7 x1 x3 _ h
          · have h := zif_f h c18
            refine zR_if_ne_t (tgt := 53) dX3_moveBallBy_46 (by decide) c18 ?_
            refine zR_sub (lv' := [(0, .ref (w.1 + 52)), (1, .int x1), (3, .int x3)]) [0, 1, 3] rfl ?_
            exact wX3_moveBallBy_5_b53 F (fX3_moveBallBy_l13 F n) ih V0 V1 V2 V3 V4 V5 V6 V7 x1 x3 _ h
        · have h := zif_f h c17
          refine zR_icmp_ne_t (tgt := 81) dX3_moveBallBy_42 (by decide) c17 ?_
          exact wX3_moveBallBy_5_b81 F (fX3_moveBallBy_l13 F n) ih V0 V1 V2 V3 V4 V5 V6 V7 x1 x2 x3 _ h
set_option maxRecDepth 100000 in
set_option maxHeartbeats 4000000 in
theorem mX3_moveBallBy_5 {w : zW} (F : Nat) (V0 V1 V2 V3 V4 V5 V6 V7 : zV) (x1 : Int32) (res : zV) (h : fX3_moveBallBy F V4 V5 x1 = some res) : zMet w kX3_moveBallBy 3 0 0 [.ref (w.1 + 52), .int x1] (zE zds w [V0, V1, V2, V3, V4, V5, V6, V7]) none (zE zds w [V0, V1, V2, V3, V4, res, V6, V7]) := by
  refine zMet_of (by decide) (Nat.le_of_ble_eq_true rfl) (Nat.le_refl 0) fun _ => ?_
  show zR w kX3_moveBallBy 3 0 0 none (zE zds w [V0, V1, V2, V3, V4, res, V6, V7]) 0 [(0, .ref (w.1 + 52)), (1, .int x1)] [] (zE zds w [V0, V1, V2, V3, V4, V5, V6, V7])
  unfold fX3_moveBallBy at h
  refine zR_aload_n dX3_moveBallBy_0 0 rfl ?_
  refine zG_getP dX3_moveBallBy_1 zf_X3_31 zd_52 rfl rfl ?_
  obtain ⟨g21, h⟩ := zchk_some h
  have i22 : zds[38 + (zP V5 14 1)]? = some (.inr (0, 5, (zP V5 14 1), 1, 0)) := by rcases g21 with u | u <;> (rw [u]; rfl)
  refine zG_alen (u := (nI (zN V5 (zP V5 14 1)))) dX3_moveBallBy_4 i22 (Nat.le_of_ble_eq_true rfl) rfl rfl rfl ?_
  by_cases c23 : (nI (zN V5 (zP V5 14 1))) = 0
  · have h := zif_t h c23
    refine zR_if_ne_f (tgt := 9) dX3_moveBallBy_5 (by decide) c23 ?_
    have h := Option.some.inj h
    subst h
    exact zR_ret dX3_moveBallBy_8 rfl
  · have h := zif_f h c23
    refine zR_if_ne_t (tgt := 9) dX3_moveBallBy_5 (by decide) c23 ?_
    refine zR_iconst (x := (0 : Int32)) dX3_moveBallBy_9 rfl ?_
    refine zR_istore_n (lv' := [(0, .ref (w.1 + 52)), (1, .int x1), (2, .int (0 : Int32))]) dX3_moveBallBy_10 (Nat.le_of_ble_eq_true rfl) rfl ?_
    refine zR_iconst (x := (0 : Int32)) dX3_moveBallBy_11 rfl ?_
    refine zR_istore_n (lv' := [(0, .ref (w.1 + 52)), (1, .int x1), (2, .int (0 : Int32)), (3, .int (0 : Int32))]) dX3_moveBallBy_12 (Nat.le_of_ble_eq_true rfl) rfl ?_
    exact wX3_moveBallBy_5_l13 F F V0 V1 V2 V3 V4 V5 V6 V7 x1 (0 : Int32) (0 : Int32) _ h
set_option maxRecDepth 100000 in
set_option maxHeartbeats 4000000 in
theorem mX9_inOrder {w : zW} (F : Nat) (V0 V1 V2 V3 V4 V5 V6 V7 : zV) (x1 : Int32) (res : Int32) (h : fX9_inOrder F V4 x1 = some res) : zMet w kX9_inOrder 0 0 0 [.ref (w.1 + 15), .int x1] (zE zds w [V0, V1, V2, V3, V4, V5, V6, V7]) (some (.int res)) (zE zds w [V0, V1, V2, V3, V4, V5, V6, V7]) := by
  refine zMet_of (by decide) (Nat.le_of_ble_eq_true rfl) (Nat.le_refl 0) fun _ => ?_
  show zR w kX9_inOrder 0 0 0 (some (.int res)) (zE zds w [V0, V1, V2, V3, V4, V5, V6, V7]) 0 [(0, .ref (w.1 + 15)), (1, .int x1)] [] (zE zds w [V0, V1, V2, V3, V4, V5, V6, V7])
  unfold fX9_inOrder at h
  refine zR_iload_n dX9_inOrder_0 1 rfl ?_
  by_cases c1 : x1 < 0
  · have h := zif_t h c1
    refine zR_if_lt_t (tgt := 22) dX9_inOrder_1 (by decide) c1 ?_
    refine zR_iconst (x := (-1 : Int32)) dX9_inOrder_22 (by decide) ?_
    have h := Option.some.inj h
    subst h
    exact zR_iret (x := (-1 : Int32)) dX9_inOrder_23 rfl rfl
  · have h := zif_f h c1
    refine zR_if_lt_f (tgt := 22) dX9_inOrder_1 (by decide) c1 ?_
    refine zR_iload_n dX9_inOrder_4 1 rfl ?_
    refine zR_aload_n dX9_inOrder_5 0 rfl ?_
    refine zG_getR dX9_inOrder_6 zf_X9_45 zd_15 rfl rfl ?_
    refine zG_alen (u := (12 : Int32)) dX9_inOrder_9 zd_27 (Nat.le_of_ble_eq_true rfl) rfl rfl rfl ?_
    by_cases c2 : (12 : Int32) ≤ x1
    · have h := zif_t h c2
      refine zR_icmp_ge_t (tgt := 22) dX9_inOrder_10 (by decide) c2 ?_
      refine zR_iconst (x := (-1 : Int32)) dX9_inOrder_22 (by decide) ?_
      have h := Option.some.inj h
      subst h
      exact zR_iret (x := (-1 : Int32)) dX9_inOrder_23 rfl rfl
    · have h := zif_f h c2
      refine zR_icmp_ge_f (tgt := 22) dX9_inOrder_10 (by decide) c2 ?_
      refine zR_aload_n dX9_inOrder_13 0 rfl ?_
      refine zG_getR dX9_inOrder_14 zf_X9_45 zd_15 rfl rfl ?_
      refine zR_iload_n dX9_inOrder_17 1 rfl ?_
      obtain ⟨g3, h⟩ := zchk_some h
      refine zG_iald dX9_inOrder_18 zd_27 rfl rfl g3 ?_
      refine zR_goto (tgt := 23) dX9_inOrder_19 (by decide) ?_
      have h := Option.some.inj h
      subst h
      exact zR_iret (x := (zA V4 12 (x1).toNatClampNeg)) dX9_inOrder_23 rfl rfl
set_option maxRecDepth 100000 in
set_option maxHeartbeats 4000000 in
theorem mX4_isOnSinceThen_5 {w : zW} (F : Nat) (V0 V1 V2 V3 V4 V5 V6 V7 : zV) (x1 : Int32) (res : Int32) (h : fX4_isOnSinceThen F V5 x1 = some res) : zMet w kX4_isOnSinceThen 0 0 0 [.ref (w.1 + 56), .int x1] (zE zds w [V0, V1, V2, V3, V4, V5, V6, V7]) (some (.int res)) (zE zds w [V0, V1, V2, V3, V4, V5, V6, V7]) := by
  refine zMet_of (by decide) (Nat.le_of_ble_eq_true rfl) (Nat.le_refl 0) fun _ => ?_
  show zR w kX4_isOnSinceThen 0 0 0 (some (.int res)) (zE zds w [V0, V1, V2, V3, V4, V5, V6, V7]) 0 [(0, .ref (w.1 + 56)), (1, .int x1)] [] (zE zds w [V0, V1, V2, V3, V4, V5, V6, V7])
  unfold fX4_isOnSinceThen at h
  refine zR_iload_n dX4_isOnSinceThen_0 1 rfl ?_
  by_cases c1 : x1 < 0
  · have h := zif_t h c1
    refine zR_if_lt_t (tgt := 32) dX4_isOnSinceThen_1 (by decide) c1 ?_
    refine zR_iconst (x := (0 : Int32)) dX4_isOnSinceThen_32 rfl ?_
    have h := Option.some.inj h
    subst h
    exact zR_iret (x := (0 : Int32)) dX4_isOnSinceThen_33 rfl znar0
  · have h := zif_f h c1
    refine zR_if_lt_f (tgt := 32) dX4_isOnSinceThen_1 (by decide) c1 ?_
    refine zR_iload_n dX4_isOnSinceThen_4 1 rfl ?_
    refine zR_aload_n dX4_isOnSinceThen_5 0 rfl ?_
    refine zG_getR dX4_isOnSinceThen_6 zf_X4_25 zd_56 rfl rfl ?_
    refine zG_alen (u := (12 : Int32)) dX4_isOnSinceThen_9 zd_61 (Nat.le_of_ble_eq_true rfl) rfl rfl rfl ?_
    by_cases c2 : (12 : Int32) ≤ x1
    · have h := zif_t h c2
      refine zR_icmp_ge_t (tgt := 32) dX4_isOnSinceThen_10 (by decide) c2 ?_
      refine zR_iconst (x := (0 : Int32)) dX4_isOnSinceThen_32 rfl ?_
      have h := Option.some.inj h
      subst h
      exact zR_iret (x := (0 : Int32)) dX4_isOnSinceThen_33 rfl znar0
    · have h := zif_f h c2
      refine zR_icmp_ge_f (tgt := 32) dX4_isOnSinceThen_10 (by decide) c2 ?_
      refine zR_aload_n dX4_isOnSinceThen_13 0 rfl ?_
      refine zG_getR dX4_isOnSinceThen_14 zf_X4_25 zd_56 rfl rfl ?_
      refine zR_iload_n dX4_isOnSinceThen_17 1 rfl ?_
      obtain ⟨g3, h⟩ := zchk_some h
      refine zG_iald dX4_isOnSinceThen_18 zd_61 rfl rfl g3 ?_
      refine zR_aload_n dX4_isOnSinceThen_19 0 rfl ?_
      refine zG_getR dX4_isOnSinceThen_20 zf_X4_22 zd_56 rfl rfl ?_
      refine zR_iload_n dX4_isOnSinceThen_23 1 rfl ?_
      obtain ⟨g4, h⟩ := zchk_some h
      refine zG_iald dX4_isOnSinceThen_24 zd_60 rfl rfl g4 ?_
      by_cases c5 : (zA V5 23 (x1).toNatClampNeg) = (zA V5 22 (x1).toNatClampNeg)
      · have h := zif_t h c5
        refine zR_icmp_ne_f (tgt := 32) dX4_isOnSinceThen_25 (by decide) c5 ?_
        refine zR_iconst (x := (1 : Int32)) dX4_isOnSinceThen_28 rfl ?_
        refine zR_goto (tgt := 33) dX4_isOnSinceThen_29 (by decide) ?_
        have h := Option.some.inj h
        subst h
        exact zR_iret (x := (1 : Int32)) dX4_isOnSinceThen_33 rfl znar1
      · have h := zif_f h c5
        refine zR_icmp_ne_t (tgt := 32) dX4_isOnSinceThen_25 (by decide) c5 ?_
        refine zR_iconst (x := (0 : Int32)) dX4_isOnSinceThen_32 rfl ?_
        have h := Option.some.inj h
        subst h
        exact zR_iret (x := (0 : Int32)) dX4_isOnSinceThen_33 rfl znar0
set_option maxRecDepth 100000 in
set_option maxHeartbeats 4000000 in
theorem wX1_hit_5_b89 {w : zW} (F : Nat) (V0 V1 V2 V3 V4 V5 V6 V7 : zV) (res : Int32 × zV) (h : fX1_hit_b89 F V4 V5 = some res) : zR w kX1_hit 25 0 0 (some (.int res.1)) (zE zds w [V0, V1, V2, V3, V4, res.2, V6, V7]) 89 [(0, .ref (w.1 + 38))] [] (zE zds w [V0, V1, V2, V3, V4, V5, V6, V7]) := by
  unfold fX1_hit_b89 at h
  refine zR_aload_n dX1_hit_89 0 rfl ?_
  obtain ⟨q1, hq2, h⟩ := zbd_some h
  refine zR_cV (rest := []) (st1 := []) dX1_hit_90 (mX1_endBallIfNoneInPlay_5 F V0 V1 V2 V3 V4 V5 V6 V7 _ hq2) zc_X1_114 rfl (zE_at zd_38) ⟨_, _, rfl⟩ rfl (Nat.le_of_ble_eq_true rfl) (Nat.le_of_ble_eq_true rfl) rfl ?_
  refine zR_iconst (x := (1 : Int32)) dX1_hit_93 rfl ?_
  have h := Option.some.inj h
  subst h
  exact zR_iret (x := (1 : Int32)) dX1_hit_94 rfl znar1
set_option maxRecDepth 100000 in
set_option maxHeartbeats 4000000 in
theorem wX1_hit_5_b83 {w : zW} (F : Nat) (k35 : zV → zV → Int32 → Int32 → Option (Int32 × zV)) (hk35 : ∀ (V0 V1 V2 V3 V4 V5 V6 V7 : zV) (x1 : Int32) (x2 : Int32) (res : Int32 × zV), k35 V4 V5 x1 x2 = some res → zR w kX1_hit 25 0 0 (some (.int res.1)) (zE zds w [V0, V1, V2, V3, V4, res.2, V6, V7]) 35 [(0, .ref (w.1 + 38)), (1, .int x1), (2, .int x2)] [] (zE zds w [V0, V1, V2, V3, V4, V5, V6, V7])) (V0 V1 V2 V3 V4 V5 V6 V7 : zV) (x1 : Int32) (x2 : Int32) (res : Int32 × zV) (h : fX1_hit_b83 F k35 V4 V5 x1 x2 = some res) : zR w kX1_hit 25 0 0 (some (.int res.1)) (zE zds w [V0, V1, V2, V3, V4, res.2, V6, V7]) 83 [(0, .ref (w.1 + 38)), (1, .int x1), (2, .int x2)] [] (zE zds w [V0, V1, V2, V3, V4, V5, V6, V7]) := by
  unfold fX1_hit_b83 at h
  refine zR_iinc (u := (x2 + 1)) (lv' := [(0, .ref (w.1 + 38)), (1, .int x1), (2, .int (x2 + 1))]) dX1_hit_83 2 rfl rfl (Nat.le_of_ble_eq_true rfl) rfl ?_
  refine zR_goto (tgt := 35) dX1_hit_86 (by decide) ?_
  exact hk35 V0 V1 V2 V3 V4 V5 V6 V7 x1 (x2 + 1) _ h
set_option maxRecDepth 100000 in
set_option maxHeartbeats 4000000 in
theorem wX1_hit_5_l35 {w : zW} (F : Nat) : ∀ (n : Nat) (V0 V1 V2 V3 V4 V5 V6 V7 : zV) (x1 : Int32) (x2 : Int32) (res : Int32 × zV), fX1_hit_l35 F n V4 V5 x1 x2 = some res → zR w kX1_hit 25 0 0 (some (.int res.1)) (zE zds w [V0, V1, V2, V3, V4, res.2, V6, V7]) 35 [(0, .ref (w.1 + 38)), (1, .int x1), (2, .int x2)] [] (zE zds w [V0, V1, V2, V3, V4, V5, V6, V7]) := by
  intro n
  induction n with
  | zero =>
    intro V0 V1 V2 V3 V4 V5 V6 V7 x1 x2 res h
    simp [fX1_hit_l35] at h
  | succ n ih =>
    intro V0 V1 V2 V3 V4 V5 V6 V7 x1 x2 res h
    rw [fX1_hit_l35] at h
    refine zR_iload_n dX1_hit_35 2 rfl ?_
    refine zR_aload_n dX1_hit_36 0 rfl ?_
    refine zG_getR dX1_hit_37 zf_X1_39 zd_38 rfl rfl ?_
    refine zG_getR dX1_hit_40 zf_X1_125 zd_15 rfl rfl ?_
    refine zR_bipush (x := (7 : Int32)) dX1_hit_43 rfl ?_
    refine zG_iald dX1_hit_45 zd_16 rfl rfl (show zix (7 : Int32) 27 from by decide) ?_
    by_cases c3 : (zA V4 1 ((7 : Int32)).toNatClampNeg) ≤ x2
    · have h := zif_t h c3
      refine zR_icmp_ge_t (tgt := 89) dX1_hit_46 (by decide) c3 ?_
      refine zR_sub (lv' := [(0, .ref (w.1 + 38))]) [0] rfl ?_
      exact wX1_hit_5_b89 F V0 V1 V2 V3 V4 V5 V6 V7 _ h
    · have h := zif_f h c3
      refine zR_icmp_ge_f (tgt := 89) dX1_hit_46 (by decide) c3 ?_
      refine zR_aload_n dX1_hit_49 0 rfl ?_
      refine zG_getI dX1_hit_50 zf_X1_36 zd_38 rfl rfl ?_
      by_cases c4 : (zI V5 0 14) = 0
      · have h := zif_t h c4
        refine zR_if_ne_f (tgt := 89) dX1_hit_53 (by decide) c4 ?_
        refine zR_aload_n dX1_hit_56 0 rfl ?_
        refine zG_getR dX1_hit_57 zf_X1_39 zd_38 rfl rfl ?_
        refine zR_iload_n dX1_hit_60 2 rfl ?_
        obtain ⟨q5, hq6, h⟩ := zbd_some h
        refine zR_cV (rest := []) (st1 := [.int q5]) dX1_hit_61 (mX9_inOrder F V0 V1 V2 V3 V4 V5 V6 V7 x2 _ hq6) zc_X1_128 rfl (zE_at zd_15) ⟨_, _, rfl⟩ rfl (Nat.le_of_ble_eq_true rfl) (Nat.le_of_ble_eq_true rfl) rfl ?_
        refine zR_istore_n (lv' := [(0, .ref (w.1 + 38)), (1, .int x1), (2, .int x2), (3, .int q5)]) dX1_hit_64 (Nat.le_of_ble_eq_true rfl) rfl ?_
        refine zR_aload_n dX1_hit_65 0 rfl ?_
        refine zG_getR dX1_hit_66 zf_X1_87 zd_38 rfl rfl ?_
        refine zR_iload_n dX1_hit_69 3 rfl ?_
        obtain ⟨q7, hq8, h⟩ := zbd_some h
        refine zR_cV (rest := []) (st1 := [.int q7]) dX1_hit_70 (mX4_isOnSinceThen_5 F V0 V1 V2 V3 V4 V5 V6 V7 q5 _ hq8) zc_X1_132 rfl (zE_at zd_56) ⟨_, _, rfl⟩ rfl (Nat.le_of_ble_eq_true rfl) (Nat.le_of_ble_eq_true rfl) rfl ?_
        by_cases c9 : q7 = 0
        · have h := zif_t h c9
          refine zR_if_eq_t (tgt := 83) dX1_hit_73 (by decide) c9 ?_
          refine zR_sub (lv' := [(0, .ref (w.1 + 38)), (1, .int x1), (2, .int x2)]) [0, 1, 2] rfl ?_
          exact wX1_hit_5_b83 F (fX1_hit_l35 F n) ih V0 V1 V2 V3 V4 V5 V6 V7 x1 x2 _ h
        · have h := zif_f h c9
          refine zR_if_eq_f (tgt := 83) dX1_hit_73 (by decide) c9 ?_
          refine zR_aload_n dX1_hit_76 0 rfl ?_
          refine zR_iload_n dX1_hit_77 3 rfl ?_
          refine zR_iload_n dX1_hit_78 1 rfl ?_
          refine zR_iconst (x := (0 : Int32)) dX1_hit_79 rfl ?_
          obtain ⟨q10, hq11, h⟩ := zbd_some h
          refine zR_cV (rest := []) (st1 := []) dX1_hit_80 (mX1_doRules_5 F V0 V1 V2 V3 V4 V5 V6 V7 q5 x1 (0 : Int32) _ hq11) zc_X1_110 rfl (zE_at zd_38) ⟨_, _, rfl⟩ rfl (Nat.le_of_ble_eq_true rfl) (Nat.le_of_ble_eq_true rfl) rfl ?_
          refine zR_sub (lv' := [(0, .ref (w.1 + 38)), (1, .int x1), (2, .int x2)]) [0, 1, 2] rfl ?_
          exact wX1_hit_5_b83 F (fX1_hit_l35 F n) ih V0 V1 V2 V3 V4 q10 V6 V7 x1 x2 _ h
      · have h := zif_f h c4
        refine zR_if_ne_t (tgt := 89) dX1_hit_53 (by decide) c4 ?_
        refine zR_sub (lv' := [(0, .ref (w.1 + 38))]) [0] rfl ?_
        exact wX1_hit_5_b89 F V0 V1 V2 V3 V4 V5 V6 V7 _ h
set_option maxRecDepth 100000 in
set_option maxHeartbeats 4000000 in
theorem mX1_hit_5 {w : zW} (F : Nat) (V0 V1 V2 V3 V4 V5 V6 V7 : zV) (x1 : Int32) (res : Int32 × zV) (h : fX1_hit F V4 V5 x1 = some res) : zMet w kX1_hit 25 0 0 [.ref (w.1 + 38), .int x1] (zE zds w [V0, V1, V2, V3, V4, V5, V6, V7]) (some (.int res.1)) (zE zds w [V0, V1, V2, V3, V4, res.2, V6, V7]) := by
  refine zMet_of (by decide) (Nat.le_of_ble_eq_true rfl) (Nat.le_refl 0) fun _ => ?_
  show zR w kX1_hit 25 0 0 (some (.int res.1)) (zE zds w [V0, V1, V2, V3, V4, res.2, V6, V7]) 0 [(0, .ref (w.1 + 38)), (1, .int x1)] [] (zE zds w [V0, V1, V2, V3, V4, V5, V6, V7])
  unfold fX1_hit at h
  refine zR_aload_n dX1_hit_0 0 rfl ?_
  refine zG_getR dX1_hit_1 zf_X1_64 zd_38 rfl rfl ?_
  refine zR_iload_n dX1_hit_4 1 rfl ?_
  refine zR_aload_n dX1_hit_5 0 rfl ?_
  refine zG_getI dX1_hit_6 zf_X1_23 zd_38 rfl rfl ?_
  refine zR_aload_n dX1_hit_9 0 rfl ?_
  refine zG_getI dX1_hit_10 zf_X1_19 zd_38 rfl rfl ?_
  obtain ⟨q12, hq13, h⟩ := zbd_some h
  refine zR_cV (rest := []) (st1 := [.int q12.1]) dX1_hit_13 (mX8_take_5 F V0 V1 V2 V3 V4 V5 V6 V7 x1 (zI V5 0 10) (zI V5 0 9) _ hq13) zc_X1_117 rfl (zE_at zd_43) ⟨_, _, rfl⟩ rfl (Nat.le_of_ble_eq_true rfl) (Nat.le_of_ble_eq_true rfl) rfl ?_
  by_cases c14 : q12.1 = 0
  · have h := zif_t h c14
    refine zR_if_ne_f (tgt := 21) dX1_hit_16 (by decide) c14 ?_
    refine zR_iconst (x := (0 : Int32)) dX1_hit_19 rfl ?_
    have h := Option.some.inj h
    subst h
    exact zR_iret (x := (0 : Int32)) dX1_hit_20 rfl znar0
  · have h := zif_f h c14
    refine zR_if_ne_t (tgt := 21) dX1_hit_16 (by decide) c14 ?_
    refine zR_aload_n dX1_hit_21 0 rfl ?_
    refine zG_getR dX1_hit_22 zf_X1_80 zd_38 rfl rfl ?_
    refine zR_iload_n dX1_hit_25 1 rfl ?_
    obtain ⟨q15, hq16, h⟩ := zbd_some h
    refine zR_cV (rest := []) (st1 := []) dX1_hit_26 (mX3_moveBallBy_5 F V0 V1 V2 V3 V4 q12.2 V6 V7 x1 _ hq16) zc_X1_121 rfl (zE_at zd_52) ⟨_, _, rfl⟩ rfl (Nat.le_of_ble_eq_true rfl) (Nat.le_of_ble_eq_true rfl) rfl ?_
    refine zR_aload_n dX1_hit_29 0 rfl ?_
    obtain ⟨q17, hq18, h⟩ := zbd_some h
    refine zR_cV (rest := []) (st1 := []) dX1_hit_30 (mX1_beginActs_5 F V0 V1 V2 V3 V4 q15 V6 V7 _ hq18) zc_X1_103 rfl (zE_at zd_38) ⟨_, _, rfl⟩ rfl (Nat.le_of_ble_eq_true rfl) (Nat.le_of_ble_eq_true rfl) rfl ?_
    refine zR_iconst (x := (0 : Int32)) dX1_hit_33 rfl ?_
    refine zR_istore_n (lv' := [(0, .ref (w.1 + 38)), (1, .int x1), (2, .int (0 : Int32))]) dX1_hit_34 (Nat.le_of_ble_eq_true rfl) rfl ?_
    exact wX1_hit_5_l35 F F V0 V1 V2 V3 V4 q17 V6 V7 x1 (0 : Int32) _ h
set_option maxRecDepth 100000 in
set_option maxHeartbeats 4000000 in
theorem mX11_press {w : zW} (F : Nat) (V0 V1 V2 V3 V4 V5 V6 V7 : zV) (x1 : Int32) (res : Int32 × zV × zV) (h : fX11_press F V0 V4 V5 x1 = some res) : zMet w kX11_press 26 0 0 [.ref (w.1 + 0), .int x1] (zE zds w [V0, V1, V2, V3, V4, V5, V6, V7]) (some (.int res.1)) (zE zds w [res.2.1, V1, V2, V3, V4, res.2.2, V6, V7]) := by
  refine zMet_of (by decide) (Nat.le_of_ble_eq_true rfl) (Nat.le_refl 0) fun _ => ?_
  show zR w kX11_press 26 0 0 (some (.int res.1)) (zE zds w [res.2.1, V1, V2, V3, V4, res.2.2, V6, V7]) 0 [(0, .ref (w.1 + 0)), (1, .int x1)] [] (zE zds w [V0, V1, V2, V3, V4, V5, V6, V7])
  unfold fX11_press at h
  refine zR_aload_n dX11_press_0 0 rfl ?_
  refine zG_getI dX11_press_1 zf_X11_63 zd_0 rfl rfl ?_
  by_cases c1 : (zI V0 0 9) = 0
  · have h := zif_t h c1
    refine zR_if_eq_t (tgt := 29) dX11_press_4 (by decide) c1 ?_
    refine zR_iconst (x := (-1 : Int32)) dX11_press_29 (by decide) ?_
    have h := Option.some.inj h
    subst h
    exact zR_iret (x := (-1 : Int32)) dX11_press_30 rfl rfl
  · have h := zif_f h c1
    refine zR_if_eq_f (tgt := 29) dX11_press_4 (by decide) c1 ?_
    refine zR_aload_n dX11_press_7 0 rfl ?_
    refine zG_getR dX11_press_8 zf_X11_46 zd_0 rfl rfl ?_
    refine zR_iconst (x := (0 : Int32)) dX11_press_11 rfl ?_
    refine zR_iload_n dX11_press_12 1 rfl ?_
    obtain ⟨q2, hq3, h⟩ := zbd_some h
    refine zR_cV (rest := []) (st1 := [.int q2]) dX11_press_13 (mX9_has F V0 V1 V2 V3 V4 V5 V6 V7 (0 : Int32) x1 _ hq3) zc_X11_101 rfl (zE_at zd_15) ⟨_, _, rfl⟩ rfl (Nat.le_of_ble_eq_true rfl) (Nat.le_of_ble_eq_true rfl) rfl ?_
    by_cases c4 : q2 = 0
    · have h := zif_t h c4
      refine zR_if_eq_t (tgt := 29) dX11_press_16 (by decide) c4 ?_
      refine zR_iconst (x := (-1 : Int32)) dX11_press_29 (by decide) ?_
      have h := Option.some.inj h
      subst h
      exact zR_iret (x := (-1 : Int32)) dX11_press_30 rfl rfl
    · have h := zif_f h c4
      refine zR_if_eq_f (tgt := 29) dX11_press_16 (by decide) c4 ?_
      refine zR_aload_n dX11_press_19 0 rfl ?_
      refine zG_getI dX11_press_20 zf_X11_73 zd_0 rfl rfl ?_
      refine zR_sipush (x := (600 : Int32)) dX11_press_23 rfl ?_
      by_cases c5 : (zI V0 0 12) < (600 : Int32)
      · have h := zif_t h c5
        refine zR_icmp_lt_t (tgt := 31) dX11_press_26 (by decide) c5 ?_
        refine zR_aload_n dX11_press_31 0 rfl ?_
        refine zG_getR dX11_press_32 zf_X11_66 zd_0 rfl rfl ?_
        refine zR_aload_n dX11_press_35 0 rfl ?_
        refine zG_getI dX11_press_36 zf_X11_73 zd_0 rfl rfl ?_
        refine zR_iload_n dX11_press_39 1 rfl ?_
        obtain ⟨g6, h⟩ := zchk_some h
        obtain ⟨V0_7, e8, h⟩ := zlet_some h
        refine zG_iast zds_ok dX11_press_40 zd_62 rfl rfl g6 e8 rfl ?_
        refine zR_aload_n dX11_press_41 0 rfl ?_
        refine zG_getR dX11_press_42 zf_X11_70 zd_0 rfl rfl ?_
        refine zR_aload_n dX11_press_45 0 rfl ?_
        refine zG_getI dX11_press_46 zf_X11_73 zd_0 rfl rfl ?_
        refine zR_aload_n dX11_press_49 0 rfl ?_
        refine zG_getR dX11_press_50 zf_X11_59 zd_0 rfl rfl ?_
        refine zG_getI dX11_press_53 zf_X11_105 zd_38 rfl rfl ?_
        obtain ⟨g9, h⟩ := zchk_some h
        obtain ⟨V0_10, e11, h⟩ := zlet_some h
        refine zG_iast zds_ok dX11_press_56 zd_63 rfl rfl g9 e11 rfl ?_
        refine zR_aload_n dX11_press_57 0 rfl ?_
        refine zR_dup dX11_press_58 rfl ?_
        refine zG_getI dX11_press_59 zf_X11_73 zd_0 rfl rfl ?_
        refine zR_iconst (x := (1 : Int32)) dX11_press_62 rfl ?_
        refine zR_iadd dX11_press_63 ?_
        obtain ⟨V0_12, e13, h⟩ := zlet_some h
        refine zG_putI zds_ok dX11_press_64 zf_X11_73 zt_X11_12 zd_0 rfl rfl e13 rfl ?_
        refine zR_aload_n dX11_press_67 0 rfl ?_
        refine zG_getR dX11_press_68 zf_X11_59 zd_0 rfl rfl ?_
        refine zR_iload_n dX11_press_71 1 rfl ?_
        obtain ⟨q14, hq15, h⟩ := zbd_some h
        refine zR_cV (rest := []) (st1 := [.int q14.1]) dX11_press_72 (mX1_hit_5 F V0_12 V1 V2 V3 V4 V5 V6 V7 x1 _ hq15) zc_X11_108 rfl (zE_at zd_38) ⟨_, _, rfl⟩ rfl (Nat.le_of_ble_eq_true rfl) (Nat.le_of_ble_eq_true rfl) rfl ?_
        by_cases c16 : q14.1 = 0
        · have h := zif_t h c16
          refine zR_if_eq_t (tgt := 82) dX11_press_75 (by decide) c16 ?_
          refine zR_iconst (x := (0 : Int32)) dX11_press_82 rfl ?_
          have h := Option.some.inj h
          subst h
          exact zR_iret (x := (0 : Int32)) dX11_press_83 rfl rfl
        · have h := zif_f h c16
          refine zR_if_eq_f (tgt := 82) dX11_press_75 (by decide) c16 ?_
          refine zR_iconst (x := (1 : Int32)) dX11_press_78 rfl ?_
          refine zR_goto (tgt := 83) dX11_press_79 (by decide) ?_
          have h := Option.some.inj h
          subst h
          exact zR_iret (x := (1 : Int32)) dX11_press_83 rfl rfl
      · have h := zif_f h c5
        refine zR_icmp_lt_f (tgt := 31) dX11_press_26 (by decide) c5 ?_
        refine zR_iconst (x := (-1 : Int32)) dX11_press_29 (by decide) ?_
        have h := Option.some.inj h
        subst h
        exact zR_iret (x := (-1 : Int32)) dX11_press_30 rfl rfl
set_option maxRecDepth 100000 in
set_option maxHeartbeats 4000000 in
theorem mX4_passTimeOf_5 {w : zW} (F : Nat) (V0 V1 V2 V3 V4 V5 V6 V7 : zV) (x1 : Int32) (res : Int32 × zV) (h : fX4_passTimeOf F V4 V5 x1 = some res) : zMet w kX4_passTimeOf 1 0 0 [.ref (w.1 + 56), .int x1] (zE zds w [V0, V1, V2, V3, V4, V5, V6, V7]) (some (.int res.1)) (zE zds w [V0, V1, V2, V3, V4, res.2, V6, V7]) := by
  refine zMet_of (by decide) (Nat.le_of_ble_eq_true rfl) (Nat.le_refl 0) fun _ => ?_
  show zR w kX4_passTimeOf 1 0 0 (some (.int res.1)) (zE zds w [V0, V1, V2, V3, V4, res.2, V6, V7]) 0 [(0, .ref (w.1 + 56)), (1, .int x1)] [] (zE zds w [V0, V1, V2, V3, V4, V5, V6, V7])
  unfold fX4_passTimeOf at h
  refine zR_aload_n dX4_passTimeOf_0 0 rfl ?_
  refine zR_iload_n dX4_passTimeOf_1 1 rfl ?_
  obtain ⟨q1, hq2, h⟩ := zbd_some h
  refine zR_cV (rest := []) (st1 := [.int q1]) dX4_passTimeOf_2 (mX4_isOnSinceThen_5 F V0 V1 V2 V3 V4 V5 V6 V7 x1 _ hq2) zc_X4_55 rfl (zE_at zd_56) ⟨_, _, rfl⟩ rfl (Nat.le_of_ble_eq_true rfl) (Nat.le_of_ble_eq_true rfl) rfl ?_
  by_cases c3 : q1 = 0
  · have h := zif_t h c3
    refine zR_if_eq_t (tgt := 20) dX4_passTimeOf_5 (by decide) c3 ?_
    refine zR_iconst (x := (0 : Int32)) dX4_passTimeOf_20 rfl ?_
    have h := Option.some.inj h
    subst h
    exact zR_iret (x := (0 : Int32)) dX4_passTimeOf_21 rfl znar0
  · have h := zif_f h c3
    refine zR_if_eq_f (tgt := 20) dX4_passTimeOf_5 (by decide) c3 ?_
    refine zR_aload_n dX4_passTimeOf_8 0 rfl ?_
    refine zG_getR dX4_passTimeOf_9 zf_X4_32 zd_56 rfl rfl ?_
    refine zG_getR dX4_passTimeOf_12 zf_X4_45 zd_15 rfl rfl ?_
    refine zR_iload_n dX4_passTimeOf_15 1 rfl ?_
    obtain ⟨g4, h⟩ := zchk_some h
    refine zG_iald dX4_passTimeOf_16 zd_26 rfl rfl g4 ?_
    by_cases c5 : 0 < (zA V4 11 (x1).toNatClampNeg)
    · have h := zif_t h c5
      refine zR_if_gt_t (tgt := 22) dX4_passTimeOf_17 (by decide) c5 ?_
      refine zR_aload_n dX4_passTimeOf_22 0 rfl ?_
      refine zG_getR dX4_passTimeOf_23 zf_X4_15 zd_56 rfl rfl ?_
      refine zR_iload_n dX4_passTimeOf_26 1 rfl ?_
      refine zR_dup2 dX4_passTimeOf_27 rfl rfl ?_
      obtain ⟨g6, h⟩ := zchk_some h
      refine zG_iald dX4_passTimeOf_28 zd_58 rfl rfl g6 ?_
      refine zR_iconst (x := (1 : Int32)) dX4_passTimeOf_29 rfl ?_
      refine zR_isub dX4_passTimeOf_30 ?_
      obtain ⟨g7, h⟩ := zchk_some h
      obtain ⟨V5_8, e9, h⟩ := zlet_some h
      refine zG_iast zds_ok dX4_passTimeOf_31 zd_58 rfl rfl g7 e9 rfl ?_
      refine zR_aload_n dX4_passTimeOf_32 0 rfl ?_
      refine zG_getR dX4_passTimeOf_33 zf_X4_15 zd_56 rfl rfl ?_
      refine zR_iload_n dX4_passTimeOf_36 1 rfl ?_
      obtain ⟨g10, h⟩ := zchk_some h
      refine zG_iald dX4_passTimeOf_37 zd_58 rfl rfl g10 ?_
      by_cases c11 : 0 < (zA V5_8 20 (x1).toNatClampNeg)
      · have h := zif_t h c11
        refine zR_if_gt_t (tgt := 45) dX4_passTimeOf_38 (by decide) c11 ?_
        refine zR_iconst (x := (0 : Int32)) dX4_passTimeOf_45 rfl ?_
        have h := Option.some.inj h
        subst h
        exact zR_iret (x := (0 : Int32)) dX4_passTimeOf_46 rfl znar0
      · have h := zif_f h c11
        refine zR_if_gt_f (tgt := 45) dX4_passTimeOf_38 (by decide) c11 ?_
        refine zR_iconst (x := (1 : Int32)) dX4_passTimeOf_41 rfl ?_
        refine zR_goto (tgt := 46) dX4_passTimeOf_42 (by decide) ?_
        have h := Option.some.inj h
        subst h
        exact zR_iret (x := (1 : Int32)) dX4_passTimeOf_46 rfl znar1
    · have h := zif_f h c5
      refine zR_if_gt_f (tgt := 22) dX4_passTimeOf_17 (by decide) c5 ?_
      refine zR_iconst (x := (0 : Int32)) dX4_passTimeOf_20 rfl ?_
      have h := Option.some.inj h
      subst h
      exact zR_iret (x := (0 : Int32)) dX4_passTimeOf_21 rfl znar0
set_option maxRecDepth 100000 in
set_option maxHeartbeats 4000000 in
theorem mJ6_bitCount_0f7a4 {w : zW} (F : Nat) (S : zS) (x0 : Int32) (res : Int32) (h : fJ6_bitCount_0f7a4 F x0 = some res) : zMet w kJ6_bitCount_0f7a4 0 0 0 [.int x0] S (some (.int res)) S := by
  refine zMet_of (by decide) (Nat.le_of_ble_eq_true rfl) (Nat.le_refl 0) fun _ => ?_
  show zR w kJ6_bitCount_0f7a4 0 0 0 (some (.int res)) S 0 [(0, .int x0)] [] S
  unfold fJ6_bitCount_0f7a4 at h
  refine zR_iload_n dJ6_bitCount_0f7a4_0 0 rfl ?_
  refine zR_iload_n dJ6_bitCount_0f7a4_1 0 rfl ?_
  refine zR_iconst (x := (1 : Int32)) dJ6_bitCount_0f7a4_2 rfl ?_
  refine zR_iushr dJ6_bitCount_0f7a4_3 ?_
  refine zR_ldc_w (x := (1431655765 : Int32)) dJ6_bitCount_0f7a4_4 zk_J6_265 ?_
  refine zR_iand dJ6_bitCount_0f7a4_7 ?_
  refine zR_isub dJ6_bitCount_0f7a4_8 ?_
  obtain ⟨y1, e2, h⟩ := zlet_some h
  refine zR_nmI e2 ?_
  refine zR_istore_n (lv' := [(0, .int y1)]) dJ6_bitCount_0f7a4_9 (Nat.le_of_ble_eq_true rfl) rfl ?_
  refine zR_iload_n dJ6_bitCount_0f7a4_10 0 rfl ?_
  refine zR_ldc_w (x := (858993459 : Int32)) dJ6_bitCount_0f7a4_11 zk_J6_266 ?_
  refine zR_iand dJ6_bitCount_0f7a4_14 ?_
  refine zR_iload_n dJ6_bitCount_0f7a4_15 0 rfl ?_
  refine zR_iconst (x := (2 : Int32)) dJ6_bitCount_0f7a4_16 rfl ?_
  refine zR_iushr dJ6_bitCount_0f7a4_17 ?_
  refine zR_ldc_w (x := (858993459 : Int32)) dJ6_bitCount_0f7a4_18 zk_J6_266 ?_
  refine zR_iand dJ6_bitCount_0f7a4_21 ?_
  refine zR_iadd dJ6_bitCount_0f7a4_22 ?_
  obtain ⟨y3, e4, h⟩ := zlet_some h
  refine zR_nmI e4 ?_
  refine zR_istore_n (lv' := [(0, .int y3)]) dJ6_bitCount_0f7a4_23 (Nat.le_of_ble_eq_true rfl) rfl ?_
  refine zR_iload_n dJ6_bitCount_0f7a4_24 0 rfl ?_
  refine zR_iload_n dJ6_bitCount_0f7a4_25 0 rfl ?_
  refine zR_iconst (x := (4 : Int32)) dJ6_bitCount_0f7a4_26 rfl ?_
  refine zR_iushr dJ6_bitCount_0f7a4_27 ?_
  refine zR_iadd dJ6_bitCount_0f7a4_28 ?_
  refine zR_ldc_w (x := (252645135 : Int32)) dJ6_bitCount_0f7a4_29 zk_J6_267 ?_
  refine zR_iand dJ6_bitCount_0f7a4_32 ?_
  obtain ⟨y5, e6, h⟩ := zlet_some h
  refine zR_nmI e6 ?_
  refine zR_istore_n (lv' := [(0, .int y5)]) dJ6_bitCount_0f7a4_33 (Nat.le_of_ble_eq_true rfl) rfl ?_
  refine zR_iload_n dJ6_bitCount_0f7a4_34 0 rfl ?_
  refine zR_iload_n dJ6_bitCount_0f7a4_35 0 rfl ?_
  refine zR_bipush (x := (8 : Int32)) dJ6_bitCount_0f7a4_36 rfl ?_
  refine zR_iushr dJ6_bitCount_0f7a4_38 ?_
  refine zR_iadd dJ6_bitCount_0f7a4_39 ?_
  obtain ⟨y7, e8, h⟩ := zlet_some h
  refine zR_nmI e8 ?_
  refine zR_istore_n (lv' := [(0, .int y7)]) dJ6_bitCount_0f7a4_40 (Nat.le_of_ble_eq_true rfl) rfl ?_
  refine zR_iload_n dJ6_bitCount_0f7a4_41 0 rfl ?_
  refine zR_iload_n dJ6_bitCount_0f7a4_42 0 rfl ?_
  refine zR_bipush (x := (16 : Int32)) dJ6_bitCount_0f7a4_43 rfl ?_
  refine zR_iushr dJ6_bitCount_0f7a4_45 ?_
  refine zR_iadd dJ6_bitCount_0f7a4_46 ?_
  obtain ⟨y9, e10, h⟩ := zlet_some h
  refine zR_nmI e10 ?_
  refine zR_istore_n (lv' := [(0, .int y9)]) dJ6_bitCount_0f7a4_47 (Nat.le_of_ble_eq_true rfl) rfl ?_
  refine zR_iload_n dJ6_bitCount_0f7a4_48 0 rfl ?_
  refine zR_bipush (x := (63 : Int32)) dJ6_bitCount_0f7a4_49 rfl ?_
  refine zR_iand dJ6_bitCount_0f7a4_51 ?_
  have h := Option.some.inj h
  subst h
  exact zR_iret (x := (y9 &&& (63 : Int32))) dJ6_bitCount_0f7a4_52 rfl rfl
