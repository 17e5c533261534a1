set_option maxRecDepth 100000 in
set_option maxHeartbeats 4000000 in
theorem wX0_placeInRow_6_l2 {w : zW} (F : Nat) : ∀ (n : Nat) (V0 V1 V2 V3 V4 V5 V6 V7 : zV) (x1 : Int32) (x2 : Int32) (res : Int32), fX0_placeInRow_l2 F n V6 x1 x2 = some res → zR w kX0_placeInRow 0 0 0 (some (.int res)) (zE zds w [V0, V1, V2, V3, V4, V5, V6, V7]) 2 [(0, .ref (w.1 + 74)), (1, .int x1), (2, .int x2)] [] (zE zds w [V0, V1, V2, V3, V4, V5, V6, V7]) := by
  intro n
  induction n with
  | zero =>
    intro V0 V1 V2 V3 V4 V5 V6 V7 x1 x2 res h
    simp [fX0_placeInRow_l2] at h
  | succ n ih =>
    intro V0 V1 V2 V3 V4 V5 V6 V7 x1 x2 res h
    rw [fX0_placeInRow_l2] at h
    refine zR_iload_n dX0_placeInRow_2 2 rfl ?_
    refine zR_aload_n dX0_placeInRow_3 0 rfl ?_
    refine zG_getI dX0_placeInRow_4 zf_X0_21 zd_74 rfl rfl ?_
    by_cases c1 : (zI V6 10 4) ≤ x2
    · have h := zif_t h c1
      refine zR_icmp_ge_t (tgt := 37) dX0_placeInRow_7 (by decide) c1 ?_
      refine zR_iconst (x := (-1 : Int32)) dX0_placeInRow_37 (by decide) ?_
      have h := Option.some.inj h
      subst h
      exact zR_iret (x := (-1 : Int32)) dX0_placeInRow_38 rfl rfl
    · have h := zif_f h c1
      refine zR_icmp_ge_f (tgt := 37) dX0_placeInRow_7 (by decide) c1 ?_
      refine zR_iload_n dX0_placeInRow_10 2 rfl ?_
      refine zR_aload_n dX0_placeInRow_11 0 rfl ?_
      refine zG_getR dX0_placeInRow_12 zf_X0_18 zd_74 rfl rfl ?_
      refine zG_alen (u := (8 : Int32)) dX0_placeInRow_15 zd_77 (Nat.le_of_ble_eq_true rfl) rfl rfl rfl ?_
      by_cases c2 : (8 : Int32) ≤ x2
      · have h := zif_t h c2
        refine zR_icmp_ge_t (tgt := 37) dX0_placeInRow_16 (by decide) c2 ?_
        refine zR_iconst (x := (-1 : Int32)) dX0_placeInRow_37 (by decide) ?_
        have h := Option.some.inj h
        subst h
        exact zR_iret (x := (-1 : Int32)) dX0_placeInRow_38 rfl rfl
      · have h := zif_f h c2
        refine zR_icmp_ge_f (tgt := 37) dX0_placeInRow_16 (by decide) c2 ?_
        refine zR_aload_n dX0_placeInRow_19 0 rfl ?_
        refine zG_getR dX0_placeInRow_20 zf_X0_18 zd_74 rfl rfl ?_
        refine zR_iload_n dX0_placeInRow_23 2 rfl ?_
        obtain ⟨g3, h⟩ := zchk_some h
        refine zG_iald dX0_placeInRow_24 zd_77 rfl rfl g3 ?_
        refine zR_iload_n dX0_placeInRow_25 1 rfl ?_
        by_cases c4 : (zA V6 13 (x2).toNatClampNeg) = x1
        · have h := zif_t h c4
          refine zR_icmp_ne_f (tgt := 31) dX0_placeInRow_26 (by decide) c4 ?_
          refine zR_iload_n dX0_placeInRow_29 2 rfl ?_
          have h := Option.some.inj h
          subst h
          exact zR_iret (x := x2) dX0_placeInRow_30 rfl rfl
        · have h := zif_f h c4
          refine zR_icmp_ne_t (tgt := 31) dX0_placeInRow_26 (by decide) c4 ?_
          refine zR_iinc (u := (x2 + 1)) (lv' := [(0, .ref (w.1 + 74)), (1, .int x1), (2, .int (x2 + 1))]) dX0_placeInRow_31 2 rfl rfl (Nat.le_of_ble_eq_true rfl) rfl ?_
          refine zR_goto (tgt := 2) dX0_placeInRow_34 (by decide) ?_
          exact ih V0 V1 V2 V3 V4 V5 V6 V7 x1 (x2 + 1) _ h
set_option maxRecDepth 100000 in
set_option maxHeartbeats 4000000 in
theorem mX0_placeInRow_6 {w : zW} (F : Nat) (V0 V1 V2 V3 V4 V5 V6 V7 : zV) (x1 : Int32) (res : Int32) (h : fX0_placeInRow F V6 x1 = some res) : zMet w kX0_placeInRow 0 0 0 [.ref (w.1 + 74), .int x1] (zE zds w [V0, V1, V2, V3, V4, V5, V6, V7]) (some (.int res)) (zE zds w [V0, V1, V2, V3, V4, V5, V6, V7]) := by
  refine zMet_of (by decide) (Nat.le_of_ble_eq_true rfl) (Nat.le_refl 0) fun _ => ?_
  show zR w kX0_placeInRow 0 0 0 (some (.int res)) (zE zds w [V0, V1, V2, V3, V4, V5, V6, V7]) 0 [(0, .ref (w.1 + 74)), (1, .int x1)] [] (zE zds w [V0, V1, V2, V3, V4, V5, V6, V7])
  unfold fX0_placeInRow at h
  refine zR_iconst (x := (0 : Int32)) dX0_placeInRow_0 rfl ?_
  refine zR_istore_n (lv' := [(0, .ref (w.1 + 74)), (1, .int x1), (2, .int (0 : Int32))]) dX0_placeInRow_1 (Nat.le_of_ble_eq_true rfl) rfl ?_
  exact wX0_placeInRow_6_l2 F F V0 V1 V2 V3 V4 V5 V6 V7 x1 (0 : Int32) _ h
set_option maxRecDepth 100000 in
set_option maxHeartbeats 4000000 in
theorem mX0_await_6 {w : zW} (F : Nat) (V0 V1 V2 V3 V4 V5 V6 V7 : zV) (x1 : Int32) (res : zV) (h : fX0_await F V4 V6 x1 = some res) : zMet w kX0_await 1 0 0 [.ref (w.1 + 74), .int x1] (zE zds w [V0, V1, V2, V3, V4, V5, V6, V7]) none (zE zds w [V0, V1, V2, V3, V4, V5, res, V7]) := by
  refine zMet_of (by decide) (Nat.le_of_ble_eq_true rfl) (Nat.le_refl 0) fun _ => ?_
  show zR w kX0_await 1 0 0 none (zE zds w [V0, V1, V2, V3, V4, V5, res, V7]) 0 [(0, .ref (w.1 + 74)), (1, .int x1)] [] (zE zds w [V0, V1, V2, V3, V4, V5, V6, V7])
  unfold fX0_await at h
  refine zR_aload_n dX0_await_0 0 rfl ?_
  refine zG_getR dX0_await_1 zf_X0_25 zd_74 rfl rfl ?_
  refine zR_iconst (x := (1 : Int32)) dX0_await_4 rfl ?_
  refine zR_iload_n dX0_await_5 1 rfl ?_
  obtain ⟨q1, hq2, h⟩ := zbd_some h
  refine zR_cV (rest := []) (st1 := [.int q1]) dX0_await_6 (mX9_has F V0 V1 V2 V3 V4 V5 V6 V7 (1 : Int32) x1 _ hq2) zc_X0_29 rfl (zE_at zd_15) ⟨_, _, rfl⟩ rfl (Nat.le_of_ble_eq_true rfl) (Nat.le_of_ble_eq_true rfl) rfl ?_
  by_cases c3 : q1 = 0
  · have h := zif_t h c3
    refine zR_if_eq_t (tgt := 53) dX0_await_9 (by decide) c3 ?_
    have h := Option.some.inj h
    subst h
    exact zR_ret dX0_await_53 rfl
  · have h := zif_f h c3
    refine zR_if_eq_f (tgt := 53) dX0_await_9 (by decide) c3 ?_
    refine zR_aload_n dX0_await_12 0 rfl ?_
    refine zG_getI dX0_await_13 zf_X0_21 zd_74 rfl rfl ?_
    refine zR_aload_n dX0_await_16 0 rfl ?_
    refine zG_getR dX0_await_17 zf_X0_18 zd_74 rfl rfl ?_
    refine zG_alen (u := (8 : Int32)) dX0_await_20 zd_77 (Nat.le_of_ble_eq_true rfl) rfl rfl rfl ?_
    by_cases c4 : (8 : Int32) ≤ (zI V6 10 4)
    · have h := zif_t h c4
      refine zR_icmp_ge_t (tgt := 53) dX0_await_21 (by decide) c4 ?_
      have h := Option.some.inj h
      subst h
      exact zR_ret dX0_await_53 rfl
    · have h := zif_f h c4
      refine zR_icmp_ge_f (tgt := 53) dX0_await_21 (by decide) c4 ?_
      refine zR_aload_n dX0_await_24 0 rfl ?_
      refine zR_iload_n dX0_await_25 1 rfl ?_
      obtain ⟨q5, hq6, h⟩ := zbd_some h
      refine zR_cV (rest := []) (st1 := [.int q5]) dX0_await_26 (mX0_placeInRow_6 F V0 V1 V2 V3 V4 V5 V6 V7 x1 _ hq6) zc_X0_35 rfl (zE_at zd_74) ⟨_, _, rfl⟩ rfl (Nat.le_of_ble_eq_true rfl) (Nat.le_of_ble_eq_true rfl) rfl ?_
      refine zR_iconst (x := (-1 : Int32)) dX0_await_29 (by decide) ?_
      by_cases c7 : q5 = (-1 : Int32)
      · have h := zif_t h c7
        refine zR_icmp_ne_f (tgt := 53) dX0_await_30 (by decide) c7 ?_
        refine zR_aload_n dX0_await_33 0 rfl ?_
        refine zG_getR dX0_await_34 zf_X0_18 zd_74 rfl rfl ?_
        refine zR_aload_n dX0_await_37 0 rfl ?_
        refine zG_getI dX0_await_38 zf_X0_21 zd_74 rfl rfl ?_
        refine zR_iload_n dX0_await_41 1 rfl ?_
        obtain ⟨g8, h⟩ := zchk_some h
        obtain ⟨V6_9, e10, h⟩ := zlet_some h
        refine zG_iast zds_ok dX0_await_42 zd_77 rfl rfl g8 e10 rfl ?_
        refine zR_aload_n dX0_await_43 0 rfl ?_
        refine zR_dup dX0_await_44 rfl ?_
        refine zG_getI dX0_await_45 zf_X0_21 zd_74 rfl rfl ?_
        refine zR_iconst (x := (1 : Int32)) dX0_await_48 rfl ?_
        refine zR_iadd dX0_await_49 ?_
        obtain ⟨V6_11, e12, h⟩ := zlet_some h
        refine zG_putI zds_ok dX0_await_50 zf_X0_21 zt_X0_4 zd_74 rfl rfl e12 rfl ?_
        have h := Option.some.inj h
        subst h
        exact zR_ret dX0_await_53 rfl
      · have h := zif_f h c7
        refine zR_icmp_ne_t (tgt := 53) dX0_await_30 (by decide) c7 ?_
        have h := Option.some.inj h
        subst h
        exact zR_ret dX0_await_53 rfl
set_option maxRecDepth 100000 in
set_option maxHeartbeats 4000000 in
theorem wX3_dropBall_6_l23 {w : zW} (F : Nat) : ∀ (n : Nat) (V0 V1 V2 V3 V4 V5 V6 V7 : zV) (x1 : Int32) (res : zV), fX3_dropBall_l23 F n V4 V6 x1 = some res → zR w kX3_dropBall 3 0 0 none (zE zds w [V0, V1, V2, V3, V4, V5, res, V7]) 23 [(0, .ref (w.1 + 78)), (1, .int x1)] [] (zE zds w [V0, V1, V2, V3, V4, V5, V6, V7]) := by
  intro n
  induction n with
  | zero =>
    intro V0 V1 V2 V3 V4 V5 V6 V7 x1 res h
    simp [fX3_dropBall_l23] at h
  | succ n ih =>
    intro V0 V1 V2 V3 V4 V5 V6 V7 x1 res h
    rw [fX3_dropBall_l23] at h
    refine zR_iload_n dX3_dropBall_23 1 rfl ?_
    refine zR_aload_n dX3_dropBall_24 0 rfl ?_
    refine zG_getR dX3_dropBall_25 zf_X3_27 zd_78 rfl rfl ?_
    refine zG_getR dX3_dropBall_28 zf_X3_44 zd_15 rfl rfl ?_
    refine zR_iconst (x := (4 : Int32)) dX3_dropBall_31 rfl ?_
    refine zG_iald dX3_dropBall_32 zd_16 rfl rfl (show zix (4 : Int32) 27 from by decide) ?_
    by_cases c1 : (zA V4 1 ((4 : Int32)).toNatClampNeg) < x1
    · have h := zif_t h c1
      refine zR_icmp_gt_t (tgt := 48) dX3_dropBall_33 (by decide) c1 ?_
      have h := Option.some.inj h
      subst h
      exact zR_ret dX3_dropBall_48 rfl
    · have h := zif_f h c1
      refine zR_icmp_gt_f (tgt := 48) dX3_dropBall_33 (by decide) c1 ?_
      refine zR_aload_n dX3_dropBall_36 0 rfl ?_
      refine zR_iload_n dX3_dropBall_37 1 rfl ?_
      refine zR_iconst (x := (0 : Int32)) dX3_dropBall_38 rfl ?_
      obtain ⟨q2, hq3, h⟩ := zbd_some h
      refine zR_cV (rest := []) (st1 := []) dX3_dropBall_39 (mX3_moveAll_6 F V0 V1 V2 V3 V4 V5 V6 V7 x1 (0 : Int32) _ hq3) zc_X3_53 rfl (zE_at zd_78) ⟨_, _, rfl⟩ rfl (Nat.le_of_ble_eq_true rfl) (Nat.le_of_ble_eq_true rfl) rfl ?_
      refine zR_iinc (u := (x1 + 1)) (lv' := [(0, .ref (w.1 + 78)), (1, .int (x1 + 1))]) dX3_dropBall_42 1 rfl rfl (Nat.le_of_ble_eq_true rfl) rfl ?_
      refine zR_goto (tgt := 23) dX3_dropBall_45 (by decide) ?_
      exact ih V0 V1 V2 V3 V4 V5 q2 V7 (x1 + 1) _ h
set_option maxRecDepth 100000 in
set_option maxHeartbeats 4000000 in
theorem mX3_dropBall_6 {w : zW} (F : Nat) (V0 V1 V2 V3 V4 V5 V6 V7 : zV) (res : zV) (h : fX3_dropBall F V4 V6 = some res) : zMet w kX3_dropBall 3 0 0 [.ref (w.1 + 78)] (zE zds w [V0, V1, V2, V3, V4, V5, V6, V7]) none (zE zds w [V0, V1, V2, V3, V4, V5, res, V7]) := by
  refine zMet_of (by decide) (Nat.le_of_ble_eq_true rfl) (Nat.le_refl 0) fun _ => ?_
  show zR w kX3_dropBall 3 0 0 none (zE zds w [V0, V1, V2, V3, V4, V5, res, V7]) 0 [(0, .ref (w.1 + 78))] [] (zE zds w [V0, V1, V2, V3, V4, V5, V6, V7])
  unfold fX3_dropBall at h
  refine zR_aload_n dX3_dropBall_0 0 rfl ?_
  refine zG_getI dX3_dropBall_1 zf_X3_21 zd_78 rfl rfl ?_
  by_cases c4 : (zI V6 14 7) ≤ 0
  · have h := zif_t h c4
    refine zR_if_le_t (tgt := 48) dX3_dropBall_4 (by decide) c4 ?_
    have h := Option.some.inj h
    subst h
    exact zR_ret dX3_dropBall_48 rfl
  · have h := zif_f h c4
    refine zR_if_le_f (tgt := 48) dX3_dropBall_4 (by decide) c4 ?_
    refine zR_aload_n dX3_dropBall_7 0 rfl ?_
    refine zR_dup dX3_dropBall_8 rfl ?_
    refine zG_getI dX3_dropBall_9 zf_X3_21 zd_78 rfl rfl ?_
    refine zR_iconst (x := (1 : Int32)) dX3_dropBall_12 rfl ?_
    refine zR_isub dX3_dropBall_13 ?_
    obtain ⟨V6_5, e6, h⟩ := zlet_some h
    refine zG_putI zds_ok dX3_dropBall_14 zf_X3_21 zt_X3_7 zd_78 rfl rfl e6 rfl ?_
    refine zR_aload_n dX3_dropBall_17 0 rfl ?_
    obtain ⟨q7, hq8, h⟩ := zbd_some h
    refine zR_cV (rest := []) (st1 := []) dX3_dropBall_18 (mX3_turnOver_6 F V0 V1 V2 V3 V4 V5 V6_5 V7 _ hq8) zc_X3_41 rfl (zE_at zd_78) ⟨_, _, rfl⟩ rfl (Nat.le_of_ble_eq_true rfl) (Nat.le_of_ble_eq_true rfl) rfl ?_
    refine zR_iconst (x := (1 : Int32)) dX3_dropBall_21 rfl ?_
    refine zR_istore_n (lv' := [(0, .ref (w.1 + 78)), (1, .int (1 : Int32))]) dX3_dropBall_22 (Nat.le_of_ble_eq_true rfl) rfl ?_
    exact wX3_dropBall_6_l23 F F V0 V1 V2 V3 V4 V5 q7 V7 (1 : Int32) _ h
set_option maxRecDepth 100000 in
set_option maxHeartbeats 4000000 in
theorem wX4_turnOffAllButFirst_6_l2 {w : zW} (F : Nat) : ∀ (n : Nat) (V0 V1 V2 V3 V4 V5 V6 V7 : zV) (x1 : Int32) (res : zV), fX4_turnOffAllButFirst_l2 F n V4 V6 x1 = some res → zR w kX4_turnOffAllButFirst 2 0 0 none (zE zds w [V0, V1, V2, V3, V4, V5, res, V7]) 2 [(0, .ref (w.1 + 82)), (1, .int x1)] [] (zE zds w [V0, V1, V2, V3, V4, V5, V6, V7]) := by
  intro n
  induction n with
  | zero =>
    intro V0 V1 V2 V3 V4 V5 V6 V7 x1 res h
    simp [fX4_turnOffAllButFirst_l2] at h
  | succ n ih =>
    intro V0 V1 V2 V3 V4 V5 V6 V7 x1 res h
    rw [fX4_turnOffAllButFirst_l2] at h
    refine zR_iload_n dX4_turnOffAllButFirst_2 1 rfl ?_
    refine zR_aload_n dX4_turnOffAllButFirst_3 0 rfl ?_
    refine zG_getR dX4_turnOffAllButFirst_4 zf_X4_32 zd_82 rfl rfl ?_
    refine zG_getR dX4_turnOffAllButFirst_7 zf_X4_36 zd_15 rfl rfl ?_
    refine zR_bipush (x := (7 : Int32)) dX4_turnOffAllButFirst_10 rfl ?_
    refine zG_iald dX4_turnOffAllButFirst_12 zd_16 rfl rfl (show zix (7 : Int32) 27 from by decide) ?_
    by_cases c1 : (zA V4 1 ((7 : Int32)).toNatClampNeg) ≤ x1
    · have h := zif_t h c1
      refine zR_icmp_ge_t (tgt := 28) dX4_turnOffAllButFirst_13 (by decide) c1 ?_
      have h := Option.some.inj h
      subst h
      exact zR_ret dX4_turnOffAllButFirst_28 rfl
    · have h := zif_f h c1
      refine zR_icmp_ge_f (tgt := 28) dX4_turnOffAllButFirst_13 (by decide) c1 ?_
      refine zR_aload_n dX4_turnOffAllButFirst_16 0 rfl ?_
      refine zR_iload_n dX4_turnOffAllButFirst_17 1 rfl ?_
      obtain ⟨q2, hq3, h⟩ := zbd_some h
      refine zR_cV (rest := []) (st1 := [.int q2.1]) dX4_turnOffAllButFirst_18 (mX4_turnOff_6 F V0 V1 V2 V3 V4 V5 V6 V7 x1 _ hq3) zc_X4_52 rfl (zE_at zd_82) ⟨_, _, rfl⟩ rfl (Nat.le_of_ble_eq_true rfl) (Nat.le_of_ble_eq_true rfl) rfl ?_
      refine zR_pop dX4_turnOffAllButFirst_21 rfl ?_
      refine zR_iinc (u := (x1 + 1)) (lv' := [(0, .ref (w.1 + 82)), (1, .int (x1 + 1))]) dX4_turnOffAllButFirst_22 1 rfl rfl (Nat.le_of_ble_eq_true rfl) rfl ?_
      refine zR_goto (tgt := 2) dX4_turnOffAllButFirst_25 (by decide) ?_
      exact ih V0 V1 V2 V3 V4 V5 q2.2 V7 (x1 + 1) _ h
set_option maxRecDepth 100000 in
set_option maxHeartbeats 4000000 in
theorem mX4_turnOffAllButFirst_6 {w : zW} (F : Nat) (V0 V1 V2 V3 V4 V5 V6 V7 : zV) (res : zV) (h : fX4_turnOffAllButFirst F V4 V6 = some res) : zMet w kX4_turnOffAllButFirst 2 0 0 [.ref (w.1 + 82)] (zE zds w [V0, V1, V2, V3, V4, V5, V6, V7]) none (zE zds w [V0, V1, V2, V3, V4, V5, res, V7]) := by
  refine zMet_of (by decide) (Nat.le_of_ble_eq_true rfl) (Nat.le_refl 0) fun _ => ?_
  show zR w kX4_turnOffAllButFirst 2 0 0 none (zE zds w [V0, V1, V2, V3, V4, V5, res, V7]) 0 [(0, .ref (w.1 + 82))] [] (zE zds w [V0, V1, V2, V3, V4, V5, V6, V7])
  unfold fX4_turnOffAllButFirst at h
  refine zR_iconst (x := (1 : Int32)) dX4_turnOffAllButFirst_0 rfl ?_
  refine zR_istore_n (lv' := [(0, .ref (w.1 + 82)), (1, .int (1 : Int32))]) dX4_turnOffAllButFirst_1 (Nat.le_of_ble_eq_true rfl) rfl ?_
  exact wX4_turnOffAllButFirst_6_l2 F F V0 V1 V2 V3 V4 V5 V6 V7 (1 : Int32) _ h
set_option maxRecDepth 100000 in
set_option maxHeartbeats 4000000 in
theorem wX1_doActs_6_b294 {w : zW} (F : Nat) (D : Nat) (hD : 4 ≤ D + 1) (rR rA : zV → zV → Int32 → Int32 → Int32 → Option zV) (hR : ∀ (V0 V1 V2 V3 V4 V5 V6 V7 : zV) (x1 x2 x3 : Int32) (res : zV), rR V4 V6 x1 x2 x3 = some res → zMet w kX1_doRules D 0 0 [.ref (w.1 + 64), .int x1, .int x2, .int x3] (zE zds w [V0, V1, V2, V3, V4, V5, V6, V7]) none (zE zds w [V0, V1, V2, V3, V4, V5, res, V7])) (hA : ∀ (V0 V1 V2 V3 V4 V5 V6 V7 : zV) (x1 x2 x3 : Int32) (res : zV), rA V4 V6 x1 x2 x3 = some res → zMet w kX1_doActs D 0 0 [.ref (w.1 + 64), .int x1, .int x2, .int x3] (zE zds w [V0, V1, V2, V3, V4, V5, V6, V7]) none (zE zds w [V0, V1, V2, V3, V4, V5, res, V7])) (k10 : zV → zV → Int32 → Int32 → Int32 → Option (zV)) (hk10 : ∀ (V0 V1 V2 V3 V4 V5 V6 V7 : zV) (x2 : Int32) (x3 : Int32) (x4 : Int32) (res : zV), k10 V4 V6 x2 x3 x4 = some res → zR w kX1_doActs (D + 1) 0 0 none (zE zds w [V0, V1, V2, V3, V4, V5, res, V7]) 10 [(0, .ref (w.1 + 64)), (2, .int x2), (3, .int x3), (4, .int x4)] [] (zE zds w [V0, V1, V2, V3, V4, V5, V6, V7])) (V0 V1 V2 V3 V4 V5 V6 V7 : zV) (x2 : Int32) (x3 : Int32) (x4 : Int32) (res : zV) (h : fX1_doActs_b294 F rR rA k10 V4 V6 x2 x3 x4 = some res) : zR w kX1_doActs (D + 1) 0 0 none (zE zds w [V0, V1, V2, V3, V4, V5, res, V7]) 294 [(0, .ref (w.1 + 64)), (2, .int x2), (3, .int x3), (4, .int x4)] [] (zE zds w [V0, V1, V2, V3, V4, V5, V6, V7]) := by
  unfold fX1_doActs_b294 at h
  refine zR_iinc (u := (x4 + 1)) (lv' := [(0, .ref (w.1 + 64)), (2, .int x2), (3, .int x3), (4, .int (x4 + 1))]) dX1_doActs_294 3 rfl rfl (Nat.le_of_ble_eq_true rfl) rfl ?_
  refine zR_goto (tgt := 10) dX1_doActs_297 (by decide) ?_
  exact hk10 V0 V1 V2 V3 V4 V5 V6 V7 x2 x3 (x4 + 1) _ h
set_option maxRecDepth 100000 in
set_option maxHeartbeats 4000000 in
theorem wX1_doActs_6_b256 {w : zW} (F : Nat) (D : Nat) (hD : 4 ≤ D + 1) (rR rA : zV → zV → Int32 → Int32 → Int32 → Option zV) (hR : ∀ (V0 V1 V2 V3 V4 V5 V6 V7 : zV) (x1 x2 x3 : Int32) (res : zV), rR V4 V6 x1 x2 x3 = some res → zMet w kX1_doRules D 0 0 [.ref (w.1 + 64), .int x1, .int x2, .int x3] (zE zds w [V0, V1, V2, V3, V4, V5, V6, V7]) none (zE zds w [V0, V1, V2, V3, V4, V5, res, V7])) (hA : ∀ (V0 V1 V2 V3 V4 V5 V6 V7 : zV) (x1 x2 x3 : Int32) (res : zV), rA V4 V6 x1 x2 x3 = some res → zMet w kX1_doActs D 0 0 [.ref (w.1 + 64), .int x1, .int x2, .int x3] (zE zds w [V0, V1, V2, V3, V4, V5, V6, V7]) none (zE zds w [V0, V1, V2, V3, V4, V5, res, V7])) (k10 : zV → zV → Int32 → Int32 → Int32 → Option (zV)) (hk10 : ∀ (V0 V1 V2 V3 V4 V5 V6 V7 : zV) (x2 : Int32) (x3 : Int32) (x4 : Int32) (res : zV), k10 V4 V6 x2 x3 x4 = some res → zR w kX1_doActs (D + 1) 0 0 none (zE zds w [V0, V1, V2, V3, V4, V5, res, V7]) 10 [(0, .ref (w.1 + 64)), (2, .int x2), (3, .int x3), (4, .int x4)] [] (zE zds w [V0, V1, V2, V3, V4, V5, V6, V7])) (V0 V1 V2 V3 V4 V5 V6 V7 : zV) (x2 : Int32) (x3 : Int32) (x4 : Int32) (s1 : Int32) (res : zV) (h : fX1_doActs_b256 F rR rA k10 V4 V6 x2 x3 x4 s1 = some res) : zR w kX1_doActs (D + 1) 0 0 none (zE zds w [V0, V1, V2, V3, V4, V5, res, V7]) 256 [(0, .ref (w.1 + 64)), (2, .int x2), (3, .int x3), (4, .int x4)] [.int s1, .ref (w.1 + 64)] (zE zds w [V0, V1, V2, V3, V4, V5, V6, V7]) := by
  unfold fX1_doActs_b256 at h
  obtain ⟨g3, h⟩ := zchk_some h
  obtain ⟨V6_1, e2, h⟩ := zlet_some h
  refine zG_putZ zds_ok dX1_doActs_256 zf_X1_36 zt_X1_14 zd_64 rfl rfl g3 e2 rfl ?_
  refine zR_goto (tgt := 294) dX1_doActs_259 (by decide) ?_
  exact wX1_doActs_6_b294 F D hD rR rA hR hA k10 hk10 V0 V1 V2 V3 V4 V5 V6_1 V7 x2 x3 x4 _ h
set_option maxRecDepth 100000 in
set_option maxHeartbeats 4000000 in
theorem wX1_doActs_6_b251 {w : zW} (F : Nat) (D : Nat) (hD : 4 ≤ D + 1) (rR rA : zV → zV → Int32 → Int32 → Int32 → Option zV) (hR : ∀ (V0 V1 V2 V3 V4 V5 V6 V7 : zV) (x1 x2 x3 : Int32) (res : zV), rR V4 V6 x1 x2 x3 = some res → zMet w kX1_doRules D 0 0 [.ref (w.1 + 64), .int x1, .int x2, .int x3] (zE zds w [V0, V1, V2, V3, V4, V5, V6, V7]) none (zE zds w [V0, V1, V2, V3, V4, V5, res, V7])) (hA : ∀ (V0 V1 V2 V3 V4 V5 V6 V7 : zV) (x1 x2 x3 : Int32) (res : zV), rA V4 V6 x1 x2 x3 = some res → zMet w kX1_doActs D 0 0 [.ref (w.1 + 64), .int x1, .int x2, .int x3] (zE zds w [V0, V1, V2, V3, V4, V5, V6, V7]) none (zE zds w [V0, V1, V2, V3, V4, V5, res, V7])) (k10 : zV → zV → Int32 → Int32 → Int32 → Option (zV)) (hk10 : ∀ (V0 V1 V2 V3 V4 V5 V6 V7 : zV) (x2 : Int32) (x3 : Int32) (x4 : Int32) (res : zV), k10 V4 V6 x2 x3 x4 = some res → zR w kX1_doActs (D + 1) 0 0 none (zE zds w [V0, V1, V2, V3, V4, V5, res, V7]) 10 [(0, .ref (w.1 + 64)), (2, .int x2), (3, .int x3), (4, .int x4)] [] (zE zds w [V0, V1, V2, V3, V4, V5, V6, V7])) (V0 V1 V2 V3 V4 V5 V6 V7 : zV) (x2 : Int32) (x3 : Int32) (x4 : Int32) (res : zV) (h : fX1_doActs_b251 F rR rA k10 V4 V6 x2 x3 x4 = some res) : zR w kX1_doActs (D + 1) 0 0 none (zE zds w [V0, V1, V2, V3, V4, V5, res, V7]) 251 [(0, .ref (w.1 + 64)), (2, .int x2), (3, .int x3), (4, .int x4)] [.ref (w.1 + 64)] (zE zds w [V0, V1, V2, V3, V4, V5, V6, V7]) := by
  unfold fX1_doActs_b251 at h
  refine zR_iconst (x := (1 : Int32)) dX1_doActs_251 rfl ?_
  refine zR_goto (tgt := 256) dX1_doActs_252 (by decide) ?_
  exact wX1_doActs_6_b256 F D hD rR rA hR hA k10 hk10 V0 V1 V2 V3 V4 V5 V6 V7 x2 x3 x4 (1 : Int32) _ h
set_option maxRecDepth 100000 in
set_option maxHeartbeats 4000000 in
theorem wX1_doActs_6_l10 {w : zW} (F : Nat) (D : Nat) (hD : 4 ≤ D + 1) (rR rA : zV → zV → Int32 → Int32 → Int32 → Option zV) (hR : ∀ (V0 V1 V2 V3 V4 V5 V6 V7 : zV) (x1 x2 x3 : Int32) (res : zV), rR V4 V6 x1 x2 x3 = some res → zMet w kX1_doRules D 0 0 [.ref (w.1 + 64), .int x1, .int x2, .int x3] (zE zds w [V0, V1, V2, V3, V4, V5, V6, V7]) none (zE zds w [V0, V1, V2, V3, V4, V5, res, V7])) (hA : ∀ (V0 V1 V2 V3 V4 V5 V6 V7 : zV) (x1 x2 x3 : Int32) (res : zV), rA V4 V6 x1 x2 x3 = some res → zMet w kX1_doActs D 0 0 [.ref (w.1 + 64), .int x1, .int x2, .int x3] (zE zds w [V0, V1, V2, V3, V4, V5, V6, V7]) none (zE zds w [V0, V1, V2, V3, V4, V5, res, V7])) : ∀ (n : Nat) (V0 V1 V2 V3 V4 V5 V6 V7 : zV) (x2 : Int32) (x3 : Int32) (x4 : Int32) (res : zV), fX1_doActs_l10 F rR rA n V4 V6 x2 x3 x4 = some res → zR w kX1_doActs (D + 1) 0 0 none (zE zds w [V0, V1, V2, V3, V4, V5, res, V7]) 10 [(0, .ref (w.1 + 64)), (2, .int x2), (3, .int x3), (4, .int x4)] [] (zE zds w [V0, V1, V2, V3, V4, V5, V6, V7]) := by
  intro n
  induction n with
  | zero =>
    intro V0 V1 V2 V3 V4 V5 V6 V7 x2 x3 x4 res h
    simp [fX1_doActs_l10] at h
  | succ n ih =>
    intro V0 V1 V2 V3 V4 V5 V6 V7 x2 x3 x4 res h
    rw [fX1_doActs_l10] at h
    refine zR_iload dX1_doActs_10 3 rfl ?_
    refine zR_aload_n dX1_doActs_12 0 rfl ?_
    refine zG_getR dX1_doActs_13 zf_X1_49 zd_64 rfl rfl ?_
    obtain ⟨q4, hq5, h⟩ := zbd_some h
    refine zR_cV (rest := [.int x4]) (st1 := [.int q4, .int x4]) dX1_doActs_16 (mX6_size F V0 V1 V2 V3 V4 V5 V6 V7 _ hq5) zc_X1_177 rfl (zE_at zd_28) ⟨_, _, rfl⟩ rfl (Nat.le_of_ble_eq_true rfl) (Nat.le_trans (Nat.le_of_ble_eq_true rfl) hD) rfl ?_
    by_cases c6 : q4 ≤ x4
    · have h := zif_t h c6
      refine zR_icmp_ge_t (tgt := 300) dX1_doActs_19 (by decide) c6 ?_
      have h := Option.some.inj h
      subst h
      exact zR_ret dX1_doActs_300 rfl
    · have h := zif_f h c6
      refine zR_icmp_ge_f (tgt := 300) dX1_doActs_19 (by decide) c6 ?_
      refine zR_aload_n dX1_doActs_22 0 rfl ?_
      refine zG_getR dX1_doActs_23 zf_X1_49 zd_64 rfl rfl ?_
      refine zR_iload dX1_doActs_26 3 rfl ?_
      obtain ⟨q7, hq8, h⟩ := zbd_some h
      refine zR_cV (rest := []) (st1 := [.int q7]) dX1_doActs_28 (mX6_kindAt F V0 V1 V2 V3 V4 V5 V6 V7 x4 _ hq8) zc_X1_181 rfl (zE_at zd_28) ⟨_, _, rfl⟩ rfl (Nat.le_of_ble_eq_true rfl) (Nat.le_trans (Nat.le_of_ble_eq_true rfl) hD) rfl ?_
      refine zR_istore (lv' := [(0, .ref (w.1 + 64)), (2, .int x2), (3, .int x3), (4, .int x4), (5, .int q7)]) dX1_doActs_31 (Nat.le_of_ble_eq_true rfl) rfl ?_
      refine zR_iload dX1_doActs_33 4 rfl ?_
      refine zR_bipush (x := (29 : Int32)) dX1_doActs_35 rfl ?_
      by_cases c9 : q7 = (29 : Int32)
      · have h := zif_t h c9
        refine zR_icmp_ne_f (tgt := 41) dX1_doActs_37 (by decide) c9 ?_
        have h := Option.some.inj h
        subst h
        exact zR_ret dX1_doActs_40 rfl
      · have h := zif_f h c9
        refine zR_icmp_ne_t (tgt := 41) dX1_doActs_37 (by decide) c9 ?_
        refine zR_iload dX1_doActs_41 4 rfl ?_
        refine zR_bipush (x := (16 : Int32)) dX1_doActs_43 rfl ?_
        by_cases c10 : q7 < (16 : Int32)
        · have h := zif_t h c10
          refine zR_icmp_lt_t (tgt := 294) dX1_doActs_45 (by decide) c10 ?_
          refine zR_sub (lv' := [(0, .ref (w.1 + 64)), (2, .int x2), (3, .int x3), (4, .int x4)]) [0, 1, 2, 3] rfl ?_
          exact wX1_doActs_6_b294 F D hD rR rA hR hA (fX1_doActs_l10 F rR rA n) ih V0 V1 V2 V3 V4 V5 V6 V7 x2 x3 x4 _ h
        · have h := zif_f h c10
          refine zR_icmp_lt_f (tgt := 294) dX1_doActs_45 (by decide) c10 ?_
          refine zR_iload dX1_doActs_48 4 rfl ?_
          refine zR_bipush (x := (24 : Int32)) dX1_doActs_50 rfl ?_
          by_cases c11 : q7 ≤ (24 : Int32)
          · have h := zif_t h c11
            refine zR_icmp_le_t (tgt := 58) dX1_doActs_52 (by decide) c11 ?_
            refine zR_aload_n dX1_doActs_58 0 rfl ?_
            refine zG_getI dX1_doActs_59 zf_X1_33 zd_64 rfl rfl ?_
            refine zR_sipush (x := (200 : Int32)) dX1_doActs_62 rfl ?_
            by_cases c12 : (zI V6 0 13) < (200 : Int32)
            · have h := zif_t h c12
              refine zR_icmp_lt_t (tgt := 74) dX1_doActs_65 (by decide) c12 ?_
              refine zR_aload_n dX1_doActs_74 0 rfl ?_
              refine zR_dup dX1_doActs_75 rfl ?_
              refine zG_getI dX1_doActs_76 zf_X1_33 zd_64 rfl rfl ?_
              refine zR_iconst (x := (1 : Int32)) dX1_doActs_79 rfl ?_
              refine zR_iadd dX1_doActs_80 ?_
              obtain ⟨V6_13, e14, h⟩ := zlet_some h
              refine zG_putI zds_ok dX1_doActs_81 zf_X1_33 zt_X1_13 zd_64 rfl rfl e14 rfl ?_
              refine zR_aload_n dX1_doActs_84 0 rfl ?_
              refine zG_getR dX1_doActs_85 zf_X1_49 zd_64 rfl rfl ?_
              refine zR_iload dX1_doActs_88 3 rfl ?_
              refine zR_iconst (x := (1 : Int32)) dX1_doActs_90 rfl ?_
              refine zR_iadd dX1_doActs_91 ?_
              obtain ⟨q15, hq16, h⟩ := zbd_some h
              refine zR_cV (rest := []) (st1 := [.int q15]) dX1_doActs_92 (mX6_numberAt F V0 V1 V2 V3 V4 V5 V6_13 V7 (x4 + (1 : Int32)) _ hq16) zc_X1_184 rfl (zE_at zd_28) ⟨_, _, rfl⟩ rfl (Nat.le_of_ble_eq_true rfl) (Nat.le_trans (Nat.le_of_ble_eq_true rfl) hD) rfl ?_
              refine zR_istore (lv' := [(0, .ref (w.1 + 64)), (2, .int x2), (3, .int x3), (4, .int x4), (5, .int q7), (6, .int q15)]) dX1_doActs_95 (Nat.le_of_ble_eq_true rfl) rfl ?_
              refine zR_iload dX1_doActs_97 4 rfl ?_
              by_cases c17 : q7 = (16 : Int32)
              · have h := zif_t h c17
                refine zR_tabc (tgt := 144) dX1_doActs_99 c17 rfl (by decide) ?_
                refine zR_aload_n dX1_doActs_144 0 rfl ?_
                refine zR_aload_n dX1_doActs_145 0 rfl ?_
                refine zR_iload dX1_doActs_146 3 rfl ?_
                refine zR_iconst (x := (1 : Int32)) dX1_doActs_148 rfl ?_
                refine zR_iadd dX1_doActs_149 ?_
                refine zR_iload_n dX1_doActs_150 1 rfl ?_
                obtain ⟨q18, hq19, h⟩ := zbd_some h
                refine zR_cV (rest := [.ref (w.1 + 64)]) (st1 := [.int q18.1, .ref (w.1 + 64)]) dX1_doActs_151 (mX1_work_6 F V0 V1 V2 V3 V4 V5 V6_13 V7 (x4 + (1 : Int32)) x2 _ hq19) zc_X1_187 rfl (zE_at zd_64) ⟨_, _, rfl⟩ rfl (Nat.le_of_ble_eq_true rfl) (Nat.le_trans (Nat.le_of_ble_eq_true rfl) hD) rfl ?_
                obtain ⟨q20, hq21, h⟩ := zbd_some h
                refine zR_cV (rest := []) (st1 := []) dX1_doActs_154 (mX1_gain_6 F V0 V1 V2 V3 V4 V5 q18.2 V7 q18.1 _ hq21) zc_X1_191 rfl (zE_at zd_64) ⟨_, _, rfl⟩ rfl (Nat.le_of_ble_eq_true rfl) (Nat.le_trans (Nat.le_of_ble_eq_true rfl) hD) rfl ?_
                refine zR_goto (tgt := 294) dX1_doActs_157 (by decide) ?_
                refine zR_sub (lv' := [(0, .ref (w.1 + 64)), (2, .int x2), (3, .int x3), (4, .int x4)]) [0, 1, 2, 3] rfl ?_
                exact wX1_doActs_6_b294 F D hD rR rA hR hA (fX1_doActs_l10 F rR rA n) ih V0 V1 V2 V3 V4 V5 q20 V7 x2 x3 x4 _ h
              · have h := zif_f h c17
                by_cases c22 : q7 = (17 : Int32)
                · have h := zif_t h c22
                  refine zR_tabc (tgt := 160) dX1_doActs_99 c22 rfl (by decide) ?_
                  refine zR_aload_n dX1_doActs_160 0 rfl ?_
                  refine zR_iload dX1_doActs_161 5 rfl ?_
                  refine zR_aload_n dX1_doActs_163 0 rfl ?_
                  refine zR_iload dX1_doActs_164 3 rfl ?_
                  refine zR_iconst (x := (2 : Int32)) dX1_doActs_166 rfl ?_
                  refine zR_iadd dX1_doActs_167 ?_
                  refine zR_iload_n dX1_doActs_168 1 rfl ?_
                  obtain ⟨q23, hq24, h⟩ := zbd_some h
                  refine zR_cV (rest := [.int q15, .ref (w.1 + 64)]) (st1 := [.int q23.1, .int q15, .ref (w.1 + 64)]) dX1_doActs_169 (mX1_work_6 F V0 V1 V2 V3 V4 V5 V6_13 V7 (x4 + (2 : Int32)) x2 _ hq24) zc_X1_187 rfl (zE_at zd_64) ⟨_, _, rfl⟩ rfl (Nat.le_of_ble_eq_true rfl) (Nat.le_trans (Nat.le_of_ble_eq_true rfl) hD) rfl ?_
                  obtain ⟨q25, hq26, h⟩ := zbd_some h
                  refine zR_cV (rest := []) (st1 := []) dX1_doActs_172 (mX1_assign_6 F V0 V1 V2 V3 V4 V5 q23.2 V7 q15 q23.1 _ hq26) zc_X1_194 rfl (zE_at zd_64) ⟨_, _, rfl⟩ rfl (Nat.le_of_ble_eq_true rfl) (Nat.le_trans (Nat.le_of_ble_eq_true rfl) hD) rfl ?_
                  refine zR_goto (tgt := 294) dX1_doActs_175 (by decide) ?_
                  refine zR_sub (lv' := [(0, .ref (w.1 + 64)), (2, .int x2), (3, .int x3), (4, .int x4)]) [0, 1, 2, 3] rfl ?_
                  exact wX1_doActs_6_b294 F D hD rR rA hR hA (fX1_doActs_l10 F rR rA n) ih V0 V1 V2 V3 V4 V5 q25 V7 x2 x3 x4 _ h
                · have h := zif_f h c22
                  by_cases c27 : q7 = (18 : Int32)
                  · have h := zif_t h c27
                    refine zR_tabc (tgt := 178) dX1_doActs_99 c27 rfl (by decide) ?_
                    refine zR_aload_n dX1_doActs_178 0 rfl ?_
                    refine zG_getR dX1_doActs_179 zf_X1_87 zd_64 rfl rfl ?_
                    refine zR_iload dX1_doActs_182 5 rfl ?_
                    obtain ⟨q28, hq29, h⟩ := zbd_some h
                    refine zR_cV (rest := []) (st1 := [.int q28.1]) dX1_doActs_184 (mX4_turnOn_6 F V0 V1 V2 V3 V4 V5 V6_13 V7 q15 _ hq29) zc_X1_106 rfl (zE_at zd_82) ⟨_, _, rfl⟩ rfl (Nat.le_of_ble_eq_true rfl) (Nat.le_trans (Nat.le_of_ble_eq_true rfl) hD) rfl ?_
                    by_cases c30 : q28.1 = 0
                    · have h := zif_t h c30
                      refine zR_if_eq_t (tgt := 294) dX1_doActs_187 (by decide) c30 ?_
                      refine zR_sub (lv' := [(0, .ref (w.1 + 64)), (2, .int x2), (3, .int x3), (4, .int x4)]) [0, 1, 2, 3] rfl ?_
                      exact wX1_doActs_6_b294 F D hD rR rA hR hA (fX1_doActs_l10 F rR rA n) ih V0 V1 V2 V3 V4 V5 q28.2 V7 x2 x3 x4 _ h
                    · have h := zif_f h c30
                      refine zR_if_eq_f (tgt := 294) dX1_doActs_187 (by decide) c30 ?_
                      refine zR_aload_n dX1_doActs_190 0 rfl ?_
                      refine zR_iload dX1_doActs_191 5 rfl ?_
                      refine zR_iconst (x := (-1 : Int32)) dX1_doActs_193 (by decide) ?_
                      refine zR_iload_n dX1_doActs_194 2 rfl ?_
                      refine zR_iconst (x := (1 : Int32)) dX1_doActs_195 rfl ?_
                      refine zR_iadd dX1_doActs_196 ?_
                      obtain ⟨q31, hq32, h⟩ := zbd_some h
                      refine zR_cV (rest := []) (st1 := []) dX1_doActs_197 (hR V0 V1 V2 V3 V4 V5 q28.2 V7 q15 (-1 : Int32) (x3 + (1 : Int32)) _ hq32) zc_X1_110 rfl (zE_at zd_64) ⟨_, _, rfl⟩ rfl (Nat.le_of_ble_eq_true rfl) (Nat.le_refl _) rfl ?_
                      refine zR_goto (tgt := 294) dX1_doActs_200 (by decide) ?_
                      refine zR_sub (lv' := [(0, .ref (w.1 + 64)), (2, .int x2), (3, .int x3), (4, .int x4)]) [0, 1, 2, 3] rfl ?_
                      exact wX1_doActs_6_b294 F D hD rR rA hR hA (fX1_doActs_l10 F rR rA n) ih V0 V1 V2 V3 V4 V5 q31 V7 x2 x3 x4 _ h
                  · have h := zif_f h c27
                    by_cases c33 : q7 = (19 : Int32)
                    · have h := zif_t h c33
                      refine zR_tabc (tgt := 203) dX1_doActs_99 c33 rfl (by decide) ?_
                      refine zR_aload_n dX1_doActs_203 0 rfl ?_
                      refine zG_getR dX1_doActs_204 zf_X1_87 zd_64 rfl rfl ?_
                      refine zR_iload_n dX1_doActs_207 1 rfl ?_
                      obtain ⟨q34, hq35, h⟩ := zbd_some h
                      refine zR_cV (rest := []) (st1 := [.int q34.1]) dX1_doActs_208 (mX4_turnOff_6 F V0 V1 V2 V3 V4 V5 V6_13 V7 x2 _ hq35) zc_X1_141 rfl (zE_at zd_82) ⟨_, _, rfl⟩ rfl (Nat.le_of_ble_eq_true rfl) (Nat.le_trans (Nat.le_of_ble_eq_true rfl) hD) rfl ?_
                      by_cases c36 : q34.1 = 0
                      · have h := zif_t h c36
                        refine zR_if_eq_t (tgt := 294) dX1_doActs_211 (by decide) c36 ?_
                        refine zR_sub (lv' := [(0, .ref (w.1 + 64)), (2, .int x2), (3, .int x3), (4, .int x4)]) [0, 1, 2, 3] rfl ?_
                        exact wX1_doActs_6_b294 F D hD rR rA hR hA (fX1_doActs_l10 F rR rA n) ih V0 V1 V2 V3 V4 V5 q34.2 V7 x2 x3 x4 _ h
                      · have h := zif_f h c36
                        refine zR_if_eq_f (tgt := 294) dX1_doActs_211 (by decide) c36 ?_
                        refine zR_aload_n dX1_doActs_214 0 rfl ?_
                        refine zR_iload_n dX1_doActs_215 1 rfl ?_
                        refine zR_bipush (x := (-2 : Int32)) dX1_doActs_216 (by decide) ?_
                        refine zR_iload_n dX1_doActs_218 2 rfl ?_
                        refine zR_iconst (x := (1 : Int32)) dX1_doActs_219 rfl ?_
                        refine zR_iadd dX1_doActs_220 ?_
                        obtain ⟨q37, hq38, h⟩ := zbd_some h
                        refine zR_cV (rest := []) (st1 := []) dX1_doActs_221 (hR V0 V1 V2 V3 V4 V5 q34.2 V7 x2 (-2 : Int32) (x3 + (1 : Int32)) _ hq38) zc_X1_110 rfl (zE_at zd_64) ⟨_, _, rfl⟩ rfl (Nat.le_of_ble_eq_true rfl) (Nat.le_refl _) rfl ?_
                        refine zR_goto (tgt := 294) dX1_doActs_224 (by decide) ?_
                        refine zR_sub (lv' := [(0, .ref (w.1 + 64)), (2, .int x2), (3, .int x3), (4, .int x4)]) [0, 1, 2, 3] rfl ?_
                        exact wX1_doActs_6_b294 F D hD rR rA hR hA (fX1_doActs_l10 F rR rA n) ih V0 V1 V2 V3 V4 V5 q37 V7 x2 x3 x4 _ h
                    · have h := zif_f h c33
                      by_cases c39 : q7 = (20 : Int32)
                      · have h := zif_t h c39
                        refine zR_tabc (tgt := 227) dX1_doActs_99 c39 rfl (by decide) ?_
                        refine zR_aload_n dX1_doActs_227 0 rfl ?_
                        refine zG_getR dX1_doActs_228 zf_X1_71 zd_64 rfl rfl ?_
                        refine zR_iload dX1_doActs_231 5 rfl ?_
                        obtain ⟨q40, hq41, h⟩ := zbd_some h
                        refine zR_cV (rest := []) (st1 := []) dX1_doActs_233 (mX0_await_6 F V0 V1 V2 V3 V4 V5 V6_13 V7 q15 _ hq41) zc_X1_198 rfl (zE_at zd_74) ⟨_, _, rfl⟩ rfl (Nat.le_of_ble_eq_true rfl) (Nat.le_trans (Nat.le_of_ble_eq_true rfl) hD) rfl ?_
                        refine zR_goto (tgt := 294) dX1_doActs_236 (by decide) ?_
                        refine zR_sub (lv' := [(0, .ref (w.1 + 64)), (2, .int x2), (3, .int x3), (4, .int x4)]) [0, 1, 2, 3] rfl ?_
                        exact wX1_doActs_6_b294 F D hD rR rA hR hA (fX1_doActs_l10 F rR rA n) ih V0 V1 V2 V3 V4 V5 q40 V7 x2 x3 x4 _ h
                      · have h := zif_f h c39
                        by_cases c42 : q7 = (21 : Int32)
                        · have h := zif_t h c42
                          refine zR_tabc (tgt := 239) dX1_doActs_99 c42 rfl (by decide) ?_
                          refine zR_aload_n dX1_doActs_239 0 rfl ?_
                          refine zR_aload_n dX1_doActs_240 0 rfl ?_
                          refine zG_getI dX1_doActs_241 zf_X1_36 zd_64 rfl rfl ?_
                          by_cases c43 : (zI V6_13 0 14) = 0
                          · have h := zif_t h c43
                            refine zR_if_ne_f (tgt := 251) dX1_doActs_244 (by decide) c43 ?_
                            refine zR_iload_n dX1_doActs_247 2 rfl ?_
                            by_cases c44 : x3 = 0
                            · have h := zif_t h c44
                              refine zR_if_ne_f (tgt := 255) dX1_doActs_248 (by decide) c44 ?_
                              refine zR_sub (lv' := [(0, .ref (w.1 + 64)), (2, .int x2), (3, .int x3), (4, .int x4)]) [0, 1, 2, 3] rfl ?_
                              exact wX1_doActs_6_b251 F D hD rR rA hR hA (fX1_doActs_l10 F rR rA n) ih V0 V1 V2 V3 V4 V5 V6_13 V7 x2 x3 x4 _ h
                            · have h := zif_f h c44
                              refine zR_if_ne_t (tgt := 255) dX1_doActs_248 (by decide) c44 ?_
                              refine zR_iconst (x := (0 : Int32)) dX1_doActs_255 rfl ?_
                              refine zR_sub (lv' := [(0, .ref (w.1 + 64)), (2, .int x2), (3, .int x3), (4, .int x4)]) [0, 1, 2, 3] rfl ?_
                              exact wX1_doActs_6_b256 F D hD rR rA hR hA (fX1_doActs_l10 F rR rA n) ih V0 V1 V2 V3 V4 V5 V6_13 V7 x2 x3 x4 (0 : Int32) _ h
                          · have h := zif_f h c43
                            refine zR_if_ne_t (tgt := 251) dX1_doActs_244 (by decide) c43 ?_
                            refine zR_sub (lv' := [(0, .ref (w.1 + 64)), (2, .int x2), (3, .int x3), (4, .int x4)]) [0, 1, 2, 3] rfl ?_
                            exact wX1_doActs_6_b251 F D hD rR rA hR hA (fX1_doActs_l10 F rR rA n) ih V0 V1 V2 V3 V4 V5 V6_13 V7 x2 x3 x4 _ h
                        · have h := zif_f h c42
                          by_cases c45 : q7 = (22 : Int32)
                          · have h := zif_t h c45
                            refine zR_tabc (tgt := 262) dX1_doActs_99 c45 rfl (by decide) ?_
                            refine zR_aload_n dX1_doActs_262 0 rfl ?_
                            refine zG_getR dX1_doActs_263 zf_X1_80 zd_64 rfl rfl ?_
                            obtain ⟨q46, hq47, h⟩ := zbd_some h
                            refine zR_cV (rest := []) (st1 := []) dX1_doActs_266 (mX3_dropBall_6 F V0 V1 V2 V3 V4 V5 V6_13 V7 _ hq47) zc_X1_201 rfl (zE_at zd_78) ⟨_, _, rfl⟩ rfl (Nat.le_of_ble_eq_true rfl) (Nat.le_trans (Nat.le_of_ble_eq_true rfl) hD) rfl ?_
                            refine zR_goto (tgt := 294) dX1_doActs_269 (by decide) ?_
                            refine zR_sub (lv' := [(0, .ref (w.1 + 64)), (2, .int x2), (3, .int x3), (4, .int x4)]) [0, 1, 2, 3] rfl ?_
                            exact wX1_doActs_6_b294 F D hD rR rA hR hA (fX1_doActs_l10 F rR rA n) ih V0 V1 V2 V3 V4 V5 q46 V7 x2 x3 x4 _ h
                          · have h := zif_f h c45
                            by_cases c48 : q7 = (23 : Int32)
                            · have h := zif_t h c48
                              refine zR_tabc (tgt := 272) dX1_doActs_99 c48 rfl (by decide) ?_
                              refine zR_aload_n dX1_doActs_272 0 rfl ?_
                              refine zG_getR dX1_doActs_273 zf_X1_80 zd_64 rfl rfl ?_
                              obtain ⟨q49, hq50, h⟩ := zbd_some h
                              refine zR_cV (rest := []) (st1 := []) dX1_doActs_276 (mX3_takeBall_6 F V0 V1 V2 V3 V4 V5 V6_13 V7 _ hq50) zc_X1_100 rfl (zE_at zd_78) ⟨_, _, rfl⟩ rfl (Nat.le_of_ble_eq_true rfl) (Nat.le_trans (Nat.le_of_ble_eq_true rfl) hD) rfl ?_
                              refine zR_goto (tgt := 294) dX1_doActs_279 (by decide) ?_
                              refine zR_sub (lv' := [(0, .ref (w.1 + 64)), (2, .int x2), (3, .int x3), (4, .int x4)]) [0, 1, 2, 3] rfl ?_
                              exact wX1_doActs_6_b294 F D hD rR rA hR hA (fX1_doActs_l10 F rR rA n) ih V0 V1 V2 V3 V4 V5 q49 V7 x2 x3 x4 _ h
                            · have h := zif_f h c48
                              refine zR_tabO (tgt := 282) dX1_doActs_99 (by have u16 := zne c17 (n := 16) rfl; have u17 := zne c22 (n := 17) rfl; have u18 := zne c27 (n := 18) rfl; have u19 := zne c33 (n := 19) rfl; have u20 := zne c39 (n := 20) rfl; have u21 := zne c42 (n := 21) rfl; have u22 := zne c45 (n := 22) rfl; have u23 := zne c48 (n := 23) rfl; omega) (by decide) ?_
                              refine zR_aload_n dX1_doActs_282 0 rfl ?_
                              refine zR_iconst (x := (1 : Int32)) dX1_doActs_283 rfl ?_
                              obtain ⟨V6_51, e52, h⟩ := zlet_some h
                              refine zG_putZ zds_ok dX1_doActs_284 zf_X1_30 zt_X1_12 zd_64 rfl rfl (Or.inr rfl) e52 rfl ?_
                              refine zR_aload_n dX1_doActs_287 0 rfl ?_
                              refine zG_getR dX1_doActs_288 zf_X1_87 zd_64 rfl rfl ?_
                              obtain ⟨q53, hq54, h⟩ := zbd_some h
                              refine zR_cV (rest := []) (st1 := []) dX1_doActs_291 (mX4_turnOffAllButFirst_6 F V0 V1 V2 V3 V4 V5 V6_51 V7 _ hq54) zc_X1_153 rfl (zE_at zd_82) ⟨_, _, rfl⟩ rfl (Nat.le_of_ble_eq_true rfl) (Nat.le_trans (Nat.le_of_ble_eq_true rfl) hD) rfl ?_
                              refine zR_sub (lv' := [(0, .ref (w.1 + 64)), (2, .int x2), (3, .int x3), (4, .int x4)]) [0, 1, 2, 3] rfl ?_
                              exact wX1_doActs_6_b294 F D hD rR rA hR hA (fX1_doActs_l10 F rR rA n) ih V0 V1 V2 V3 V4 V5 q53 V7 x2 x3 x4 _ h
            · have h := zif_f h c12
              refine zR_icmp_lt_f (tgt := 74) dX1_doActs_65 (by decide) c12 ?_
              refine zR_aload_n dX1_doActs_68 0 rfl ?_
              refine zR_iconst (x := (1 : Int32)) dX1_doActs_69 rfl ?_
              obtain ⟨V6_55, e56, h⟩ := zlet_some h
              refine zG_putZ zds_ok dX1_doActs_70 zf_X1_26 zt_X1_11 zd_64 rfl rfl (Or.inr rfl) e56 rfl ?_
              have h := Option.some.inj h
              subst h
              exact zR_ret dX1_doActs_73 rfl
          · have h := zif_f h c11
            refine zR_icmp_le_f (tgt := 58) dX1_doActs_52 (by decide) c11 ?_
            refine zR_goto (tgt := 294) dX1_doActs_55 (by decide) ?_
            refine zR_sub (lv' := [(0, .ref (w.1 + 64)), (2, .int x2), (3, .int x3), (4, .int x4)]) [0, 1, 2, 3] rfl ?_
            exact wX1_doActs_6_b294 F D hD rR rA hR hA (fX1_doActs_l10 F rR rA n) ih V0 V1 V2 V3 V4 V5 V6 V7 x2 x3 x4 _ h
set_option maxRecDepth 100000 in
set_option maxHeartbeats 4000000 in
theorem mX1_doActs_6_body {w : zW} (F : Nat) (D : Nat) (hD : 4 ≤ D + 1) (rR rA : zV → zV → Int32 → Int32 → Int32 → Option zV) (hR : ∀ (V0 V1 V2 V3 V4 V5 V6 V7 : zV) (x1 x2 x3 : Int32) (res : zV), rR V4 V6 x1 x2 x3 = some res → zMet w kX1_doRules D 0 0 [.ref (w.1 + 64), .int x1, .int x2, .int x3] (zE zds w [V0, V1, V2, V3, V4, V5, V6, V7]) none (zE zds w [V0, V1, V2, V3, V4, V5, res, V7])) (hA : ∀ (V0 V1 V2 V3 V4 V5 V6 V7 : zV) (x1 x2 x3 : Int32) (res : zV), rA V4 V6 x1 x2 x3 = some res → zMet w kX1_doActs D 0 0 [.ref (w.1 + 64), .int x1, .int x2, .int x3] (zE zds w [V0, V1, V2, V3, V4, V5, V6, V7]) none (zE zds w [V0, V1, V2, V3, V4, V5, res, V7])) (V0 V1 V2 V3 V4 V5 V6 V7 : zV) (x1 : Int32) (x2 : Int32) (x3 : Int32) (res : zV) (h : fX1_doActs_body F rR rA V4 V6 x1 x2 x3 = some res) : zMet w kX1_doActs (D + 1) 0 0 [.ref (w.1 + 64), .int x1, .int x2, .int x3] (zE zds w [V0, V1, V2, V3, V4, V5, V6, V7]) none (zE zds w [V0, V1, V2, V3, V4, V5, res, V7]) := by
  refine zMet_of (by decide) (Nat.le_of_ble_eq_true rfl) (Nat.le_refl 0) fun _ => ?_
  show zR w kX1_doActs (D + 1) 0 0 none (zE zds w [V0, V1, V2, V3, V4, V5, res, V7]) 0 [(0, .ref (w.1 + 64)), (1, .int x1), (2, .int x2), (3, .int x3)] [] (zE zds w [V0, V1, V2, V3, V4, V5, V6, V7])
  unfold fX1_doActs_body at h
  refine zR_aload_n dX1_doActs_0 0 rfl ?_
  refine zG_getR dX1_doActs_1 zf_X1_49 zd_64 rfl rfl ?_
  refine zR_iload_n dX1_doActs_4 1 rfl ?_
  obtain ⟨q57, hq58, h⟩ := zbd_some h
  refine zR_cV (rest := []) (st1 := [.int q57]) dX1_doActs_5 (mX6_actsOf F V0 V1 V2 V3 V4 V5 V6 V7 x1 _ hq58) zc_X1_174 rfl (zE_at zd_28) ⟨_, _, rfl⟩ rfl (Nat.le_of_ble_eq_true rfl) (Nat.le_trans (Nat.le_of_ble_eq_true rfl) hD) rfl ?_
  refine zR_istore (lv' := [(0, .ref (w.1 + 64)), (1, .int x1), (2, .int x2), (3, .int x3), (4, .int q57)]) dX1_doActs_8 (Nat.le_of_ble_eq_true rfl) rfl ?_
  refine zR_sub (lv' := [(0, .ref (w.1 + 64)), (2, .int x2), (3, .int x3), (4, .int q57)]) [0, 2, 3, 4] rfl ?_
  exact wX1_doActs_6_l10 F D hD rR rA hR hA F V0 V1 V2 V3 V4 V5 V6 V7 x2 x3 q57 _ h
set_option maxRecDepth 100000 in
set_option maxHeartbeats 4000000 in
theorem wX1_doRules_6_b116 {w : zW} (F : Nat) (D : Nat) (hD : 4 ≤ D + 1) (rR rA : zV → zV → Int32 → Int32 → Int32 → Option zV) (hR : ∀ (V0 V1 V2 V3 V4 V5 V6 V7 : zV) (x1 x2 x3 : Int32) (res : zV), rR V4 V6 x1 x2 x3 = some res → zMet w kX1_doRules D 0 0 [.ref (w.1 + 64), .int x1, .int x2, .int x3] (zE zds w [V0, V1, V2, V3, V4, V5, V6, V7]) none (zE zds w [V0, V1, V2, V3, V4, V5, res, V7])) (hA : ∀ (V0 V1 V2 V3 V4 V5 V6 V7 : zV) (x1 x2 x3 : Int32) (res : zV), rA V4 V6 x1 x2 x3 = some res → zMet w kX1_doActs D 0 0 [.ref (w.1 + 64), .int x1, .int x2, .int x3] (zE zds w [V0, V1, V2, V3, V4, V5, V6, V7]) none (zE zds w [V0, V1, V2, V3, V4, V5, res, V7])) (k27 : zV → zV → Int32 → Int32 → Int32 → Int32 → Int32 → Option (zV)) (hk27 : ∀ (V0 V1 V2 V3 V4 V5 V6 V7 : zV) (x1 : Int32) (x2 : Int32) (x3 : Int32) (x4 : Int32) (x5 : Int32) (res : zV), k27 V4 V6 x1 x2 x3 x4 x5 = some res → zR w kX1_doRules (D + 1) 0 0 none (zE zds w [V0, V1, V2, V3, V4, V5, res, V7]) 27 [(0, .ref (w.1 + 64)), (1, .int x1), (2, .int x2), (3, .int x3), (4, .int x4), (5, .int x5)] [] (zE zds w [V0, V1, V2, V3, V4, V5, V6, V7])) (V0 V1 V2 V3 V4 V5 V6 V7 : zV) (x1 : Int32) (x2 : Int32) (x3 : Int32) (x4 : Int32) (x5 : Int32) (res : zV) (h : fX1_doRules_b116 F rR rA k27 V4 V6 x1 x2 x3 x4 x5 = some res) : zR w kX1_doRules (D + 1) 0 0 none (zE zds w [V0, V1, V2, V3, V4, V5, res, V7]) 116 [(0, .ref (w.1 + 64)), (1, .int x1), (2, .int x2), (3, .int x3), (4, .int x4), (5, .int x5)] [] (zE zds w [V0, V1, V2, V3, V4, V5, V6, V7]) := by
  unfold fX1_doRules_b116 at h
  refine zR_iinc (u := (x5 + 1)) (lv' := [(0, .ref (w.1 + 64)), (1, .int x1), (2, .int x2), (3, .int x3), (4, .int x4), (5, .int (x5 + 1))]) dX1_doRules_116 5 rfl rfl (Nat.le_of_ble_eq_true rfl) rfl ?_
  refine zR_goto (tgt := 27) dX1_doRules_119 (by decide) ?_
  exact hk27 V0 V1 V2 V3 V4 V5 V6 V7 x1 x2 x3 x4 (x5 + 1) _ h
set_option maxRecDepth 100000 in
set_option maxHeartbeats 4000000 in
theorem wX1_doRules_6_b97 {w : zW} (F : Nat) (D : Nat) (hD : 4 ≤ D + 1) (rR rA : zV → zV → Int32 → Int32 → Int32 → Option zV) (hR : ∀ (V0 V1 V2 V3 V4 V5 V6 V7 : zV) (x1 x2 x3 : Int32) (res : zV), rR V4 V6 x1 x2 x3 = some res → zMet w kX1_doRules D 0 0 [.ref (w.1 + 64), .int x1, .int x2, .int x3] (zE zds w [V0, V1, V2, V3, V4, V5, V6, V7]) none (zE zds w [V0, V1, V2, V3, V4, V5, res, V7])) (hA : ∀ (V0 V1 V2 V3 V4 V5 V6 V7 : zV) (x1 x2 x3 : Int32) (res : zV), rA V4 V6 x1 x2 x3 = some res → zMet w kX1_doActs D 0 0 [.ref (w.1 + 64), .int x1, .int x2, .int x3] (zE zds w [V0, V1, V2, V3, V4, V5, V6, V7]) none (zE zds w [V0, V1, V2, V3, V4, V5, res, V7])) (k27 : zV → zV → Int32 → Int32 → Int32 → Int32 → Int32 → Option (zV)) (hk27 : ∀ (V0 V1 V2 V3 V4 V5 V6 V7 : zV) (x1 : Int32) (x2 : Int32) (x3 : Int32) (x4 : Int32) (x5 : Int32) (res : zV), k27 V4 V6 x1 x2 x3 x4 x5 = some res → zR w kX1_doRules (D + 1) 0 0 none (zE zds w [V0, V1, V2, V3, V4, V5, res, V7]) 27 [(0, .ref (w.1 + 64)), (1, .int x1), (2, .int x2), (3, .int x3), (4, .int x4), (5, .int x5)] [] (zE zds w [V0, V1, V2, V3, V4, V5, V6, V7])) (V0 V1 V2 V3 V4 V5 V6 V7 : zV) (x1 : Int32) (x2 : Int32) (x3 : Int32) (x4 : Int32) (x5 : Int32) (s0 : Int32) (res : zV) (h : fX1_doRules_b97 F rR rA k27 V4 V6 x1 x2 x3 x4 x5 s0 = some res) : zR w kX1_doRules (D + 1) 0 0 none (zE zds w [V0, V1, V2, V3, V4, V5, res, V7]) 97 [(0, .ref (w.1 + 64)), (1, .int x1), (2, .int x2), (3, .int x3), (4, .int x4), (5, .int x5)] [.int s0] (zE zds w [V0, V1, V2, V3, V4, V5, V6, V7]) := by
  unfold fX1_doRules_b97 at h
  refine zR_istore (lv' := [(0, .ref (w.1 + 64)), (1, .int x1), (2, .int x2), (3, .int x3), (4, .int x4), (5, .int x5), (6, .int s0)]) dX1_doRules_97 (Nat.le_of_ble_eq_true rfl) rfl ?_
  refine zR_iload dX1_doRules_99 6 rfl ?_
  by_cases c1 : s0 = 0
  · have h := zif_t h c1
    refine zR_if_ne_f (tgt := 115) dX1_doRules_101 (by decide) c1 ?_
    refine zR_iload_n dX1_doRules_104 3 rfl ?_
    by_cases c2 : x3 = 0
    · have h := zif_t h c2
      refine zR_if_ne_f (tgt := 116) dX1_doRules_105 (by decide) c2 ?_
      refine zR_aload_n dX1_doRules_108 0 rfl ?_
      refine zG_getI dX1_doRules_109 zf_X1_36 zd_64 rfl rfl ?_
      by_cases c3 : (zI V6 0 14) = 0
      · have h := zif_t h c3
        refine zR_if_eq_t (tgt := 116) dX1_doRules_112 (by decide) c3 ?_
        refine zR_sub (lv' := [(0, .ref (w.1 + 64)), (1, .int x1), (2, .int x2), (3, .int x3), (4, .int x4), (5, .int x5)]) [0, 1, 2, 3, 4, 5] rfl ?_
        exact wX1_doRules_6_b116 F D hD rR rA hR hA k27 hk27 V0 V1 V2 V3 V4 V5 V6 V7 x1 x2 x3 x4 x5 _ h
      · have h := zif_f h c3
        refine zR_if_eq_f (tgt := 116) dX1_doRules_112 (by decide) c3 ?_
        have h := Option.some.inj h
        subst h
        exact zR_ret dX1_doRules_115 rfl
    · have h := zif_f h c2
      refine zR_if_ne_t (tgt := 116) dX1_doRules_105 (by decide) c2 ?_
      refine zR_sub (lv' := [(0, .ref (w.1 + 64)), (1, .int x1), (2, .int x2), (3, .int x3), (4, .int x4), (5, .int x5)]) [0, 1, 2, 3, 4, 5] rfl ?_
      exact wX1_doRules_6_b116 F D hD rR rA hR hA k27 hk27 V0 V1 V2 V3 V4 V5 V6 V7 x1 x2 x3 x4 x5 _ h
  · have h := zif_f h c1
    refine zR_if_ne_t (tgt := 115) dX1_doRules_101 (by decide) c1 ?_
    have h := Option.some.inj h
    subst h
    exact zR_ret dX1_doRules_115 rfl
set_option maxRecDepth 100000 in
set_option maxHeartbeats 4000000 in
theorem wX1_doRules_6_b96 {w : zW} (F : Nat) (D : Nat) (hD : 4 ≤ D + 1) (rR rA : zV → zV → Int32 → Int32 → Int32 → Option zV) (hR : ∀ (V0 V1 V2 V3 V4 V5 V6 V7 : zV) (x1 x2 x3 : Int32) (res : zV), rR V4 V6 x1 x2 x3 = some res → zMet w kX1_doRules D 0 0 [.ref (w.1 + 64), .int x1, .int x2, .int x3] (zE zds w [V0, V1, V2, V3, V4, V5, V6, V7]) none (zE zds w [V0, V1, V2, V3, V4, V5, res, V7])) (hA : ∀ (V0 V1 V2 V3 V4 V5 V6 V7 : zV) (x1 x2 x3 : Int32) (res : zV), rA V4 V6 x1 x2 x3 = some res → zMet w kX1_doActs D 0 0 [.ref (w.1 + 64), .int x1, .int x2, .int x3] (zE zds w [V0, V1, V2, V3, V4, V5, V6, V7]) none (zE zds w [V0, V1, V2, V3, V4, V5, res, V7])) (k27 : zV → zV → Int32 → Int32 → Int32 → Int32 → Int32 → Option (zV)) (hk27 : ∀ (V0 V1 V2 V3 V4 V5 V6 V7 : zV) (x1 : Int32) (x2 : Int32) (x3 : Int32) (x4 : Int32) (x5 : Int32) (res : zV), k27 V4 V6 x1 x2 x3 x4 x5 = some res → zR w kX1_doRules (D + 1) 0 0 none (zE zds w [V0, V1, V2, V3, V4, V5, res, V7]) 27 [(0, .ref (w.1 + 64)), (1, .int x1), (2, .int x2), (3, .int x3), (4, .int x4), (5, .int x5)] [] (zE zds w [V0, V1, V2, V3, V4, V5, V6, V7])) (V0 V1 V2 V3 V4 V5 V6 V7 : zV) (x1 : Int32) (x2 : Int32) (x3 : Int32) (x4 : Int32) (x5 : Int32) (res : zV) (h : fX1_doRules_b96 F rR rA k27 V4 V6 x1 x2 x3 x4 x5 = some res) : zR w kX1_doRules (D + 1) 0 0 none (zE zds w [V0, V1, V2, V3, V4, V5, res, V7]) 96 [(0, .ref (w.1 + 64)), (1, .int x1), (2, .int x2), (3, .int x3), (4, .int x4), (5, .int x5)] [] (zE zds w [V0, V1, V2, V3, V4, V5, V6, V7]) := by
  unfold fX1_doRules_b96 at h
  refine zR_iconst (x := (0 : Int32)) dX1_doRules_96 rfl ?_
  exact wX1_doRules_6_b97 F D hD rR rA hR hA k27 hk27 V0 V1 V2 V3 V4 V5 V6 V7 x1 x2 x3 x4 x5 (0 : Int32) _ h
set_option maxRecDepth 100000 in
set_option maxHeartbeats 4000000 in
theorem wX1_doRules_6_l27 {w : zW} (F : Nat) (D : Nat) (hD : 4 ≤ D + 1) (rR rA : zV → zV → Int32 → Int32 → Int32 → Option zV) (hR : ∀ (V0 V1 V2 V3 V4 V5 V6 V7 : zV) (x1 x2 x3 : Int32) (res : zV), rR V4 V6 x1 x2 x3 = some res → zMet w kX1_doRules D 0 0 [.ref (w.1 + 64), .int x1, .int x2, .int x3] (zE zds w [V0, V1, V2, V3, V4, V5, V6, V7]) none (zE zds w [V0, V1, V2, V3, V4, V5, res, V7])) (hA : ∀ (V0 V1 V2 V3 V4 V5 V6 V7 : zV) (x1 x2 x3 : Int32) (res : zV), rA V4 V6 x1 x2 x3 = some res → zMet w kX1_doActs D 0 0 [.ref (w.1 + 64), .int x1, .int x2, .int x3] (zE zds w [V0, V1, V2, V3, V4, V5, V6, V7]) none (zE zds w [V0, V1, V2, V3, V4, V5, res, V7])) : ∀ (n : Nat) (V0 V1 V2 V3 V4 V5 V6 V7 : zV) (x1 : Int32) (x2 : Int32) (x3 : Int32) (x4 : Int32) (x5 : Int32) (res : zV), fX1_doRules_l27 F rR rA n V4 V6 x1 x2 x3 x4 x5 = some res → zR w kX1_doRules (D + 1) 0 0 none (zE zds w [V0, V1, V2, V3, V4, V5, res, V7]) 27 [(0, .ref (w.1 + 64)), (1, .int x1), (2, .int x2), (3, .int x3), (4, .int x4), (5, .int x5)] [] (zE zds w [V0, V1, V2, V3, V4, V5, V6, V7]) := by
  intro n
  induction n with
  | zero =>
    intro V0 V1 V2 V3 V4 V5 V6 V7 x1 x2 x3 x4 x5 res h
    simp [fX1_doRules_l27] at h
  | succ n ih =>
    intro V0 V1 V2 V3 V4 V5 V6 V7 x1 x2 x3 x4 x5 res h
    rw [fX1_doRules_l27] at h
    refine zR_iload dX1_doRules_27 5 rfl ?_
    refine zR_aload_n dX1_doRules_29 0 rfl ?_
    refine zG_getR dX1_doRules_30 zf_X1_49 zd_64 rfl rfl ?_
    refine zR_iload_n dX1_doRules_33 1 rfl ?_
    refine zR_iconst (x := (1 : Int32)) dX1_doRules_34 rfl ?_
    refine zR_iadd dX1_doRules_35 ?_
    obtain ⟨q4, hq5, h⟩ := zbd_some h
    refine zR_cV (rest := [.int x5]) (st1 := [.int q4, .int x5]) dX1_doRules_36 (mX6_headOf F V0 V1 V2 V3 V4 V5 V6 V7 (x1 + (1 : Int32)) _ hq5) zc_X1_159 rfl (zE_at zd_28) ⟨_, _, rfl⟩ rfl (Nat.le_of_ble_eq_true rfl) (Nat.le_trans (Nat.le_of_ble_eq_true rfl) hD) rfl ?_
    by_cases c6 : q4 ≤ x5
    · have h := zif_t h c6
      refine zR_icmp_ge_t (tgt := 122) dX1_doRules_39 (by decide) c6 ?_
      have h := Option.some.inj h
      subst h
      exact zR_ret dX1_doRules_122 rfl
    · have h := zif_f h c6
      refine zR_icmp_ge_f (tgt := 122) dX1_doRules_39 (by decide) c6 ?_
      refine zR_aload_n dX1_doRules_42 0 rfl ?_
      refine zG_getR dX1_doRules_43 zf_X1_49 zd_64 rfl rfl ?_
      refine zR_iload dX1_doRules_46 5 rfl ?_
      refine zR_iload_n dX1_doRules_48 2 rfl ?_
      obtain ⟨q7, hq8, h⟩ := zbd_some h
      refine zR_cV (rest := []) (st1 := [.int q7]) dX1_doRules_49 (mX6_isOn F V0 V1 V2 V3 V4 V5 V6 V7 x5 x2 _ hq8) zc_X1_164 rfl (zE_at zd_28) ⟨_, _, rfl⟩ rfl (Nat.le_of_ble_eq_true rfl) (Nat.le_trans (Nat.le_of_ble_eq_true rfl) hD) rfl ?_
      by_cases c9 : q7 = 0
      · have h := zif_t h c9
        refine zR_if_eq_t (tgt := 116) dX1_doRules_52 (by decide) c9 ?_
        exact wX1_doRules_6_b116 F D hD rR rA hR hA (fX1_doRules_l27 F rR rA n) ih V0 V1 V2 V3 V4 V5 V6 V7 x1 x2 x3 x4 x5 _ h
      · have h := zif_f h c9
        refine zR_if_eq_f (tgt := 116) dX1_doRules_52 (by decide) c9 ?_
        refine zR_aload_n dX1_doRules_55 0 rfl ?_
        refine zR_iload dX1_doRules_56 5 rfl ?_
        refine zR_iload_n dX1_doRules_58 1 rfl ?_
        obtain ⟨q10, hq11, h⟩ := zbd_some h
        refine zR_cV (rest := []) (st1 := [.int q10.1]) dX1_doRules_59 (mX1_holds_6 F V0 V1 V2 V3 V4 V5 V6 V7 x5 x1 _ hq11) zc_X1_168 rfl (zE_at zd_64) ⟨_, _, rfl⟩ rfl (Nat.le_of_ble_eq_true rfl) (Nat.le_trans (Nat.le_of_ble_eq_true rfl) hD) rfl ?_
        by_cases c12 : q10.1 = 0
        · have h := zif_t h c12
          refine zR_if_eq_t (tgt := 116) dX1_doRules_62 (by decide) c12 ?_
          exact wX1_doRules_6_b116 F D hD rR rA hR hA (fX1_doRules_l27 F rR rA n) ih V0 V1 V2 V3 V4 V5 q10.2 V7 x1 x2 x3 x4 x5 _ h
        · have h := zif_f h c12
          refine zR_if_eq_f (tgt := 116) dX1_doRules_62 (by decide) c12 ?_
          refine zR_aload_n dX1_doRules_65 0 rfl ?_
          refine zR_iload dX1_doRules_66 5 rfl ?_
          refine zR_iload_n dX1_doRules_68 1 rfl ?_
          refine zR_iload_n dX1_doRules_69 3 rfl ?_
          obtain ⟨q13, hq14, h⟩ := zbd_some h
          refine zR_cV (rest := []) (st1 := []) dX1_doRules_70 (hA V0 V1 V2 V3 V4 V5 q10.2 V7 x5 x1 x3 _ hq14) zc_X1_171 rfl (zE_at zd_64) ⟨_, _, rfl⟩ rfl (Nat.le_of_ble_eq_true rfl) (Nat.le_refl _) rfl ?_
          refine zR_iload_n dX1_doRules_73 2 rfl ?_
          refine zR_bipush (x := (-2 : Int32)) dX1_doRules_74 (by decide) ?_
          by_cases c15 : x2 = (-2 : Int32)
          · have h := zif_t h c15
            refine zR_icmp_eq_t (tgt := 96) dX1_doRules_76 (by decide) c15 ?_
            exact wX1_doRules_6_b96 F D hD rR rA hR hA (fX1_doRules_l27 F rR rA n) ih V0 V1 V2 V3 V4 V5 q13 V7 x1 x2 x3 x4 x5 _ h
          · have h := zif_f h c15
            refine zR_icmp_eq_f (tgt := 96) dX1_doRules_76 (by decide) c15 ?_
            refine zR_aload_n dX1_doRules_79 0 rfl ?_
            refine zG_getR dX1_doRules_80 zf_X1_87 zd_64 rfl rfl ?_
            refine zR_iload_n dX1_doRules_83 1 rfl ?_
            obtain ⟨q16, hq17, h⟩ := zbd_some h
            refine zR_cV (rest := []) (st1 := [.int q16]) dX1_doRules_84 (mX4_offsOf_6 F V0 V1 V2 V3 V4 V5 q13 V7 x1 _ hq17) zc_X1_156 rfl (zE_at zd_82) ⟨_, _, rfl⟩ rfl (Nat.le_of_ble_eq_true rfl) (Nat.le_trans (Nat.le_of_ble_eq_true rfl) hD) rfl ?_
            refine zR_iload dX1_doRules_87 4 rfl ?_
            by_cases c18 : q16 = x4
            · have h := zif_t h c18
              refine zR_icmp_eq_t (tgt := 96) dX1_doRules_89 (by decide) c18 ?_
              exact wX1_doRules_6_b96 F D hD rR rA hR hA (fX1_doRules_l27 F rR rA n) ih V0 V1 V2 V3 V4 V5 q13 V7 x1 x2 x3 x4 x5 _ h
            · have h := zif_f h c18
              refine zR_icmp_eq_f (tgt := 96) dX1_doRules_89 (by decide) c18 ?_
              refine zR_iconst (x := (1 : Int32)) dX1_doRules_92 rfl ?_
              refine zR_goto (tgt := 97) dX1_doRules_93 (by decide) ?_
              exact wX1_doRules_6_b97 F D hD rR rA hR hA (fX1_doRules_l27 F rR rA n) ih V0 V1 V2 V3 V4 V5 q13 V7 x1 x2 x3 x4 x5 (1 : Int32) _ h
set_option maxRecDepth 100000 in
set_option maxHeartbeats 4000000 in
theorem mX1_doRules_6_body {w : zW} (F : Nat) (D : Nat) (hD : 4 ≤ D + 1) (rR rA : zV → zV → Int32 → Int32 → Int32 → Option zV) (hR : ∀ (V0 V1 V2 V3 V4 V5 V6 V7 : zV) (x1 x2 x3 : Int32) (res : zV), rR V4 V6 x1 x2 x3 = some res → zMet w kX1_doRules D 0 0 [.ref (w.1 + 64), .int x1, .int x2, .int x3] (zE zds w [V0, V1, V2, V3, V4, V5, V6, V7]) none (zE zds w [V0, V1, V2, V3, V4, V5, res, V7])) (hA : ∀ (V0 V1 V2 V3 V4 V5 V6 V7 : zV) (x1 x2 x3 : Int32) (res : zV), rA V4 V6 x1 x2 x3 = some res → zMet w kX1_doActs D 0 0 [.ref (w.1 + 64), .int x1, .int x2, .int x3] (zE zds w [V0, V1, V2, V3, V4, V5, V6, V7]) none (zE zds w [V0, V1, V2, V3, V4, V5, res, V7])) (V0 V1 V2 V3 V4 V5 V6 V7 : zV) (x1 : Int32) (x2 : Int32) (x3 : Int32) (res : zV) (h : fX1_doRules_body F rR rA V4 V6 x1 x2 x3 = some res) : zMet w kX1_doRules (D + 1) 0 0 [.ref (w.1 + 64), .int x1, .int x2, .int x3] (zE zds w [V0, V1, V2, V3, V4, V5, V6, V7]) none (zE zds w [V0, V1, V2, V3, V4, V5, res, V7]) := by
  refine zMet_of (by decide) (Nat.le_of_ble_eq_true rfl) (Nat.le_refl 0) fun _ => ?_
  show zR w kX1_doRules (D + 1) 0 0 none (zE zds w [V0, V1, V2, V3, V4, V5, res, V7]) 0 [(0, .ref (w.1 + 64)), (1, .int x1), (2, .int x2), (3, .int x3)] [] (zE zds w [V0, V1, V2, V3, V4, V5, V6, V7])
  unfold fX1_doRules_body at h
  refine zR_iload_n dX1_doRules_0 3 rfl ?_
  refine zR_bipush (x := (8 : Int32)) dX1_doRules_1 rfl ?_
  by_cases c19 : x3 ≤ (8 : Int32)
  · have h := zif_t h c19
    refine zR_icmp_le_t (tgt := 7) dX1_doRules_3 (by decide) c19 ?_
    refine zR_aload_n dX1_doRules_7 0 rfl ?_
    refine zG_getR dX1_doRules_8 zf_X1_87 zd_64 rfl rfl ?_
    refine zR_iload_n dX1_doRules_11 1 rfl ?_
    obtain ⟨q20, hq21, h⟩ := zbd_some h
    refine zR_cV (rest := []) (st1 := [.int q20]) dX1_doRules_12 (mX4_offsOf_6 F V0 V1 V2 V3 V4 V5 V6 V7 x1 _ hq21) zc_X1_156 rfl (zE_at zd_82) ⟨_, _, rfl⟩ rfl (Nat.le_of_ble_eq_true rfl) (Nat.le_trans (Nat.le_of_ble_eq_true rfl) hD) rfl ?_
    refine zR_istore (lv' := [(0, .ref (w.1 + 64)), (1, .int x1), (2, .int x2), (3, .int x3), (4, .int q20)]) dX1_doRules_15 (Nat.le_of_ble_eq_true rfl) rfl ?_
    refine zR_aload_n dX1_doRules_17 0 rfl ?_
    refine zG_getR dX1_doRules_18 zf_X1_49 zd_64 rfl rfl ?_
    refine zR_iload_n dX1_doRules_21 1 rfl ?_
    obtain ⟨q22, hq23, h⟩ := zbd_some h
    refine zR_cV (rest := []) (st1 := [.int q22]) dX1_doRules_22 (mX6_headOf F V0 V1 V2 V3 V4 V5 V6 V7 x1 _ hq23) zc_X1_159 rfl (zE_at zd_28) ⟨_, _, rfl⟩ rfl (Nat.le_of_ble_eq_true rfl) (Nat.le_trans (Nat.le_of_ble_eq_true rfl) hD) rfl ?_
    refine zR_istore (lv' := [(0, .ref (w.1 + 64)), (1, .int x1), (2, .int x2), (3, .int x3), (4, .int q20), (5, .int q22)]) dX1_doRules_25 (Nat.le_of_ble_eq_true rfl) rfl ?_
    exact wX1_doRules_6_l27 F D hD rR rA hR hA F V0 V1 V2 V3 V4 V5 V6 V7 x1 x2 x3 q20 q22 _ h
  · have h := zif_f h c19
    refine zR_icmp_le_f (tgt := 7) dX1_doRules_3 (by decide) c19 ?_
    have h := Option.some.inj h
    subst h
    exact zR_ret dX1_doRules_6 rfl
theorem mX1_rec_6 {w : zW} (F : Nat) : ∀ n : Nat, (∀ (V0 V1 V2 V3 V4 V5 V6 V7 : zV) (x1 x2 x3 : Int32) (res : zV), fX1_rec F n false V4 V6 x1 x2 x3 = some res → zMet w kX1_doRules (4 + n) 0 0 [.ref (w.1 + 64), .int x1, .int x2, .int x3] (zE zds w [V0, V1, V2, V3, V4, V5, V6, V7]) none (zE zds w [V0, V1, V2, V3, V4, V5, res, V7])) ∧ (∀ (V0 V1 V2 V3 V4 V5 V6 V7 : zV) (x1 x2 x3 : Int32) (res : zV), fX1_rec F n true V4 V6 x1 x2 x3 = some res → zMet w kX1_doActs (4 + n) 0 0 [.ref (w.1 + 64), .int x1, .int x2, .int x3] (zE zds w [V0, V1, V2, V3, V4, V5, V6, V7]) none (zE zds w [V0, V1, V2, V3, V4, V5, res, V7])) := by
  intro n
  induction n with
  | zero => exact ⟨fun V0 V1 V2 V3 V4 V5 V6 V7 x1 x2 x3 res h => by simp [fX1_rec] at h, fun V0 V1 V2 V3 V4 V5 V6 V7 x1 x2 x3 res h => by simp [fX1_rec] at h⟩
  | succ n ih => exact ⟨fun V0 V1 V2 V3 V4 V5 V6 V7 x1 x2 x3 res h => mX1_doRules_6_body F (4 + n) (by omega) _ _ ih.1 ih.2 V0 V1 V2 V3 V4 V5 V6 V7 x1 x2 x3 res (by rw [fX1_rec] at h; exact h), fun V0 V1 V2 V3 V4 V5 V6 V7 x1 x2 x3 res h => mX1_doActs_6_body F (4 + n) (by omega) _ _ ih.1 ih.2 V0 V1 V2 V3 V4 V5 V6 V7 x1 x2 x3 res (by rw [fX1_rec] at h; exact h)⟩
theorem mX1_doRules_6 {w : zW} (F : Nat) (V0 V1 V2 V3 V4 V5 V6 V7 : zV) (x1 x2 x3 : Int32) (res : zV) (h : fX1_doRules F V4 V6 x1 x2 x3 = some res) : zMet w kX1_doRules 24 0 0 [.ref (w.1 + 64), .int x1, .int x2, .int x3] (zE zds w [V0, V1, V2, V3, V4, V5, V6, V7]) none (zE zds w [V0, V1, V2, V3, V4, V5, res, V7]) := (mX1_rec_6 F 20).1 V0 V1 V2 V3 V4 V5 V6 V7 x1 x2 x3 res h
theorem mX1_doActs_6 {w : zW} (F : Nat) (V0 V1 V2 V3 V4 V5 V6 V7 : zV) (x1 x2 x3 : Int32) (res : zV) (h : fX1_doActs F V4 V6 x1 x2 x3 = some res) : zMet w kX1_doActs 24 0 0 [.ref (w.1 + 64), .int x1, .int x2, .int x3] (zE zds w [V0, V1, V2, V3, V4, V5, V6, V7]) none (zE zds w [V0, V1, V2, V3, V4, V5, res, V7]) := (mX1_rec_6 F 20).2 V0 V1 V2 V3 V4 V5 V6 V7 x1 x2 x3 res h
set_option maxRecDepth 100000 in
set_option maxHeartbeats 4000000 in
theorem mX1_endBallIfNoneInPlay_6 {w : zW} (F : Nat) (V0 V1 V2 V3 V4 V5 V6 V7 : zV) (res : zV) (h : fX1_endBallIfNoneInPlay F V4 V6 = some res) : zMet w kX1_endBallIfNoneInPlay 4 0 0 [.ref (w.1 + 64)] (zE zds w [V0, V1, V2, V3, V4, V5, V6, V7]) none (zE zds w [V0, V1, V2, V3, V4, V5, res, V7]) := by
  refine zMet_of (by decide) (Nat.le_of_ble_eq_true rfl) (Nat.le_refl 0) fun _ => ?_
  show zR w kX1_endBallIfNoneInPlay 4 0 0 none (zE zds w [V0, V1, V2, V3, V4, V5, res, V7]) 0 [(0, .ref (w.1 + 64))] [] (zE zds w [V0, V1, V2, V3, V4, V5, V6, V7])
  unfold fX1_endBallIfNoneInPlay at h
  refine zR_aload_n dX1_endBallIfNoneInPlay_0 0 rfl ?_
  refine zG_getI dX1_endBallIfNoneInPlay_1 zf_X1_19 zd_64 rfl rfl ?_
  by_cases c1 : (zI V6 0 9) = 0
  · have h := zif_t h c1
    refine zR_if_eq_t (tgt := 17) dX1_endBallIfNoneInPlay_4 (by decide) c1 ?_
    have h := Option.some.inj h
    subst h
    exact zR_ret dX1_endBallIfNoneInPlay_17 rfl
  · have h := zif_f h c1
    refine zR_if_eq_f (tgt := 17) dX1_endBallIfNoneInPlay_4 (by decide) c1 ?_
    refine zR_aload_n dX1_endBallIfNoneInPlay_7 0 rfl ?_
    refine zG_getR dX1_endBallIfNoneInPlay_8 zf_X1_80 zd_64 rfl rfl ?_
    refine zG_getI dX1_endBallIfNoneInPlay_11 zf_X1_150 zd_78 rfl rfl ?_
    by_cases c2 : (zI V6 14 7) ≤ 0
    · have h := zif_t h c2
      refine zR_if_le_t (tgt := 18) dX1_endBallIfNoneInPlay_14 (by decide) c2 ?_
      refine zR_aload_n dX1_endBallIfNoneInPlay_18 0 rfl ?_
      refine zG_getR dX1_endBallIfNoneInPlay_19 zf_X1_87 zd_64 rfl rfl ?_
      obtain ⟨q3, hq4, h⟩ := zbd_some h
      refine zR_cV (rest := []) (st1 := []) dX1_endBallIfNoneInPlay_22 (mX4_turnOffAllButFirst_6 F V0 V1 V2 V3 V4 V5 V6 V7 _ hq4) zc_X1_153 rfl (zE_at zd_82) ⟨_, _, rfl⟩ rfl (Nat.le_of_ble_eq_true rfl) (Nat.le_of_ble_eq_true rfl) rfl ?_
      refine zR_aload_n dX1_endBallIfNoneInPlay_25 0 rfl ?_
      refine zR_iconst (x := (0 : Int32)) dX1_endBallIfNoneInPlay_26 rfl ?_
      obtain ⟨V6_5, e6, h⟩ := zlet_some h
      refine zG_putZ zds_ok dX1_endBallIfNoneInPlay_27 zf_X1_30 zt_X1_12 zd_64 rfl rfl (Or.inl rfl) e6 rfl ?_
      refine zR_aload_n dX1_endBallIfNoneInPlay_30 0 rfl ?_
      refine zG_getI dX1_endBallIfNoneInPlay_31 zf_X1_19 zd_64 rfl rfl ?_
      refine zR_iconst (x := (3 : Int32)) dX1_endBallIfNoneInPlay_34 rfl ?_
      by_cases c7 : (zI V6_5 0 9) = (3 : Int32)
      · have h := zif_t h c7
        refine zR_icmp_ne_f (tgt := 46) dX1_endBallIfNoneInPlay_35 (by decide) c7 ?_
        refine zR_aload_n dX1_endBallIfNoneInPlay_38 0 rfl ?_
        refine zR_iconst (x := (0 : Int32)) dX1_endBallIfNoneInPlay_39 rfl ?_
        obtain ⟨V6_12, e13, h⟩ := zlet_some h
        refine zG_putI zds_ok dX1_endBallIfNoneInPlay_40 zf_X1_19 zt_X1_9 zd_64 rfl rfl e13 rfl ?_
        refine zR_goto (tgt := 63) dX1_endBallIfNoneInPlay_43 (by decide) ?_
        have h := Option.some.inj h
        subst h
        exact zR_ret dX1_endBallIfNoneInPlay_63 rfl
      · have h := zif_f h c7
        refine zR_icmp_ne_t (tgt := 46) dX1_endBallIfNoneInPlay_35 (by decide) c7 ?_
        refine zR_aload_n dX1_endBallIfNoneInPlay_46 0 rfl ?_
        refine zR_dup dX1_endBallIfNoneInPlay_47 rfl ?_
        refine zG_getI dX1_endBallIfNoneInPlay_48 zf_X1_19 zd_64 rfl rfl ?_
        refine zR_iconst (x := (1 : Int32)) dX1_endBallIfNoneInPlay_51 rfl ?_
        refine zR_iadd dX1_endBallIfNoneInPlay_52 ?_
        obtain ⟨V6_8, e9, h⟩ := zlet_some h
        refine zG_putI zds_ok dX1_endBallIfNoneInPlay_53 zf_X1_19 zt_X1_9 zd_64 rfl rfl e9 rfl ?_
        refine zR_aload_n dX1_endBallIfNoneInPlay_56 0 rfl ?_
        refine zG_getR dX1_endBallIfNoneInPlay_57 zf_X1_80 zd_64 rfl rfl ?_
        obtain ⟨q10, hq11, h⟩ := zbd_some h
        refine zR_cV (rest := []) (st1 := []) dX1_endBallIfNoneInPlay_60 (mX3_takeBall_6 F V0 V1 V2 V3 V4 V5 V6_8 V7 _ hq11) zc_X1_100 rfl (zE_at zd_78) ⟨_, _, rfl⟩ rfl (Nat.le_of_ble_eq_true rfl) (Nat.le_of_ble_eq_true rfl) rfl ?_
        have h := Option.some.inj h
        subst h
        exact zR_ret dX1_endBallIfNoneInPlay_63 rfl
    · have h := zif_f h c2
      refine zR_if_le_f (tgt := 18) dX1_endBallIfNoneInPlay_14 (by decide) c2 ?_
      have h := Option.some.inj h
      subst h
      exact zR_ret dX1_endBallIfNoneInPlay_17 rfl
set_option maxRecDepth 100000 in
set_option maxHeartbeats 4000000 in
theorem wX1_open_6_b114 {w : zW} (F : Nat) (V0 V1 V2 V3 V4 V5 V6 V7 : zV) (res : zV) (h : fX1_open_b114 F V4 V6 = some res) : zR w kX1_open 25 0 0 none (zE zds w [V0, V1, V2, V3, V4, V5, res, V7]) 114 [(0, .ref (w.1 + 64))] [] (zE zds w [V0, V1, V2, V3, V4, V5, V6, V7]) := by
  unfold fX1_open_b114 at h
  refine zR_aload_n dX1_open_114 0 rfl ?_
  obtain ⟨q1, hq2, h⟩ := zbd_some h
  refine zR_cV (rest := []) (st1 := []) dX1_open_115 (mX1_endBallIfNoneInPlay_6 F V0 V1 V2 V3 V4 V5 V6 V7 _ hq2) zc_X1_114 rfl (zE_at zd_64) ⟨_, _, rfl⟩ rfl (Nat.le_of_ble_eq_true rfl) (Nat.le_of_ble_eq_true rfl) rfl ?_
  have h := Option.some.inj h
  subst h
  exact zR_ret dX1_open_118 rfl
set_option maxRecDepth 100000 in
set_option maxHeartbeats 4000000 in
theorem wX1_open_6_l23 {w : zW} (F : Nat) : ∀ (n : Nat) (V0 V1 V2 V3 V4 V5 V6 V7 : zV) (x1 : Int32) (res : zV), fX1_open_l23 F n V4 V6 x1 = some res → zR w kX1_open 25 0 0 none (zE zds w [V0, V1, V2, V3, V4, V5, res, V7]) 23 [(0, .ref (w.1 + 64)), (1, .int x1)] [] (zE zds w [V0, V1, V2, V3, V4, V5, V6, V7]) := by
  intro n
  induction n with
  | zero =>
    intro V0 V1 V2 V3 V4 V5 V6 V7 x1 res h
    simp [fX1_open_l23] at h
  | succ n ih =>
    intro V0 V1 V2 V3 V4 V5 V6 V7 x1 res h
    rw [fX1_open_l23] at h
    refine zR_iload_n dX1_open_23 1 rfl ?_
    refine zR_aload_n dX1_open_24 0 rfl ?_
    refine zG_getR dX1_open_25 zf_X1_9 zd_64 rfl rfl ?_
    refine zG_alen (u := (16 : Int32)) dX1_open_28 zd_65 (Nat.le_of_ble_eq_true rfl) rfl rfl rfl ?_
    by_cases c3 : (16 : Int32) ≤ x1
    · have h := zif_t h c3
      refine zR_icmp_ge_t (tgt := 53) dX1_open_29 (by decide) c3 ?_
      refine zR_aload_n dX1_open_53 0 rfl ?_
      refine zG_getR dX1_open_54 zf_X1_87 zd_64 rfl rfl ?_
      obtain ⟨q4, hq5, h⟩ := zbd_some h
      refine zR_cV (rest := []) (st1 := []) dX1_open_57 (mX4_clear_6 F V0 V1 V2 V3 V4 V5 V6 V7 _ hq5) zc_X1_99 rfl (zE_at zd_82) ⟨_, _, rfl⟩ rfl (Nat.le_of_ble_eq_true rfl) (Nat.le_of_ble_eq_true rfl) rfl ?_
      refine zR_aload_n dX1_open_60 0 rfl ?_
      refine zR_lconst (x := (0 : Int64)) dX1_open_61 rfl ?_
      obtain ⟨V6_6, e7, h⟩ := zlet_some h
      refine zG_putL zds_ok dX1_open_62 zf_X1_15 zt_X1_8 zd_64 rfl rfl e7 rfl ?_
      refine zR_aload_n dX1_open_65 0 rfl ?_
      refine zR_iconst (x := (1 : Int32)) dX1_open_66 rfl ?_
      obtain ⟨V6_8, e9, h⟩ := zlet_some h
      refine zG_putI zds_ok dX1_open_67 zf_X1_19 zt_X1_9 zd_64 rfl rfl e9 rfl ?_
      refine zR_aload_n dX1_open_70 0 rfl ?_
      refine zR_iconst (x := (0 : Int32)) dX1_open_71 rfl ?_
      obtain ⟨V6_10, e11, h⟩ := zlet_some h
      refine zG_putI zds_ok dX1_open_72 zf_X1_23 zt_X1_10 zd_64 rfl rfl e11 rfl ?_
      refine zR_aload_n dX1_open_75 0 rfl ?_
      refine zR_iconst (x := (0 : Int32)) dX1_open_76 rfl ?_
      obtain ⟨V6_12, e13, h⟩ := zlet_some h
      refine zG_putZ zds_ok dX1_open_77 zf_X1_26 zt_X1_11 zd_64 rfl rfl (Or.inl rfl) e13 rfl ?_
      refine zR_aload_n dX1_open_80 0 rfl ?_
      refine zR_iconst (x := (0 : Int32)) dX1_open_81 rfl ?_
      obtain ⟨V6_14, e15, h⟩ := zlet_some h
      refine zG_putZ zds_ok dX1_open_82 zf_X1_30 zt_X1_12 zd_64 rfl rfl (Or.inl rfl) e15 rfl ?_
      refine zR_aload_n dX1_open_85 0 rfl ?_
      refine zG_getR dX1_open_86 zf_X1_80 zd_64 rfl rfl ?_
      obtain ⟨q16, hq17, h⟩ := zbd_some h
      refine zR_cV (rest := []) (st1 := []) dX1_open_89 (mX3_takeBall_6 F V0 V1 V2 V3 V4 V5 V6_14 V7 _ hq17) zc_X1_100 rfl (zE_at zd_78) ⟨_, _, rfl⟩ rfl (Nat.le_of_ble_eq_true rfl) (Nat.le_of_ble_eq_true rfl) rfl ?_
      refine zR_aload_n dX1_open_92 0 rfl ?_
      obtain ⟨q18, hq19, h⟩ := zbd_some h
      refine zR_cV (rest := []) (st1 := []) dX1_open_93 (mX1_beginActs_6 F V0 V1 V2 V3 V4 V5 q16 V7 _ hq19) zc_X1_103 rfl (zE_at zd_64) ⟨_, _, rfl⟩ rfl (Nat.le_of_ble_eq_true rfl) (Nat.le_of_ble_eq_true rfl) rfl ?_
      refine zR_aload_n dX1_open_96 0 rfl ?_
      refine zG_getR dX1_open_97 zf_X1_87 zd_64 rfl rfl ?_
      refine zR_iconst (x := (0 : Int32)) dX1_open_100 rfl ?_
      obtain ⟨q20, hq21, h⟩ := zbd_some h
      refine zR_cV (rest := []) (st1 := [.int q20.1]) dX1_open_101 (mX4_turnOn_6 F V0 V1 V2 V3 V4 V5 q18 V7 (0 : Int32) _ hq21) zc_X1_106 rfl (zE_at zd_82) ⟨_, _, rfl⟩ rfl (Nat.le_of_ble_eq_true rfl) (Nat.le_of_ble_eq_true rfl) rfl ?_
      by_cases c22 : q20.1 = 0
      · have h := zif_t h c22
        refine zR_if_eq_t (tgt := 114) dX1_open_104 (by decide) c22 ?_
        refine zR_sub (lv' := [(0, .ref (w.1 + 64))]) [0] rfl ?_
        exact wX1_open_6_b114 F V0 V1 V2 V3 V4 V5 q20.2 V7 _ h
      · have h := zif_f h c22
        refine zR_if_eq_f (tgt := 114) dX1_open_104 (by decide) c22 ?_
        refine zR_aload_n dX1_open_107 0 rfl ?_
        refine zR_iconst (x := (0 : Int32)) dX1_open_108 rfl ?_
        refine zR_iconst (x := (-1 : Int32)) dX1_open_109 (by decide) ?_
        refine zR_iconst (x := (1 : Int32)) dX1_open_110 rfl ?_
        obtain ⟨q23, hq24, h⟩ := zbd_some h
        refine zR_cV (rest := []) (st1 := []) dX1_open_111 (mX1_doRules_6 F V0 V1 V2 V3 V4 V5 q20.2 V7 (0 : Int32) (-1 : Int32) (1 : Int32) _ hq24) zc_X1_110 rfl (zE_at zd_64) ⟨_, _, rfl⟩ rfl (Nat.le_of_ble_eq_true rfl) (Nat.le_of_ble_eq_true rfl) rfl ?_
        refine zR_sub (lv' := [(0, .ref (w.1 + 64))]) [0] rfl ?_
        exact wX1_open_6_b114 F V0 V1 V2 V3 V4 V5 q23 V7 _ h
    · have h := zif_f h c3
      refine zR_icmp_ge_f (tgt := 53) dX1_open_29 (by decide) c3 ?_
      refine zR_aload_n dX1_open_32 0 rfl ?_
      refine zG_getR dX1_open_33 zf_X1_9 zd_64 rfl rfl ?_
      refine zR_iload_n dX1_open_36 1 rfl ?_
      refine zR_aload_n dX1_open_37 0 rfl ?_
      refine zG_getR dX1_open_38 zf_X1_39 zd_64 rfl rfl ?_
      refine zG_getR dX1_open_41 zf_X1_96 zd_15 rfl rfl ?_
      refine zR_iload_n dX1_open_44 1 rfl ?_
      obtain ⟨g25, h⟩ := zchk_some h
      refine zG_iald dX1_open_45 zd_24 rfl rfl g25 ?_
      obtain ⟨g26, h⟩ := zchk_some h
      obtain ⟨V6_27, e28, h⟩ := zlet_some h
      refine zG_iast zds_ok dX1_open_46 zd_65 rfl rfl g26 e28 rfl ?_
      refine zR_iinc (u := (x1 + 1)) (lv' := [(0, .ref (w.1 + 64)), (1, .int (x1 + 1))]) dX1_open_47 1 rfl rfl (Nat.le_of_ble_eq_true rfl) rfl ?_
      refine zR_goto (tgt := 23) dX1_open_50 (by decide) ?_
      exact ih V0 V1 V2 V3 V4 V5 V6_27 V7 (x1 + 1) _ h
set_option maxRecDepth 100000 in
set_option maxHeartbeats 4000000 in
theorem mX1_open_6 {w : zW} (F : Nat) (V0 V1 V2 V3 V4 V5 V6 V7 : zV) (res : zV) (h : fX1_open F V4 V6 = some res) : zMet w kX1_open 25 0 0 [.ref (w.1 + 64)] (zE zds w [V0, V1, V2, V3, V4, V5, V6, V7]) none (zE zds w [V0, V1, V2, V3, V4, V5, res, V7]) := by
  refine zMet_of (by decide) (Nat.le_of_ble_eq_true rfl) (Nat.le_refl 0) fun _ => ?_
  show zR w kX1_open 25 0 0 none (zE zds w [V0, V1, V2, V3, V4, V5, res, V7]) 0 [(0, .ref (w.1 + 64))] [] (zE zds w [V0, V1, V2, V3, V4, V5, V6, V7])
  unfold fX1_open at h
  refine zR_aload_n dX1_open_0 0 rfl ?_
  refine zG_getR dX1_open_1 zf_X1_64 zd_64 rfl rfl ?_
  obtain ⟨q29, hq30, h⟩ := zbd_some h
  refine zR_cV (rest := []) (st1 := []) dX1_open_4 (mX8_clear_6 F V0 V1 V2 V3 V4 V5 V6 V7 _ hq30) zc_X1_91 rfl (zE_at zd_69) ⟨_, _, rfl⟩ rfl (Nat.le_of_ble_eq_true rfl) (Nat.le_of_ble_eq_true rfl) rfl ?_
  refine zR_aload_n dX1_open_7 0 rfl ?_
  refine zG_getR dX1_open_8 zf_X1_71 zd_64 rfl rfl ?_
  obtain ⟨q31, hq32, h⟩ := zbd_some h
  refine zR_cV (rest := []) (st1 := []) dX1_open_11 (mX0_clear_6 F V0 V1 V2 V3 V4 V5 q29 V7 _ hq32) zc_X1_94 rfl (zE_at zd_74) ⟨_, _, rfl⟩ rfl (Nat.le_of_ble_eq_true rfl) (Nat.le_of_ble_eq_true rfl) rfl ?_
  refine zR_aload_n dX1_open_14 0 rfl ?_
  refine zG_getR dX1_open_15 zf_X1_80 zd_64 rfl rfl ?_
  obtain ⟨q33, hq34, h⟩ := zbd_some h
  refine zR_cV (rest := []) (st1 := []) dX1_open_18 (mX3_clear_6 F V0 V1 V2 V3 V4 V5 q31 V7 _ hq34) zc_X1_95 rfl (zE_at zd_78) ⟨_, _, rfl⟩ rfl (Nat.le_of_ble_eq_true rfl) (Nat.le_of_ble_eq_true rfl) rfl ?_
  refine zR_iconst (x := (0 : Int32)) dX1_open_21 rfl ?_
  refine zR_istore_n (lv' := [(0, .ref (w.1 + 64)), (1, .int (0 : Int32))]) dX1_open_22 (Nat.le_of_ble_eq_true rfl) rfl ?_
  exact wX1_open_6_l23 F F V0 V1 V2 V3 V4 V5 q33 V7 (0 : Int32) _ h
set_option maxRecDepth 100000 in
set_option maxHeartbeats 4000000 in
theorem mX4_isOnSinceThen_6 {w : zW} (F : Nat) (V0 V1 V2 V3 V4 V5 V6 V7 : zV) (x1 : Int32) (res : Int32) (h : fX4_isOnSinceThen F V6 x1 = some res) : zMet w kX4_isOnSinceThen 0 0 0 [.ref (w.1 + 82), .int x1] (zE zds w [V0, V1, V2, V3, V4, V5, V6, V7]) (some (.int res)) (zE zds w [V0, V1, V2, V3, V4, V5, V6, V7]) := by
  refine zMet_of (by decide) (Nat.le_of_ble_eq_true rfl) (Nat.le_refl 0) fun _ => ?_
  show zR w kX4_isOnSinceThen 0 0 0 (some (.int res)) (zE zds w [V0, V1, V2, V3, V4, V5, V6, V7]) 0 [(0, .ref (w.1 + 82)), (1, .int x1)] [] (zE zds w [V0, V1, V2, V3, V4, V5, V6, V7])
  unfold fX4_isOnSinceThen at h
  refine zR_iload_n dX4_isOnSinceThen_0 1 rfl ?_
  by_cases c1 : x1 < 0
  · have h := zif_t h c1
    refine zR_if_lt_t (tgt := 32) dX4_isOnSinceThen_1 (by decide) c1 ?_
    refine zR_iconst (x := (0 : Int32)) dX4_isOnSinceThen_32 rfl ?_
    have h := Option.some.inj h
    subst h
    exact zR_iret (x := (0 : Int32)) dX4_isOnSinceThen_33 rfl znar0
  · have h := zif_f h c1
    refine zR_if_lt_f (tgt := 32) dX4_isOnSinceThen_1 (by decide) c1 ?_
    refine zR_iload_n dX4_isOnSinceThen_4 1 rfl ?_
    refine zR_aload_n dX4_isOnSinceThen_5 0 rfl ?_
    refine zG_getR dX4_isOnSinceThen_6 zf_X4_25 zd_82 rfl rfl ?_
    refine zG_alen (u := (12 : Int32)) dX4_isOnSinceThen_9 zd_87 (Nat.le_of_ble_eq_true rfl) rfl rfl rfl ?_
    by_cases c2 : (12 : Int32) ≤ x1
    · have h := zif_t h c2
      refine zR_icmp_ge_t (tgt := 32) dX4_isOnSinceThen_10 (by decide) c2 ?_
      refine zR_iconst (x := (0 : Int32)) dX4_isOnSinceThen_32 rfl ?_
      have h := Option.some.inj h
      subst h
      exact zR_iret (x := (0 : Int32)) dX4_isOnSinceThen_33 rfl znar0
    · have h := zif_f h c2
      refine zR_icmp_ge_f (tgt := 32) dX4_isOnSinceThen_10 (by decide) c2 ?_
      refine zR_aload_n dX4_isOnSinceThen_13 0 rfl ?_
      refine zG_getR dX4_isOnSinceThen_14 zf_X4_25 zd_82 rfl rfl ?_
      refine zR_iload_n dX4_isOnSinceThen_17 1 rfl ?_
      obtain ⟨g3, h⟩ := zchk_some h
      refine zG_iald dX4_isOnSinceThen_18 zd_87 rfl rfl g3 ?_
      refine zR_aload_n dX4_isOnSinceThen_19 0 rfl ?_
      refine zG_getR dX4_isOnSinceThen_20 zf_X4_22 zd_82 rfl rfl ?_
      refine zR_iload_n dX4_isOnSinceThen_23 1 rfl ?_
      obtain ⟨g4, h⟩ := zchk_some h
      refine zG_iald dX4_isOnSinceThen_24 zd_86 rfl rfl g4 ?_
      by_cases c5 : (zA V6 23 (x1).toNatClampNeg) = (zA V6 22 (x1).toNatClampNeg)
      · have h := zif_t h c5
        refine zR_icmp_ne_f (tgt := 32) dX4_isOnSinceThen_25 (by decide) c5 ?_
        refine zR_iconst (x := (1 : Int32)) dX4_isOnSinceThen_28 rfl ?_
        refine zR_goto (tgt := 33) dX4_isOnSinceThen_29 (by decide) ?_
        have h := Option.some.inj h
        subst h
        exact zR_iret (x := (1 : Int32)) dX4_isOnSinceThen_33 rfl znar1
      · have h := zif_f h c5
        refine zR_icmp_ne_t (tgt := 32) dX4_isOnSinceThen_25 (by decide) c5 ?_
        refine zR_iconst (x := (0 : Int32)) dX4_isOnSinceThen_32 rfl ?_
        have h := Option.some.inj h
        subst h
        exact zR_iret (x := (0 : Int32)) dX4_isOnSinceThen_33 rfl znar0
set_option maxRecDepth 100000 in
set_option maxHeartbeats 4000000 in
theorem mX4_passTimeOf_6 {w : zW} (F : Nat) (V0 V1 V2 V3 V4 V5 V6 V7 : zV) (x1 : Int32) (res : Int32 × zV) (h : fX4_passTimeOf F V4 V6 x1 = some res) : zMet w kX4_passTimeOf 1 0 0 [.ref (w.1 + 82), .int x1] (zE zds w [V0, V1, V2, V3, V4, V5, V6, V7]) (some (.int res.1)) (zE zds w [V0, V1, V2, V3, V4, V5, res.2, V7]) := by
  refine zMet_of (by decide) (Nat.le_of_ble_eq_true rfl) (Nat.le_refl 0) fun _ => ?_
  show zR w kX4_passTimeOf 1 0 0 (some (.int res.1)) (zE zds w [V0, V1, V2, V3, V4, V5, res.2, V7]) 0 [(0, .ref (w.1 + 82)), (1, .int x1)] [] (zE zds w [V0, V1, V2, V3, V4, V5, V6, V7])
  unfold fX4_passTimeOf at h
  refine zR_aload_n dX4_passTimeOf_0 0 rfl ?_
  refine zR_iload_n dX4_passTimeOf_1 1 rfl ?_
  obtain ⟨q1, hq2, h⟩ := zbd_some h
  refine zR_cV (rest := []) (st1 := [.int q1]) dX4_passTimeOf_2 (mX4_isOnSinceThen_6 F V0 V1 V2 V3 V4 V5 V6 V7 x1 _ hq2) zc_X4_55 rfl (zE_at zd_82) ⟨_, _, rfl⟩ rfl (Nat.le_of_ble_eq_true rfl) (Nat.le_of_ble_eq_true rfl) rfl ?_
  by_cases c3 : q1 = 0
  · have h := zif_t h c3
    refine zR_if_eq_t (tgt := 20) dX4_passTimeOf_5 (by decide) c3 ?_
    refine zR_iconst (x := (0 : Int32)) dX4_passTimeOf_20 rfl ?_
    have h := Option.some.inj h
    subst h
    exact zR_iret (x := (0 : Int32)) dX4_passTimeOf_21 rfl znar0
  · have h := zif_f h c3
    refine zR_if_eq_f (tgt := 20) dX4_passTimeOf_5 (by decide) c3 ?_
    refine zR_aload_n dX4_passTimeOf_8 0 rfl ?_
    refine zG_getR dX4_passTimeOf_9 zf_X4_32 zd_82 rfl rfl ?_
    refine zG_getR dX4_passTimeOf_12 zf_X4_45 zd_15 rfl rfl ?_
    refine zR_iload_n dX4_passTimeOf_15 1 rfl ?_
    obtain ⟨g4, h⟩ := zchk_some h
    refine zG_iald dX4_passTimeOf_16 zd_26 rfl rfl g4 ?_
    by_cases c5 : 0 < (zA V4 11 (x1).toNatClampNeg)
    · have h := zif_t h c5
      refine zR_if_gt_t (tgt := 22) dX4_passTimeOf_17 (by decide) c5 ?_
      refine zR_aload_n dX4_passTimeOf_22 0 rfl ?_
      refine zG_getR dX4_passTimeOf_23 zf_X4_15 zd_82 rfl rfl ?_
      refine zR_iload_n dX4_passTimeOf_26 1 rfl ?_
      refine zR_dup2 dX4_passTimeOf_27 rfl rfl ?_
      obtain ⟨g6, h⟩ := zchk_some h
      refine zG_iald dX4_passTimeOf_28 zd_84 rfl rfl g6 ?_
      refine zR_iconst (x := (1 : Int32)) dX4_passTimeOf_29 rfl ?_
      refine zR_isub dX4_passTimeOf_30 ?_
      obtain ⟨g7, h⟩ := zchk_some h
      obtain ⟨V6_8, e9, h⟩ := zlet_some h
      refine zG_iast zds_ok dX4_passTimeOf_31 zd_84 rfl rfl g7 e9 rfl ?_
      refine zR_aload_n dX4_passTimeOf_32 0 rfl ?_
      refine zG_getR dX4_passTimeOf_33 zf_X4_15 zd_82 rfl rfl ?_
      refine zR_iload_n dX4_passTimeOf_36 1 rfl ?_
      obtain ⟨g10, h⟩ := zchk_some h
      refine zG_iald dX4_passTimeOf_37 zd_84 rfl rfl g10 ?_
      by_cases c11 : 0 < (zA V6_8 20 (x1).toNatClampNeg)
      · have h := zif_t h c11
        refine zR_if_gt_t (tgt := 45) dX4_passTimeOf_38 (by decide) c11 ?_
        refine zR_iconst (x := (0 : Int32)) dX4_passTimeOf_45 rfl ?_
        have h := Option.some.inj h
        subst h
        exact zR_iret (x := (0 : Int32)) dX4_passTimeOf_46 rfl znar0
      · have h := zif_f h c11
        refine zR_if_gt_f (tgt := 45) dX4_passTimeOf_38 (by decide) c11 ?_
        refine zR_iconst (x := (1 : Int32)) dX4_passTimeOf_41 rfl ?_
        refine zR_goto (tgt := 46) dX4_passTimeOf_42 (by decide) ?_
        have h := Option.some.inj h
        subst h
        exact zR_iret (x := (1 : Int32)) dX4_passTimeOf_46 rfl znar1
    · have h := zif_f h c5
      refine zR_if_gt_f (tgt := 22) dX4_passTimeOf_17 (by decide) c5 ?_
      refine zR_iconst (x := (0 : Int32)) dX4_passTimeOf_20 rfl ?_
      have h := Option.some.inj h
      subst h
      exact zR_iret (x := (0 : Int32)) dX4_passTimeOf_21 rfl znar0
set_option maxRecDepth 100000 in
set_option maxHeartbeats 4000000 in
theorem wX0_fireAt_6_b153 {w : zW} (F : Nat) (V0 V1 V2 V3 V4 V5 V6 V7 : zV) (x2 : Int32) (x3 : Int32) (res : Int32 × zV) (h : fX0_fireAt_b153 F V4 V6 x2 x3 = some res) : zR w kX0_fireAt 1 0 0 (some (.int res.1)) (zE zds w [V0, V1, V2, V3, V4, V5, res.2, V7]) 153 [(0, .ref (w.1 + 74)), (2, .int x2), (3, .int x3)] [] (zE zds w [V0, V1, V2, V3, V4, V5, V6, V7]) := by
  unfold fX0_fireAt_b153 at h
  refine zR_aload_n dX0_fireAt_153 0 rfl ?_
  refine zR_iload_n dX0_fireAt_154 2 rfl ?_
  obtain ⟨V6_1, e2, h⟩ := zlet_some h
  refine zG_putI zds_ok dX0_fireAt_155 zf_X0_21 zt_X0_4 zd_74 rfl rfl e2 rfl ?_
  refine zR_iload_n dX0_fireAt_158 1 rfl ?_
  obtain ⟨q3, hq4, h⟩ := zbd_some h
  refine zR_cS (rest := []) (st1 := [.int q3]) dX0_fireAt_159 (mJ6_bitCount_0f7a4 F (zE zds w [V0, V1, V2, V3, V4, V5, V6_1, V7]) x2 _ hq4) zc_X0_45 rfl rfl (Nat.le_of_ble_eq_true rfl) (Nat.le_of_ble_eq_true rfl) rfl ?_
  have h := Option.some.inj h
  subst h
  exact zR_iret (x := q3) dX0_fireAt_162 rfl rfl
set_option maxRecDepth 100000 in
set_option maxHeartbeats 4000000 in
theorem wX0_fireAt_6_b147 {w : zW} (F : Nat) (k7 : zV → zV → Int32 → Int32 → Int32 → Int32 → Option (Int32 × zV)) (hk7 : ∀ (V0 V1 V2 V3 V4 V5 V6 V7 : zV) (x1 : Int32) (x2 : Int32) (x3 : Int32) (x4 : Int32) (res : Int32 × zV), k7 V4 V6 x1 x2 x3 x4 = some res → zR w kX0_fireAt 1 0 0 (some (.int res.1)) (zE zds w [V0, V1, V2, V3, V4, V5, res.2, V7]) 7 [(0, .ref (w.1 + 74)), (1, .int x1), (2, .int x2), (3, .int x3), (4, .int x4)] [] (zE zds w [V0, V1, V2, V3, V4, V5, V6, V7])) (V0 V1 V2 V3 V4 V5 V6 V7 : zV) (x1 : Int32) (x2 : Int32) (x3 : Int32) (x4 : Int32) (res : Int32 × zV) (h : fX0_fireAt_b147 F k7 V4 V6 x1 x2 x3 x4 = some res) : zR w kX0_fireAt 1 0 0 (some (.int res.1)) (zE zds w [V0, V1, V2, V3, V4, V5, res.2, V7]) 147 [(0, .ref (w.1 + 74)), (1, .int x1), (2, .int x2), (3, .int x3), (4, .int x4)] [] (zE zds w [V0, V1, V2, V3, V4, V5, V6, V7]) := by
  unfold fX0_fireAt_b147 at h
  refine zR_iinc (u := (x4 + 1)) (lv' := [(0, .ref (w.1 + 74)), (1, .int x1), (2, .int x2), (3, .int x3), (4, .int (x4 + 1))]) dX0_fireAt_147 4 rfl rfl (Nat.le_of_ble_eq_true rfl) rfl ?_
  refine zR_goto (tgt := 7) dX0_fireAt_150 (by decide) ?_
  exact hk7 V0 V1 V2 V3 V4 V5 V6 V7 x1 x2 x3 (x4 + 1) _ h
set_option maxRecDepth 100000 in
set_option maxHeartbeats 4000000 in
theorem wX0_fireAt_6_b136 {w : zW} (F : Nat) (k7 : zV → zV → Int32 → Int32 → Int32 → Int32 → Option (Int32 × zV)) (hk7 : ∀ (V0 V1 V2 V3 V4 V5 V6 V7 : zV) (x1 : Int32) (x2 : Int32) (x3 : Int32) (x4 : Int32) (res : Int32 × zV), k7 V4 V6 x1 x2 x3 x4 = some res → zR w kX0_fireAt 1 0 0 (some (.int res.1)) (zE zds w [V0, V1, V2, V3, V4, V5, res.2, V7]) 7 [(0, .ref (w.1 + 74)), (1, .int x1), (2, .int x2), (3, .int x3), (4, .int x4)] [] (zE zds w [V0, V1, V2, V3, V4, V5, V6, V7])) (V0 V1 V2 V3 V4 V5 V6 V7 : zV) (x1 : Int32) (x2 : Int32) (x3 : Int32) (x4 : Int32) (x5 : Int32) (res : Int32 × zV) (h : fX0_fireAt_b136 F k7 V4 V6 x1 x2 x3 x4 x5 = some res) : zR w kX0_fireAt 1 0 0 (some (.int res.1)) (zE zds w [V0, V1, V2, V3, V4, V5, res.2, V7]) 136 [(0, .ref (w.1 + 74)), (1, .int x1), (2, .int x2), (3, .int x3), (4, .int x4), (5, .int x5)] [] (zE zds w [V0, V1, V2, V3, V4, V5, V6, V7]) := by
  unfold fX0_fireAt_b136 at h
  refine zR_aload_n dX0_fireAt_136 0 rfl ?_
  refine zG_getR dX0_fireAt_137 zf_X0_18 zd_74 rfl rfl ?_
  refine zR_iload_n dX0_fireAt_140 3 rfl ?_
  refine zR_iload dX0_fireAt_141 5 rfl ?_
  obtain ⟨g5, h⟩ := zchk_some h
  obtain ⟨V6_6, e7, h⟩ := zlet_some h
  refine zG_iast zds_ok dX0_fireAt_143 zd_77 rfl rfl g5 e7 rfl ?_
  refine zR_iinc (u := (x3 + 1)) (lv' := [(0, .ref (w.1 + 74)), (1, .int x1), (2, .int x2), (3, .int (x3 + 1)), (4, .int x4), (5, .int x5)]) dX0_fireAt_144 3 rfl rfl (Nat.le_of_ble_eq_true rfl) rfl ?_
  refine zR_sub (lv' := [(0, .ref (w.1 + 74)), (1, .int x1), (2, .int x2), (3, .int (x3 + 1)), (4, .int x4)]) [0, 1, 2, 3, 4] rfl ?_
  exact wX0_fireAt_6_b147 F k7 hk7 V0 V1 V2 V3 V4 V5 V6_6 V7 x1 x2 (x3 + 1) x4 _ h
set_option maxRecDepth 100000 in
set_option maxHeartbeats 4000000 in
theorem wX0_fireAt_6_b85 {w : zW} (F : Nat) (k7 : zV → zV → Int32 → Int32 → Int32 → Int32 → Option (Int32 × zV)) (hk7 : ∀ (V0 V1 V2 V3 V4 V5 V6 V7 : zV) (x1 : Int32) (x2 : Int32) (x3 : Int32) (x4 : Int32) (res : Int32 × zV), k7 V4 V6 x1 x2 x3 x4 = some res → zR w kX0_fireAt 1 0 0 (some (.int res.1)) (zE zds w [V0, V1, V2, V3, V4, V5, res.2, V7]) 7 [(0, .ref (w.1 + 74)), (1, .int x1), (2, .int x2), (3, .int x3), (4, .int x4)] [] (zE zds w [V0, V1, V2, V3, V4, V5, V6, V7])) (V0 V1 V2 V3 V4 V5 V6 V7 : zV) (x1 : Int32) (x2 : Int32) (x3 : Int32) (x4 : Int32) (x5 : Int32) (s0 : Int32) (res : Int32 × zV) (h : fX0_fireAt_b85 F k7 V4 V6 x1 x2 x3 x4 x5 s0 = some res) : zR w kX0_fireAt 1 0 0 (some (.int res.1)) (zE zds w [V0, V1, V2, V3, V4, V5, res.2, V7]) 85 [(0, .ref (w.1 + 74)), (1, .int x1), (2, .int x2), (3, .int x3), (4, .int x4), (5, .int x5)] [.int s0] (zE zds w [V0, V1, V2, V3, V4, V5, V6, V7]) := by
  unfold fX0_fireAt_b85 at h
  refine zR_istore (lv' := [(0, .ref (w.1 + 74)), (1, .int x1), (2, .int x2), (3, .int x3), (4, .int x4), (5, .int x5), (6, .int s0)]) dX0_fireAt_85 (Nat.le_of_ble_eq_true rfl) rfl ?_
  refine zR_iload dX0_fireAt_87 6 rfl ?_
  by_cases c8 : s0 = 0
  · have h := zif_t h c8
    refine zR_if_eq_t (tgt := 136) dX0_fireAt_89 (by decide) c8 ?_
    refine zR_sub (lv' := [(0, .ref (w.1 + 74)), (1, .int x1), (2, .int x2), (3, .int x3), (4, .int x4), (5, .int x5)]) [0, 1, 2, 3, 4, 5] rfl ?_
    exact wX0_fireAt_6_b136 F k7 hk7 V0 V1 V2 V3 V4 V5 V6 V7 x1 x2 x3 x4 x5 _ h
  · have h := zif_f h c8
    refine zR_if_eq_f (tgt := 136) dX0_fireAt_89 (by decide) c8 ?_
    refine zR_aload_n dX0_fireAt_92 0 rfl ?_
    refine zG_getR dX0_fireAt_93 zf_X0_25 zd_74 rfl rfl ?_
    refine zG_getR dX0_fireAt_96 zf_X0_42 zd_15 rfl rfl ?_
    refine zR_iload dX0_fireAt_99 5 rfl ?_
    obtain ⟨g9, h⟩ := zchk_some h
    refine zG_iald dX0_fireAt_101 zd_19 rfl rfl g9 ?_
    refine zR_iload_n dX0_fireAt_102 2 rfl ?_
    refine zR_iand dX0_fireAt_103 ?_
    by_cases c10 : ((zA V4 4 (x5).toNatClampNeg) &&& x2) = 0
    · have h := zif_t h c10
      refine zR_if_ne_f (tgt := 136) dX0_fireAt_104 (by decide) c10 ?_
      refine zR_aload_n dX0_fireAt_107 0 rfl ?_
      refine zG_getR dX0_fireAt_108 zf_X0_9 zd_74 rfl rfl ?_
      refine zR_iload dX0_fireAt_111 5 rfl ?_
      refine zR_dup2 dX0_fireAt_113 rfl rfl ?_
      obtain ⟨g11, h⟩ := zchk_some h
      refine zG_iald dX0_fireAt_114 zd_75 rfl rfl g11 ?_
      refine zR_iconst (x := (1 : Int32)) dX0_fireAt_115 rfl ?_
      refine zR_iadd dX0_fireAt_116 ?_
      obtain ⟨g12, h⟩ := zchk_some h
      obtain ⟨V6_13, e14, h⟩ := zlet_some h
      refine zG_iast zds_ok dX0_fireAt_117 zd_75 rfl rfl g12 e14 rfl ?_
      refine zR_aload_n dX0_fireAt_118 0 rfl ?_
      refine zG_getR dX0_fireAt_119 zf_X0_15 zd_74 rfl rfl ?_
      refine zR_iload dX0_fireAt_122 5 rfl ?_
      refine zR_iload_n dX0_fireAt_124 1 rfl ?_
      obtain ⟨g15, h⟩ := zchk_some h
      obtain ⟨V6_16, e17, h⟩ := zlet_some h
      refine zG_iast zds_ok dX0_fireAt_125 zd_76 rfl rfl g15 e17 rfl ?_
      refine zR_iload_n dX0_fireAt_126 2 rfl ?_
      refine zR_iconst (x := (1 : Int32)) dX0_fireAt_127 rfl ?_
      refine zR_iload dX0_fireAt_128 5 rfl ?_
      refine zR_ishl dX0_fireAt_130 ?_
      refine zR_ior dX0_fireAt_131 ?_
      obtain ⟨y18, e19, h⟩ := zlet_some h
      refine zR_nmI e19 ?_
      refine zR_istore_n (lv' := [(0, .ref (w.1 + 74)), (1, .int x1), (2, .int y18), (3, .int x3), (4, .int x4), (5, .int x5), (6, .int s0)]) dX0_fireAt_132 (Nat.le_of_ble_eq_true rfl) rfl ?_
      refine zR_goto (tgt := 147) dX0_fireAt_133 (by decide) ?_
      refine zR_sub (lv' := [(0, .ref (w.1 + 74)), (1, .int x1), (2, .int y18), (3, .int x3), (4, .int x4)]) [0, 1, 2, 3, 4] rfl ?_
      exact wX0_fireAt_6_b147 F k7 hk7 V0 V1 V2 V3 V4 V5 V6_16 V7 x1 y18 x3 x4 _ h
    · have h := zif_f h c10
      refine zR_if_ne_t (tgt := 136) dX0_fireAt_104 (by decide) c10 ?_
      refine zR_sub (lv' := [(0, .ref (w.1 + 74)), (1, .int x1), (2, .int x2), (3, .int x3), (4, .int x4), (5, .int x5)]) [0, 1, 2, 3, 4, 5] rfl ?_
      exact wX0_fireAt_6_b136 F k7 hk7 V0 V1 V2 V3 V4 V5 V6 V7 x1 x2 x3 x4 x5 _ h
set_option maxRecDepth 100000 in
set_option maxHeartbeats 4000000 in
theorem wX0_fireAt_6_b84 {w : zW} (F : Nat) (k7 : zV → zV → Int32 → Int32 → Int32 → Int32 → Option (Int32 × zV)) (hk7 : ∀ (V0 V1 V2 V3 V4 V5 V6 V7 : zV) (x1 : Int32) (x2 : Int32) (x3 : Int32) (x4 : Int32) (res : Int32 × zV), k7 V4 V6 x1 x2 x3 x4 = some res → zR w kX0_fireAt 1 0 0 (some (.int res.1)) (zE zds w [V0, V1, V2, V3, V4, V5, res.2, V7]) 7 [(0, .ref (w.1 + 74)), (1, .int x1), (2, .int x2), (3, .int x3), (4, .int x4)] [] (zE zds w [V0, V1, V2, V3, V4, V5, V6, V7])) (V0 V1 V2 V3 V4 V5 V6 V7 : zV) (x1 : Int32) (x2 : Int32) (x3 : Int32) (x4 : Int32) (x5 : Int32) (res : Int32 × zV) (h : fX0_fireAt_b84 F k7 V4 V6 x1 x2 x3 x4 x5 = some res) : zR w kX0_fireAt 1 0 0 (some (.int res.1)) (zE zds w [V0, V1, V2, V3, V4, V5, res.2, V7]) 84 [(0, .ref (w.1 + 74)), (1, .int x1), (2, .int x2), (3, .int x3), (4, .int x4), (5, .int x5)] [] (zE zds w [V0, V1, V2, V3, V4, V5, V6, V7]) := by
  unfold fX0_fireAt_b84 at h
  refine zR_iconst (x := (0 : Int32)) dX0_fireAt_84 rfl ?_
  exact wX0_fireAt_6_b85 F k7 hk7 V0 V1 V2 V3 V4 V5 V6 V7 x1 x2 x3 x4 x5 (0 : Int32) _ h
set_option maxRecDepth 100000 in
set_option maxHeartbeats 4000000 in
theorem wX0_fireAt_6_b80 {w : zW} (F : Nat) (k7 : zV → zV → Int32 → Int32 → Int32 → Int32 → Option (Int32 × zV)) (hk7 : ∀ (V0 V1 V2 V3 V4 V5 V6 V7 : zV) (x1 : Int32) (x2 : Int32) (x3 : Int32) (x4 : Int32) (res : Int32 × zV), k7 V4 V6 x1 x2 x3 x4 = some res → zR w kX0_fireAt 1 0 0 (some (.int res.1)) (zE zds w [V0, V1, V2, V3, V4, V5, res.2, V7]) 7 [(0, .ref (w.1 + 74)), (1, .int x1), (2, .int x2), (3, .int x3), (4, .int x4)] [] (zE zds w [V0, V1, V2, V3, V4, V5, V6, V7])) (V0 V1 V2 V3 V4 V5 V6 V7 : zV) (x1 : Int32) (x2 : Int32) (x3 : Int32) (x4 : Int32) (x5 : Int32) (res : Int32 × zV) (h : fX0_fireAt_b80 F k7 V4 V6 x1 x2 x3 x4 x5 = some res) : zR w kX0_fireAt 1 0 0 (some (.int res.1)) (zE zds w [V0, V1, V2, V3, V4, V5, res.2, V7]) 80 [(0, .ref (w.1 + 74)), (1, .int x1), (2, .int x2), (3, .int x3), (4, .int x4), (5, .int x5)] [] (zE zds w [V0, V1, V2, V3, V4, V5, V6, V7]) := by
  unfold fX0_fireAt_b80 at h
  refine zR_iconst (x := (1 : Int32)) dX0_fireAt_80 rfl ?_
  refine zR_goto (tgt := 85) dX0_fireAt_81 (by decide) ?_
  exact wX0_fireAt_6_b85 F k7 hk7 V0 V1 V2 V3 V4 V5 V6 V7 x1 x2 x3 x4 x5 (1 : Int32) _ h
set_option maxRecDepth 100000 in
set_option maxHeartbeats 4000000 in
theorem wX0_fireAt_6_l7 {w : zW} (F : Nat) : ∀ (n : Nat) (V0 V1 V2 V3 V4 V5 V6 V7 : zV) (x1 : Int32) (x2 : Int32) (x3 : Int32) (x4 : Int32) (res : Int32 × zV), fX0_fireAt_l7 F n V4 V6 x1 x2 x3 x4 = some res → zR w kX0_fireAt 1 0 0 (some (.int res.1)) (zE zds w [V0, V1, V2, V3, V4, V5, res.2, V7]) 7 [(0, .ref (w.1 + 74)), (1, .int x1), (2, .int x2), (3, .int x3), (4, .int x4)] [] (zE zds w [V0, V1, V2, V3, V4, V5, V6, V7]) := by
  intro n
  induction n with
  | zero =>
    intro V0 V1 V2 V3 V4 V5 V6 V7 x1 x2 x3 x4 res h
    simp [fX0_fireAt_l7] at h
  | succ n ih =>
    intro V0 V1 V2 V3 V4 V5 V6 V7 x1 x2 x3 x4 res h
    rw [fX0_fireAt_l7] at h
    refine zR_iload dX0_fireAt_7 4 rfl ?_
    refine zR_aload_n dX0_fireAt_9 0 rfl ?_
    refine zG_getI dX0_fireAt_10 zf_X0_21 zd_74 rfl rfl ?_
    by_cases c20 : (zI V6 10 4) ≤ x4
    · have h := zif_t h c20
      refine zR_icmp_ge_t (tgt := 153) dX0_fireAt_13 (by decide) c20 ?_
      refine zR_sub (lv' := [(0, .ref (w.1 + 74)), (2, .int x2), (3, .int x3)]) [0, 2, 3] rfl ?_
      exact wX0_fireAt_6_b153 F V0 V1 V2 V3 V4 V5 V6 V7 x2 x3 _ h
    · have h := zif_f h c20
      refine zR_icmp_ge_f (tgt := 153) dX0_fireAt_13 (by decide) c20 ?_
      refine zR_iload dX0_fireAt_16 4 rfl ?_
      refine zR_aload_n dX0_fireAt_18 0 rfl ?_
      refine zG_getR dX0_fireAt_19 zf_X0_18 zd_74 rfl rfl ?_
      refine zG_alen (u := (8 : Int32)) dX0_fireAt_22 zd_77 (Nat.le_of_ble_eq_true rfl) rfl rfl rfl ?_
      by_cases c21 : (8 : Int32) ≤ x4
      · have h := zif_t h c21
        refine zR_icmp_ge_t (tgt := 153) dX0_fireAt_23 (by decide) c21 ?_
        refine zR_sub (lv' := [(0, .ref (w.1 + 74)), (2, .int x2), (3, .int x3)]) [0, 2, 3] rfl ?_
        exact wX0_fireAt_6_b153 F V0 V1 V2 V3 V4 V5 V6 V7 x2 x3 _ h
      · have h := zif_f h c21
        refine zR_icmp_ge_f (tgt := 153) dX0_fireAt_23 (by decide) c21 ?_
        refine zR_aload_n dX0_fireAt_26 0 rfl ?_
        refine zG_getR dX0_fireAt_27 zf_X0_18 zd_74 rfl rfl ?_
        refine zR_iload dX0_fireAt_30 4 rfl ?_
        obtain ⟨g22, h⟩ := zchk_some h
        refine zG_iald dX0_fireAt_32 zd_77 rfl rfl g22 ?_
        obtain ⟨y23, e24, h⟩ := zlet_some h
        refine zR_nmI e24 ?_
        refine zR_istore (lv' := [(0, .ref (w.1 + 74)), (1, .int x1), (2, .int x2), (3, .int x3), (4, .int x4), (5, .int y23)]) dX0_fireAt_33 (Nat.le_of_ble_eq_true rfl) rfl ?_
        refine zR_aload_n dX0_fireAt_35 0 rfl ?_
        refine zG_getR dX0_fireAt_36 zf_X0_25 zd_74 rfl rfl ?_
        refine zR_iconst (x := (1 : Int32)) dX0_fireAt_39 rfl ?_
        refine zR_iload dX0_fireAt_40 5 rfl ?_
        obtain ⟨q25, hq26, h⟩ := zbd_some h
        refine zR_cV (rest := []) (st1 := [.int q25]) dX0_fireAt_42 (mX9_has F V0 V1 V2 V3 V4 V5 V6 V7 (1 : Int32) y23 _ hq26) zc_X0_29 rfl (zE_at zd_15) ⟨_, _, rfl⟩ rfl (Nat.le_of_ble_eq_true rfl) (Nat.le_of_ble_eq_true rfl) rfl ?_
        by_cases c27 : q25 = 0
        · have h := zif_t h c27
          refine zR_if_eq_t (tgt := 84) dX0_fireAt_45 (by decide) c27 ?_
          exact wX0_fireAt_6_b84 F (fX0_fireAt_l7 F n) ih V0 V1 V2 V3 V4 V5 V6 V7 x1 x2 x3 x4 y23 _ h
        · have h := zif_f h c27
          refine zR_if_eq_f (tgt := 84) dX0_fireAt_45 (by decide) c27 ?_
          refine zR_aload_n dX0_fireAt_48 0 rfl ?_
          refine zG_getR dX0_fireAt_49 zf_X0_9 zd_74 rfl rfl ?_
          refine zR_iload dX0_fireAt_52 5 rfl ?_
          obtain ⟨g28, h⟩ := zchk_some h
          refine zG_iald dX0_fireAt_54 zd_75 rfl rfl g28 ?_
          by_cases c29 : (zA V6 11 (y23).toNatClampNeg) = 0
          · have h := zif_t h c29
            refine zR_if_eq_t (tgt := 80) dX0_fireAt_55 (by decide) c29 ?_
            exact wX0_fireAt_6_b80 F (fX0_fireAt_l7 F n) ih V0 V1 V2 V3 V4 V5 V6 V7 x1 x2 x3 x4 y23 _ h
          · have h := zif_f h c29
            refine zR_if_eq_f (tgt := 80) dX0_fireAt_55 (by decide) c29 ?_
            refine zR_iload_n dX0_fireAt_58 1 rfl ?_
            refine zR_aload_n dX0_fireAt_59 0 rfl ?_
            refine zG_getR dX0_fireAt_60 zf_X0_15 zd_74 rfl rfl ?_
            refine zR_iload dX0_fireAt_63 5 rfl ?_
            obtain ⟨g30, h⟩ := zchk_some h
            refine zG_iald dX0_fireAt_65 zd_76 rfl rfl g30 ?_
            refine zR_isub dX0_fireAt_66 ?_
            refine zR_aload_n dX0_fireAt_67 0 rfl ?_
            refine zG_getR dX0_fireAt_68 zf_X0_25 zd_74 rfl rfl ?_
            refine zG_getR dX0_fireAt_71 zf_X0_39 zd_15 rfl rfl ?_
            refine zR_iload dX0_fireAt_74 5 rfl ?_
            obtain ⟨g31, h⟩ := zchk_some h
            refine zG_iald dX0_fireAt_76 zd_18 rfl rfl g31 ?_
            by_cases c32 : (x1 - (zA V6 12 (y23).toNatClampNeg)) < (zA V4 3 (y23).toNatClampNeg)
            · have h := zif_t h c32
              refine zR_icmp_lt_t (tgt := 84) dX0_fireAt_77 (by decide) c32 ?_
              exact wX0_fireAt_6_b84 F (fX0_fireAt_l7 F n) ih V0 V1 V2 V3 V4 V5 V6 V7 x1 x2 x3 x4 y23 _ h
            · have h := zif_f h c32
              refine zR_icmp_lt_f (tgt := 84) dX0_fireAt_77 (by decide) c32 ?_
              exact wX0_fireAt_6_b80 F (fX0_fireAt_l7 F n) ih V0 V1 V2 V3 V4 V5 V6 V7 x1 x2 x3 x4 y23 _ h
set_option maxRecDepth 100000 in
set_option maxHeartbeats 4000000 in
theorem mX0_fireAt_6 {w : zW} (F : Nat) (V0 V1 V2 V3 V4 V5 V6 V7 : zV) (x1 : Int32) (res : Int32 × zV) (h : fX0_fireAt F V4 V6 x1 = some res) : zMet w kX0_fireAt 1 0 0 [.ref (w.1 + 74), .int x1] (zE zds w [V0, V1, V2, V3, V4, V5, V6, V7]) (some (.int res.1)) (zE zds w [V0, V1, V2, V3, V4, V5, res.2, V7]) := by
  refine zMet_of (by decide) (Nat.le_of_ble_eq_true rfl) (Nat.le_refl 0) fun _ => ?_
  show zR w kX0_fireAt 1 0 0 (some (.int res.1)) (zE zds w [V0, V1, V2, V3, V4, V5, res.2, V7]) 0 [(0, .ref (w.1 + 74)), (1, .int x1)] [] (zE zds w [V0, V1, V2, V3, V4, V5, V6, V7])
  unfold fX0_fireAt at h
  refine zR_iconst (x := (0 : Int32)) dX0_fireAt_0 rfl ?_
  refine zR_istore_n (lv' := [(0, .ref (w.1 + 74)), (1, .int x1), (2, .int (0 : Int32))]) dX0_fireAt_1 (Nat.le_of_ble_eq_true rfl) rfl ?_
  refine zR_iconst (x := (0 : Int32)) dX0_fireAt_2 rfl ?_
  refine zR_istore_n (lv' := [(0, .ref (w.1 + 74)), (1, .int x1), (2, .int (0 : Int32)), (3, .int (0 : Int32))]) dX0_fireAt_3 (Nat.le_of_ble_eq_true rfl) rfl ?_
  refine zR_iconst (x := (0 : Int32)) dX0_fireAt_4 rfl ?_
  refine zR_istore (lv' := [(0, .ref (w.1 + 74)), (1, .int x1), (2, .int (0 : Int32)), (3, .int (0 : Int32)), (4, .int (0 : Int32))]) dX0_fireAt_5 (Nat.le_of_ble_eq_true rfl) rfl ?_
  exact wX0_fireAt_6_l7 F F V0 V1 V2 V3 V4 V5 V6 V7 x1 (0 : Int32) (0 : Int32) (0 : Int32) _ h
set_option maxRecDepth 100000 in
set_option maxHeartbeats 4000000 in
theorem wX1_passTick_6_b96 {w : zW} (F : Nat) (V0 V1 V2 V3 V4 V5 V6 V7 : zV) (res : Int32 × zV) (h : fX1_passTick_b96 F V4 V6 = some res) : zR w kX1_passTick 25 0 0 (some (.int res.1)) (zE zds w [V0, V1, V2, V3, V4, V5, res.2, V7]) 96 [(0, .ref (w.1 + 64))] [] (zE zds w [V0, V1, V2, V3, V4, V5, V6, V7]) := by
  unfold fX1_passTick_b96 at h
  refine zR_aload_n dX1_passTick_96 0 rfl ?_
  refine zG_getR dX1_passTick_97 zf_X1_71 zd_64 rfl rfl ?_
  refine zR_aload_n dX1_passTick_100 0 rfl ?_
  refine zG_getI dX1_passTick_101 zf_X1_23 zd_64 rfl rfl ?_
  obtain ⟨q1, hq2, h⟩ := zbd_some h
  refine zR_cV (rest := []) (st1 := [.int q1.1]) dX1_passTick_104 (mX0_fireAt_6 F V0 V1 V2 V3 V4 V5 V6 V7 (zI V6 0 10) _ hq2) zc_X1_144 rfl (zE_at zd_74) ⟨_, _, rfl⟩ rfl (Nat.le_of_ble_eq_true rfl) (Nat.le_of_ble_eq_true rfl) rfl ?_
  have h := Option.some.inj h
  subst h
  exact zR_iret (x := q1.1) dX1_passTick_107 rfl rfl
set_option maxRecDepth 100000 in
set_option maxHeartbeats 4000000 in
theorem wX1_passTick_6_b86 {w : zW} (F : Nat) (k33 : zV → zV → Int32 → Option (Int32 × zV)) (hk33 : ∀ (V0 V1 V2 V3 V4 V5 V6 V7 : zV) (x1 : Int32) (res : Int32 × zV), k33 V4 V6 x1 = some res → zR w kX1_passTick 25 0 0 (some (.int res.1)) (zE zds w [V0, V1, V2, V3, V4, V5, res.2, V7]) 33 [(0, .ref (w.1 + 64)), (1, .int x1)] [] (zE zds w [V0, V1, V2, V3, V4, V5, V6, V7])) (V0 V1 V2 V3 V4 V5 V6 V7 : zV) (x1 : Int32) (res : Int32 × zV) (h : fX1_passTick_b86 F k33 V4 V6 x1 = some res) : zR w kX1_passTick 25 0 0 (some (.int res.1)) (zE zds w [V0, V1, V2, V3, V4, V5, res.2, V7]) 86 [(0, .ref (w.1 + 64)), (1, .int x1)] [] (zE zds w [V0, V1, V2, V3, V4, V5, V6, V7]) := by
  unfold fX1_passTick_b86 at h
  refine zR_iinc (u := (x1 + 1)) (lv' := [(0, .ref (w.1 + 64)), (1, .int (x1 + 1))]) dX1_passTick_86 1 rfl rfl (Nat.le_of_ble_eq_true rfl) rfl ?_
  refine zR_goto (tgt := 33) dX1_passTick_89 (by decide) ?_
  exact hk33 V0 V1 V2 V3 V4 V5 V6 V7 (x1 + 1) _ h
set_option maxRecDepth 100000 in
set_option maxHeartbeats 4000000 in
theorem wX1_passTick_6_l33 {w : zW} (F : Nat) : ∀ (n : Nat) (V0 V1 V2 V3 V4 V5 V6 V7 : zV) (x1 : Int32) (res : Int32 × zV), fX1_passTick_l33 F n V4 V6 x1 = some res → zR w kX1_passTick 25 0 0 (some (.int res.1)) (zE zds w [V0, V1, V2, V3, V4, V5, res.2, V7]) 33 [(0, .ref (w.1 + 64)), (1, .int x1)] [] (zE zds w [V0, V1, V2, V3, V4, V5, V6, V7]) := by
  intro n
  induction n with
  | zero =>
    intro V0 V1 V2 V3 V4 V5 V6 V7 x1 res h
    simp [fX1_passTick_l33] at h
  | succ n ih =>
    intro V0 V1 V2 V3 V4 V5 V6 V7 x1 res h
    rw [fX1_passTick_l33] at h
    refine zR_iload_n dX1_passTick_33 1 rfl ?_
    refine zR_aload_n dX1_passTick_34 0 rfl ?_
    refine zG_getR dX1_passTick_35 zf_X1_39 zd_64 rfl rfl ?_
    refine zG_getR dX1_passTick_38 zf_X1_125 zd_15 rfl rfl ?_
    refine zR_bipush (x := (7 : Int32)) dX1_passTick_41 rfl ?_
    refine zG_iald dX1_passTick_43 zd_16 rfl rfl (show zix (7 : Int32) 27 from by decide) ?_
    by_cases c3 : (zA V4 1 ((7 : Int32)).toNatClampNeg) ≤ x1
    · have h := zif_t h c3
      refine zR_icmp_ge_t (tgt := 92) dX1_passTick_44 (by decide) c3 ?_
      refine zR_aload_n dX1_passTick_92 0 rfl ?_
      obtain ⟨q4, hq5, h⟩ := zbd_some h
      refine zR_cV (rest := []) (st1 := []) dX1_passTick_93 (mX1_endBallIfNoneInPlay_6 F V0 V1 V2 V3 V4 V5 V6 V7 _ hq5) zc_X1_114 rfl (zE_at zd_64) ⟨_, _, rfl⟩ rfl (Nat.le_of_ble_eq_true rfl) (Nat.le_of_ble_eq_true rfl) rfl ?_
      refine zR_sub (lv' := [(0, .ref (w.1 + 64))]) [0] rfl ?_
      exact wX1_passTick_6_b96 F V0 V1 V2 V3 V4 V5 q4 V7 _ h
    · have h := zif_f h c3
      refine zR_icmp_ge_f (tgt := 92) dX1_passTick_44 (by decide) c3 ?_
      refine zR_aload_n dX1_passTick_47 0 rfl ?_
      refine zG_getR dX1_passTick_48 zf_X1_39 zd_64 rfl rfl ?_
      refine zR_iload_n dX1_passTick_51 1 rfl ?_
      obtain ⟨q6, hq7, h⟩ := zbd_some h
      refine zR_cV (rest := []) (st1 := [.int q6]) dX1_passTick_52 (mX9_inOrder F V0 V1 V2 V3 V4 V5 V6 V7 x1 _ hq7) zc_X1_128 rfl (zE_at zd_15) ⟨_, _, rfl⟩ rfl (Nat.le_of_ble_eq_true rfl) (Nat.le_of_ble_eq_true rfl) rfl ?_
      refine zR_istore_n (lv' := [(0, .ref (w.1 + 64)), (1, .int x1), (2, .int q6)]) dX1_passTick_55 (Nat.le_of_ble_eq_true rfl) rfl ?_
      refine zR_aload_n dX1_passTick_56 0 rfl ?_
      refine zG_getR dX1_passTick_57 zf_X1_87 zd_64 rfl rfl ?_
      refine zR_iload_n dX1_passTick_60 2 rfl ?_
      obtain ⟨q8, hq9, h⟩ := zbd_some h
      refine zR_cV (rest := []) (st1 := [.int q8.1]) dX1_passTick_61 (mX4_passTimeOf_6 F V0 V1 V2 V3 V4 V5 V6 V7 q6 _ hq9) zc_X1_138 rfl (zE_at zd_82) ⟨_, _, rfl⟩ rfl (Nat.le_of_ble_eq_true rfl) (Nat.le_of_ble_eq_true rfl) rfl ?_
      by_cases c10 : q8.1 = 0
      · have h := zif_t h c10
        refine zR_if_eq_t (tgt := 86) dX1_passTick_64 (by decide) c10 ?_
        refine zR_sub (lv' := [(0, .ref (w.1 + 64)), (1, .int x1)]) [0, 1] rfl ?_
        exact wX1_passTick_6_b86 F (fX1_passTick_l33 F n) ih V0 V1 V2 V3 V4 V5 q8.2 V7 x1 _ h
      · have h := zif_f h c10
        refine zR_if_eq_f (tgt := 86) dX1_passTick_64 (by decide) c10 ?_
        refine zR_aload_n dX1_passTick_67 0 rfl ?_
        refine zG_getR dX1_passTick_68 zf_X1_87 zd_64 rfl rfl ?_
        refine zR_iload_n dX1_passTick_71 2 rfl ?_
        obtain ⟨q11, hq12, h⟩ := zbd_some h
        refine zR_cV (rest := []) (st1 := [.int q11.1]) dX1_passTick_72 (mX4_turnOff_6 F V0 V1 V2 V3 V4 V5 q8.2 V7 q6 _ hq12) zc_X1_141 rfl (zE_at zd_82) ⟨_, _, rfl⟩ rfl (Nat.le_of_ble_eq_true rfl) (Nat.le_of_ble_eq_true rfl) rfl ?_
        by_cases c13 : q11.1 = 0
        · have h := zif_t h c13
          refine zR_if_eq_t (tgt := 86) dX1_passTick_75 (by decide) c13 ?_
          refine zR_sub (lv' := [(0, .ref (w.1 + 64)), (1, .int x1)]) [0, 1] rfl ?_
          exact wX1_passTick_6_b86 F (fX1_passTick_l33 F n) ih V0 V1 V2 V3 V4 V5 q11.2 V7 x1 _ h
        · have h := zif_f h c13
          refine zR_if_eq_f (tgt := 86) dX1_passTick_75 (by decide) c13 ?_
          refine zR_aload_n dX1_passTick_78 0 rfl ?_
          refine zR_iload_n dX1_passTick_79 2 rfl ?_
          refine zR_bipush (x := (-2 : Int32)) dX1_passTick_80 (by decide) ?_
          refine zR_iconst (x := (1 : Int32)) dX1_passTick_82 rfl ?_
          obtain ⟨q14, hq15, h⟩ := zbd_some h
          refine zR_cV (rest := []) (st1 := []) dX1_passTick_83 (mX1_doRules_6 F V0 V1 V2 V3 V4 V5 q11.2 V7 q6 (-2 : Int32) (1 : Int32) _ hq15) zc_X1_110 rfl (zE_at zd_64) ⟨_, _, rfl⟩ rfl (Nat.le_of_ble_eq_true rfl) (Nat.le_of_ble_eq_true rfl) rfl ?_
          refine zR_sub (lv' := [(0, .ref (w.1 + 64)), (1, .int x1)]) [0, 1] rfl ?_
          exact wX1_passTick_6_b86 F (fX1_passTick_l33 F n) ih V0 V1 V2 V3 V4 V5 q14 V7 x1 _ h
set_option maxRecDepth 100000 in
set_option maxHeartbeats 4000000 in
theorem mX1_passTick_6 {w : zW} (F : Nat) (V0 V1 V2 V3 V4 V5 V6 V7 : zV) (res : Int32 × zV) (h : fX1_passTick F V4 V6 = some res) : zMet w kX1_passTick 25 0 0 [.ref (w.1 + 64)] (zE zds w [V0, V1, V2, V3, V4, V5, V6, V7]) (some (.int res.1)) (zE zds w [V0, V1, V2, V3, V4, V5, res.2, V7]) := by
  refine zMet_of (by decide) (Nat.le_of_ble_eq_true rfl) (Nat.le_refl 0) fun _ => ?_
  show zR w kX1_passTick 25 0 0 (some (.int res.1)) (zE zds w [V0, V1, V2, V3, V4, V5, res.2, V7]) 0 [(0, .ref (w.1 + 64))] [] (zE zds w [V0, V1, V2, V3, V4, V5, V6, V7])
  unfold fX1_passTick at h
  refine zR_aload_n dX1_passTick_0 0 rfl ?_
  refine zR_dup dX1_passTick_1 rfl ?_
  refine zG_getI dX1_passTick_2 zf_X1_23 zd_64 rfl rfl ?_
  refine zR_iconst (x := (1 : Int32)) dX1_passTick_5 rfl ?_
  refine zR_iadd dX1_passTick_6 ?_
  obtain ⟨V6_16, e17, h⟩ := zlet_some h
  refine zG_putI zds_ok dX1_passTick_7 zf_X1_23 zt_X1_10 zd_64 rfl rfl e17 rfl ?_
  refine zR_aload_n dX1_passTick_10 0 rfl ?_
  refine zG_getI dX1_passTick_11 zf_X1_19 zd_64 rfl rfl ?_
  by_cases c18 : (zI V6_16 0 9) = 0
  · have h := zif_t h c18
    refine zR_if_eq_t (tgt := 96) dX1_passTick_14 (by decide) c18 ?_
    exact wX1_passTick_6_b96 F V0 V1 V2 V3 V4 V5 V6_16 V7 _ h
  · have h := zif_f h c18
    refine zR_if_eq_f (tgt := 96) dX1_passTick_14 (by decide) c18 ?_
    refine zR_aload_n dX1_passTick_17 0 rfl ?_
    refine zG_getR dX1_passTick_18 zf_X1_87 zd_64 rfl rfl ?_
    refine zG_getI dX1_passTick_21 zf_X1_135 zd_82 rfl rfl ?_
    by_cases c19 : (zI V6_16 18 6) ≤ 0
    · have h := zif_t h c19
      refine zR_if_le_t (tgt := 96) dX1_passTick_24 (by decide) c19 ?_
      exact wX1_passTick_6_b96 F V0 V1 V2 V3 V4 V5 V6_16 V7 _ h
    · have h := zif_f h c19
      refine zR_if_le_f (tgt := 96) dX1_passTick_24 (by decide) c19 ?_
      refine zR_aload_n dX1_passTick_27 0 rfl ?_
      obtain ⟨q20, hq21, h⟩ := zbd_some h
      refine zR_cV (rest := []) (st1 := []) dX1_passTick_28 (mX1_beginActs_6 F V0 V1 V2 V3 V4 V5 V6_16 V7 _ hq21) zc_X1_103 rfl (zE_at zd_64) ⟨_, _, rfl⟩ rfl (Nat.le_of_ble_eq_true rfl) (Nat.le_of_ble_eq_true rfl) rfl ?_
      refine zR_iconst (x := (0 : Int32)) dX1_passTick_31 rfl ?_
      refine zR_istore_n (lv' := [(0, .ref (w.1 + 64)), (1, .int (0 : Int32))]) dX1_passTick_32 (Nat.le_of_ble_eq_true rfl) rfl ?_
      exact wX1_passTick_6_l33 F F V0 V1 V2 V3 V4 V5 q20 V7 (0 : Int32) _ h
set_option maxRecDepth 100000 in
set_option maxHeartbeats 4000000 in
theorem wX8_take_6_b68 {w : zW} (F : Nat) (V0 V1 V2 V3 V4 V5 V6 V7 : zV) (x1 : Int32) (x2 : Int32) (x3 : Int32) (res : Int32 × zV) (h : fX8_take_b68 F V4 V6 x1 x2 x3 = some res) : zR w kX8_take 1 0 0 (some (.int res.1)) (zE zds w [V0, V1, V2, V3, V4, V5, res.2, V7]) 68 [(0, .ref (w.1 + 69)), (1, .int x1), (2, .int x2), (3, .int x3)] [] (zE zds w [V0, V1, V2, V3, V4, V5, V6, V7]) := by
  unfold fX8_take_b68 at h
  refine zR_aload_n dX8_take_68 0 rfl ?_
  refine zG_getR dX8_take_69 zf_X8_9 zd_69 rfl rfl ?_
  refine zR_iload_n dX8_take_72 1 rfl ?_
  refine zR_dup2 dX8_take_73 rfl rfl ?_
  obtain ⟨g1, h⟩ := zchk_some h
  refine zG_iald dX8_take_74 zd_70 rfl rfl g1 ?_
  refine zR_iconst (x := (1 : Int32)) dX8_take_75 rfl ?_
  refine zR_iadd dX8_take_76 ?_
  obtain ⟨g2, h⟩ := zchk_some h
  obtain ⟨V6_3, e4, h⟩ := zlet_some h
  refine zG_iast zds_ok dX8_take_77 zd_70 rfl rfl g2 e4 rfl ?_
  refine zR_aload_n dX8_take_78 0 rfl ?_
  refine zG_getR dX8_take_79 zf_X8_18 zd_69 rfl rfl ?_
  refine zR_iload_n dX8_take_82 1 rfl ?_
  refine zR_iload_n dX8_take_83 2 rfl ?_
  obtain ⟨g5, h⟩ := zchk_some h
  obtain ⟨V6_6, e7, h⟩ := zlet_some h
  refine zG_iast zds_ok dX8_take_84 zd_72 rfl rfl g5 e7 rfl ?_
  refine zR_aload_n dX8_take_85 0 rfl ?_
  refine zG_getR dX8_take_86 zf_X8_21 zd_69 rfl rfl ?_
  refine zR_iload_n dX8_take_89 1 rfl ?_
  refine zR_iload_n dX8_take_90 3 rfl ?_
  obtain ⟨g8, h⟩ := zchk_some h
  obtain ⟨V6_9, e10, h⟩ := zlet_some h
  refine zG_iast zds_ok dX8_take_91 zd_73 rfl rfl g8 e10 rfl ?_
  refine zR_iconst (x := (1 : Int32)) dX8_take_92 rfl ?_
  have h := Option.some.inj h
  subst h
  exact zR_iret (x := (1 : Int32)) dX8_take_93 rfl znar1
set_option maxRecDepth 100000 in
set_option maxHeartbeats 4000000 in
theorem mX8_take_6 {w : zW} (F : Nat) (V0 V1 V2 V3 V4 V5 V6 V7 : zV) (x1 : Int32) (x2 : Int32) (x3 : Int32) (res : Int32 × zV) (h : fX8_take F V4 V6 x1 x2 x3 = some res) : zMet w kX8_take 1 0 0 [.ref (w.1 + 69), .int x1, .int x2, .int x3] (zE zds w [V0, V1, V2, V3, V4, V5, V6, V7]) (some (.int res.1)) (zE zds w [V0, V1, V2, V3, V4, V5, res.2, V7]) := by
  refine zMet_of (by decide) (Nat.le_of_ble_eq_true rfl) (Nat.le_refl 0) fun _ => ?_
  show zR w kX8_take 1 0 0 (some (.int res.1)) (zE zds w [V0, V1, V2, V3, V4, V5, res.2, V7]) 0 [(0, .ref (w.1 + 69)), (1, .int x1), (2, .int x2), (3, .int x3)] [] (zE zds w [V0, V1, V2, V3, V4, V5, V6, V7])
  unfold fX8_take at h
  refine zR_aload_n dX8_take_0 0 rfl ?_
  refine zG_getR dX8_take_1 zf_X8_24 zd_69 rfl rfl ?_
  refine zR_iconst (x := (0 : Int32)) dX8_take_4 rfl ?_
  refine zR_iload_n dX8_take_5 1 rfl ?_
  obtain ⟨q11, hq12, h⟩ := zbd_some h
  refine zR_cV (rest := []) (st1 := [.int q11]) dX8_take_6 (mX9_has F V0 V1 V2 V3 V4 V5 V6 V7 (0 : Int32) x1 _ hq12) zc_X8_28 rfl (zE_at zd_15) ⟨_, _, rfl⟩ rfl (Nat.le_of_ble_eq_true rfl) (Nat.le_of_ble_eq_true rfl) rfl ?_
  by_cases c13 : q11 = 0
  · have h := zif_t h c13
    refine zR_if_eq_t (tgt := 21) dX8_take_9 (by decide) c13 ?_
    refine zR_iconst (x := (0 : Int32)) dX8_take_21 rfl ?_
    have h := Option.some.inj h
    subst h
    exact zR_iret (x := (0 : Int32)) dX8_take_22 rfl znar0
  · have h := zif_f h c13
    refine zR_if_eq_f (tgt := 21) dX8_take_9 (by decide) c13 ?_
    refine zR_iload_n dX8_take_12 1 rfl ?_
    refine zR_aload_n dX8_take_13 0 rfl ?_
    refine zG_getR dX8_take_14 zf_X8_9 zd_69 rfl rfl ?_
    refine zG_alen (u := (16 : Int32)) dX8_take_17 zd_70 (Nat.le_of_ble_eq_true rfl) rfl rfl rfl ?_
    by_cases c14 : x1 < (16 : Int32)
    · have h := zif_t h c14
      refine zR_icmp_lt_t (tgt := 23) dX8_take_18 (by decide) c14 ?_
      refine zR_aload_n dX8_take_23 0 rfl ?_
      refine zG_getR dX8_take_24 zf_X8_15 zd_69 rfl rfl ?_
      refine zR_iload_n dX8_take_27 1 rfl ?_
      refine zR_dup2 dX8_take_28 rfl rfl ?_
      obtain ⟨g15, h⟩ := zchk_some h
      refine zG_iald dX8_take_29 zd_71 rfl rfl g15 ?_
      refine zR_iconst (x := (1 : Int32)) dX8_take_30 rfl ?_
      refine zR_iadd dX8_take_31 ?_
      obtain ⟨g16, h⟩ := zchk_some h
      obtain ⟨V6_17, e18, h⟩ := zlet_some h
      refine zG_iast zds_ok dX8_take_32 zd_71 rfl rfl g16 e18 rfl ?_
      refine zR_iload_n dX8_take_33 3 rfl ?_
      by_cases c19 : x3 = 0
      · have h := zif_t h c19
        refine zR_if_eq_t (tgt := 66) dX8_take_34 (by decide) c19 ?_
        refine zR_iconst (x := (0 : Int32)) dX8_take_66 rfl ?_
        have h := Option.some.inj h
        subst h
        exact zR_iret (x := (0 : Int32)) dX8_take_67 rfl znar0
      · have h := zif_f h c19
        refine zR_if_eq_f (tgt := 66) dX8_take_34 (by decide) c19 ?_
        refine zR_aload_n dX8_take_37 0 rfl ?_
        refine zG_getR dX8_take_38 zf_X8_9 zd_69 rfl rfl ?_
        refine zR_iload_n dX8_take_41 1 rfl ?_
        obtain ⟨g20, h⟩ := zchk_some h
        refine zG_iald dX8_take_42 zd_70 rfl rfl g20 ?_
        by_cases c21 : (zA V6_17 6 (x1).toNatClampNeg) ≤ 0
        · have h := zif_t h c21
          refine zR_if_le_t (tgt := 68) dX8_take_43 (by decide) c21 ?_
          exact wX8_take_6_b68 F V0 V1 V2 V3 V4 V5 V6_17 V7 x1 x2 x3 _ h
        · have h := zif_f h c21
          refine zR_if_le_f (tgt := 68) dX8_take_43 (by decide) c21 ?_
          refine zR_iload_n dX8_take_46 2 rfl ?_
          refine zR_aload_n dX8_take_47 0 rfl ?_
          refine zG_getR dX8_take_48 zf_X8_18 zd_69 rfl rfl ?_
          refine zR_iload_n dX8_take_51 1 rfl ?_
          obtain ⟨g22, h⟩ := zchk_some h
          refine zG_iald dX8_take_52 zd_72 rfl rfl g22 ?_
          refine zR_isub dX8_take_53 ?_
          refine zR_aload_n dX8_take_54 0 rfl ?_
          refine zG_getR dX8_take_55 zf_X8_24 zd_69 rfl rfl ?_
          refine zG_getR dX8_take_58 zf_X8_34 zd_15 rfl rfl ?_
          refine zR_iload_n dX8_take_61 1 rfl ?_
          obtain ⟨g23, h⟩ := zchk_some h
          refine zG_iald dX8_take_62 zd_17 rfl rfl g23 ?_
          by_cases c24 : (zA V4 2 (x1).toNatClampNeg) ≤ (x2 - (zA V6_17 8 (x1).toNatClampNeg))
          · have h := zif_t h c24
            refine zR_icmp_ge_t (tgt := 68) dX8_take_63 (by decide) c24 ?_
            exact wX8_take_6_b68 F V0 V1 V2 V3 V4 V5 V6_17 V7 x1 x2 x3 _ h
          · have h := zif_f h c24
            refine zR_icmp_ge_f (tgt := 68) dX8_take_63 (by decide) c24 ?_
            refine zR_iconst (x := (0 : Int32)) dX8_take_66 rfl ?_
            have h := Option.some.inj h
            subst h
            exact zR_iret (x := (0 : Int32)) dX8_take_67 rfl znar0
    · have h := zif_f h c14
      refine zR_icmp_lt_f (tgt := 23) dX8_take_18 (by decide) c14 ?_
      refine zR_iconst (x := (0 : Int32)) dX8_take_21 rfl ?_
      have h := Option.some.inj h
      subst h
      exact zR_iret (x := (0 : Int32)) dX8_take_22 rfl znar0
set_option maxRecDepth 100000 in
set_option maxHeartbeats 4000000 in
theorem wX3_putAll_6_b98 {w : zW} (F : Nat) (k2 : zV → zV → Int32 → Option (zV)) (hk2 : ∀ (V0 V1 V2 V3 V4 V5 V6 V7 : zV) (x1 : Int32) (res : zV), k2 V4 V6 x1 = some res → zR w kX3_putAll 1 0 0 none (zE zds w [V0, V1, V2, V3, V4, V5, res, V7]) 2 [(0, .ref (w.1 + 78)), (1, .int x1)] [] (zE zds w [V0, V1, V2, V3, V4, V5, V6, V7])) (V0 V1 V2 V3 V4 V5 V6 V7 : zV) (x1 : Int32) (res : zV) (h : fX3_putAll_b98 F k2 V4 V6 x1 = some res) : zR w kX3_putAll 1 0 0 none (zE zds w [V0, V1, V2, V3, V4, V5, res, V7]) 98 [(0, .ref (w.1 + 78)), (1, .int x1)] [] (zE zds w [V0, V1, V2, V3, V4, V5, V6, V7]) := by
  unfold fX3_putAll_b98 at h
  refine zR_iinc (u := (x1 + 1)) (lv' := [(0, .ref (w.1 + 78)), (1, .int (x1 + 1))]) dX3_putAll_98 1 rfl rfl (Nat.le_of_ble_eq_true rfl) rfl ?_
  refine zR_goto (tgt := 2) dX3_putAll_101 (by decide) ?_
  exact hk2 V0 V1 V2 V3 V4 V5 V6 V7 (x1 + 1) _ h
set_option maxRecDepth 100000 in
set_option maxHeartbeats 4000000 in
theorem wX3_putAll_6_b57 {w : zW} (F : Nat) (k2 : zV → zV → Int32 → Option (zV)) (hk2 : ∀ (V0 V1 V2 V3 V4 V5 V6 V7 : zV) (x1 : Int32) (res : zV), k2 V4 V6 x1 = some res → zR w kX3_putAll 1 0 0 none (zE zds w [V0, V1, V2, V3, V4, V5, res, V7]) 2 [(0, .ref (w.1 + 78)), (1, .int x1)] [] (zE zds w [V0, V1, V2, V3, V4, V5, V6, V7])) (V0 V1 V2 V3 V4 V5 V6 V7 : zV) (x1 : Int32) (x2 : Int32) (x3 : Int32) (x4 : Int32) (s0 : Int32) (s1 : Int32) (res : zV) (h : fX3_putAll_b57 F k2 V4 V6 x1 x2 x3 x4 s0 s1 = some res) : zR w kX3_putAll 1 0 0 none (zE zds w [V0, V1, V2, V3, V4, V5, res, V7]) 57 [(0, .ref (w.1 + 78)), (1, .int x1), (2, .int x2), (3, .int x3), (4, .int x4)] [.int s1, .int s0] (zE zds w [V0, V1, V2, V3, V4, V5, V6, V7]) := by
  unfold fX3_putAll_b57 at h
  refine zR_iadd dX3_putAll_57 ?_
  refine zR_istore (lv' := [(0, .ref (w.1 + 78)), (1, .int x1), (2, .int x2), (3, .int x3), (4, .int x4), (5, .int (s0 + s1))]) dX3_putAll_58 (Nat.le_of_ble_eq_true rfl) rfl ?_
  refine zR_iload_n dX3_putAll_60 2 rfl ?_
  refine zR_aload_n dX3_putAll_61 0 rfl ?_
  refine zG_getR dX3_putAll_62 zf_X3_27 zd_78 rfl rfl ?_
  refine zG_getR dX3_putAll_65 zf_X3_44 zd_15 rfl rfl ?_
  refine zR_iconst (x := (4 : Int32)) dX3_putAll_68 rfl ?_
  refine zG_iald dX3_putAll_69 zd_16 rfl rfl (show zix (4 : Int32) 27 from by decide) ?_
  by_cases c1 : (zA V4 1 ((4 : Int32)).toNatClampNeg) < x2
  · have h := zif_t h c1
    refine zR_icmp_gt_t (tgt := 98) dX3_putAll_70 (by decide) c1 ?_
    refine zR_sub (lv' := [(0, .ref (w.1 + 78)), (1, .int x1)]) [0, 1] rfl ?_
    exact wX3_putAll_6_b98 F k2 hk2 V0 V1 V2 V3 V4 V5 V6 V7 x1 _ h
  · have h := zif_f h c1
    refine zR_icmp_gt_f (tgt := 98) dX3_putAll_70 (by decide) c1 ?_
    refine zR_iload_n dX3_putAll_73 2 rfl ?_
    refine zR_iload_n dX3_putAll_74 3 rfl ?_
    by_cases c2 : x2 < x3
    · have h := zif_t h c2
      refine zR_icmp_lt_t (tgt := 98) dX3_putAll_75 (by decide) c2 ?_
      refine zR_sub (lv' := [(0, .ref (w.1 + 78)), (1, .int x1)]) [0, 1] rfl ?_
      exact wX3_putAll_6_b98 F k2 hk2 V0 V1 V2 V3 V4 V5 V6 V7 x1 _ h
    · have h := zif_f h c2
      refine zR_icmp_lt_f (tgt := 98) dX3_putAll_75 (by decide) c2 ?_
      refine zR_iload_n dX3_putAll_78 3 rfl ?_
      refine zR_iload dX3_putAll_79 4 rfl ?_
      by_cases c3 : x3 < x4
      · have h := zif_t h c3
        refine zR_icmp_lt_t (tgt := 98) dX3_putAll_81 (by decide) c3 ?_
        refine zR_sub (lv' := [(0, .ref (w.1 + 78)), (1, .int x1)]) [0, 1] rfl ?_
        exact wX3_putAll_6_b98 F k2 hk2 V0 V1 V2 V3 V4 V5 V6 V7 x1 _ h
      · have h := zif_f h c3
        refine zR_icmp_lt_f (tgt := 98) dX3_putAll_81 (by decide) c3 ?_
        refine zR_iload dX3_putAll_84 5 rfl ?_
        refine zR_aload_n dX3_putAll_86 0 rfl ?_
        refine zG_getI dX3_putAll_87 zf_X3_21 zd_78 rfl rfl ?_
        by_cases c4 : (s0 + s1) = (zI V6 14 7)
        · have h := zif_t h c4
          refine zR_icmp_ne_f (tgt := 98) dX3_putAll_90 (by decide) c4 ?_
          refine zR_aload_n dX3_putAll_93 0 rfl ?_
          refine zR_iload_n dX3_putAll_94 1 rfl ?_
          obtain ⟨q5, hq6, h⟩ := zbd_some h
          refine zR_cV (rest := []) (st1 := []) dX3_putAll_95 (mX3_put_6 F V0 V1 V2 V3 V4 V5 V6 V7 x1 _ hq6) zc_X3_49 rfl (zE_at zd_78) ⟨_, _, rfl⟩ rfl (Nat.le_of_ble_eq_true rfl) (Nat.le_of_ble_eq_true rfl) rfl ?_
          refine zR_sub (lv' := [(0, .ref (w.1 + 78)), (1, .int x1)]) [0, 1] rfl ?_
          exact wX3_putAll_6_b98 F k2 hk2 V0 V1 V2 V3 V4 V5 q5 V7 x1 _ h
        · have h := zif_f h c4
          refine zR_icmp_ne_t (tgt := 98) dX3_putAll_90 (by decide) c4 ?_
          refine zR_sub (lv' := [(0, .ref (w.1 + 78)), (1, .int x1)]) [0, 1] rfl ?_
          exact wX3_putAll_6_b98 F k2 hk2 V0 V1 V2 V3 V4 V5 V6 V7 x1 _ h
set_option maxRecDepth 100000 in
set_option maxHeartbeats 4000000 in
theorem wX3_putAll_6_b46 {w : zW} (F : Nat) (k2 : zV → zV → Int32 → Option (zV)) (hk2 : ∀ (V0 V1 V2 V3 V4 V5 V6 V7 : zV) (x1 : Int32) (res : zV), k2 V4 V6 x1 = some res → zR w kX3_putAll 1 0 0 none (zE zds w [V0, V1, V2, V3, V4, V5, res, V7]) 2 [(0, .ref (w.1 + 78)), (1, .int x1)] [] (zE zds w [V0, V1, V2, V3, V4, V5, V6, V7])) (V0 V1 V2 V3 V4 V5 V6 V7 : zV) (x1 : Int32) (x2 : Int32) (x3 : Int32) (x4 : Int32) (s0 : Int32) (s1 : Int32) (res : zV) (h : fX3_putAll_b46 F k2 V4 V6 x1 x2 x3 x4 s0 s1 = some res) : zR w kX3_putAll 1 0 0 none (zE zds w [V0, V1, V2, V3, V4, V5, res, V7]) 46 [(0, .ref (w.1 + 78)), (1, .int x1), (2, .int x2), (3, .int x3), (4, .int x4)] [.int s1, .int s0] (zE zds w [V0, V1, V2, V3, V4, V5, V6, V7]) := by
  unfold fX3_putAll_b46 at h
  refine zR_iadd dX3_putAll_46 ?_
  refine zR_iload dX3_putAll_47 4 rfl ?_
  by_cases c7 : x4 ≤ 0
  · have h := zif_t h c7
    refine zR_if_le_t (tgt := 56) dX3_putAll_49 (by decide) c7 ?_
    refine zR_iconst (x := (0 : Int32)) dX3_putAll_56 rfl ?_
    exact wX3_putAll_6_b57 F k2 hk2 V0 V1 V2 V3 V4 V5 V6 V7 x1 x2 x3 x4 (s0 + s1) (0 : Int32) _ h
  · have h := zif_f h c7
    refine zR_if_le_f (tgt := 56) dX3_putAll_49 (by decide) c7 ?_
    refine zR_iconst (x := (1 : Int32)) dX3_putAll_52 rfl ?_
    refine zR_goto (tgt := 57) dX3_putAll_53 (by decide) ?_
    exact wX3_putAll_6_b57 F k2 hk2 V0 V1 V2 V3 V4 V5 V6 V7 x1 x2 x3 x4 (s0 + s1) (1 : Int32) _ h
set_option maxRecDepth 100000 in
set_option maxHeartbeats 4000000 in
theorem wX3_putAll_6_b37 {w : zW} (F : Nat) (k2 : zV → zV → Int32 → Option (zV)) (hk2 : ∀ (V0 V1 V2 V3 V4 V5 V6 V7 : zV) (x1 : Int32) (res : zV), k2 V4 V6 x1 = some res → zR w kX3_putAll 1 0 0 none (zE zds w [V0, V1, V2, V3, V4, V5, res, V7]) 2 [(0, .ref (w.1 + 78)), (1, .int x1)] [] (zE zds w [V0, V1, V2, V3, V4, V5, V6, V7])) (V0 V1 V2 V3 V4 V5 V6 V7 : zV) (x1 : Int32) (x2 : Int32) (x3 : Int32) (x4 : Int32) (s0 : Int32) (res : zV) (h : fX3_putAll_b37 F k2 V4 V6 x1 x2 x3 x4 s0 = some res) : zR w kX3_putAll 1 0 0 none (zE zds w [V0, V1, V2, V3, V4, V5, res, V7]) 37 [(0, .ref (w.1 + 78)), (1, .int x1), (2, .int x2), (3, .int x3), (4, .int x4)] [.int s0] (zE zds w [V0, V1, V2, V3, V4, V5, V6, V7]) := by
  unfold fX3_putAll_b37 at h
  refine zR_iload_n dX3_putAll_37 3 rfl ?_
  by_cases c8 : x3 ≤ 0
  · have h := zif_t h c8
    refine zR_if_le_t (tgt := 45) dX3_putAll_38 (by decide) c8 ?_
    refine zR_iconst (x := (0 : Int32)) dX3_putAll_45 rfl ?_
    exact wX3_putAll_6_b46 F k2 hk2 V0 V1 V2 V3 V4 V5 V6 V7 x1 x2 x3 x4 s0 (0 : Int32) _ h
  · have h := zif_f h c8
    refine zR_if_le_f (tgt := 45) dX3_putAll_38 (by decide) c8 ?_
    refine zR_iconst (x := (1 : Int32)) dX3_putAll_41 rfl ?_
    refine zR_goto (tgt := 46) dX3_putAll_42 (by decide) ?_
    exact wX3_putAll_6_b46 F k2 hk2 V0 V1 V2 V3 V4 V5 V6 V7 x1 x2 x3 x4 s0 (1 : Int32) _ h
set_option maxRecDepth 100000 in
set_option maxHeartbeats 4000000 in
theorem wX3_putAll_6_l2 {w : zW} (F : Nat) : ∀ (n : Nat) (V0 V1 V2 V3 V4 V5 V6 V7 : zV) (x1 : Int32) (res : zV), fX3_putAll_l2 F n V4 V6 x1 = some res → zR w kX3_putAll 1 0 0 none (zE zds w [V0, V1, V2, V3, V4, V5, res, V7]) 2 [(0, .ref (w.1 + 78)), (1, .int x1)] [] (zE zds w [V0, V1, V2, V3, V4, V5, V6, V7]) := by
  intro n
  induction n with
  | zero =>
    intro V0 V1 V2 V3 V4 V5 V6 V7 x1 res h
    simp [fX3_putAll_l2] at h
  | succ n ih =>
    intro V0 V1 V2 V3 V4 V5 V6 V7 x1 res h
    rw [fX3_putAll_l2] at h
    refine zR_iload_n dX3_putAll_2 1 rfl ?_
    refine zR_sipush (x := (729 : Int32)) dX3_putAll_3 rfl ?_
    by_cases c9 : (729 : Int32) ≤ x1
    · have h := zif_t h c9
      refine zR_icmp_ge_t (tgt := 104) dX3_putAll_6 (by decide) c9 ?_
      have h := Option.some.inj h
      subst h
      exact zR_ret dX3_putAll_104 rfl
    · have h := zif_f h c9
      refine zR_icmp_ge_f (tgt := 104) dX3_putAll_6 (by decide) c9 ?_
      refine zR_iload_n dX3_putAll_9 1 rfl ?_
      refine zR_bipush (x := (81 : Int32)) dX3_putAll_10 rfl ?_
      refine zR_idiv dX3_putAll_12 (by decide) ?_
      obtain ⟨y10, e11, h⟩ := zlet_some h
      refine zR_nmI e11 ?_
      refine zR_istore_n (lv' := [(0, .ref (w.1 + 78)), (1, .int x1), (2, .int y10)]) dX3_putAll_13 (Nat.le_of_ble_eq_true rfl) rfl ?_
      refine zR_iload_n dX3_putAll_14 1 rfl ?_
      refine zR_bipush (x := (9 : Int32)) dX3_putAll_15 rfl ?_
      refine zR_idiv dX3_putAll_17 (by decide) ?_
      refine zR_bipush (x := (9 : Int32)) dX3_putAll_18 rfl ?_
      refine zR_irem dX3_putAll_20 (by decide) ?_
      obtain ⟨y12, e13, h⟩ := zlet_some h
      refine zR_nmI e13 ?_
      refine zR_istore_n (lv' := [(0, .ref (w.1 + 78)), (1, .int x1), (2, .int y10), (3, .int y12)]) dX3_putAll_21 (Nat.le_of_ble_eq_true rfl) rfl ?_
      refine zR_iload_n dX3_putAll_22 1 rfl ?_
      refine zR_bipush (x := (9 : Int32)) dX3_putAll_23 rfl ?_
      refine zR_irem dX3_putAll_25 (by decide) ?_
      obtain ⟨y14, e15, h⟩ := zlet_some h
      refine zR_nmI e15 ?_
      refine zR_istore (lv' := [(0, .ref (w.1 + 78)), (1, .int x1), (2, .int y10), (3, .int y12), (4, .int y14)]) dX3_putAll_26 (Nat.le_of_ble_eq_true rfl) rfl ?_
      refine zR_iload_n dX3_putAll_28 2 rfl ?_
      by_cases c16 : y10 ≤ 0
      · have h := zif_t h c16
        refine zR_if_le_t (tgt := 36) dX3_putAll_29 (by decide) c16 ?_
        refine zR_iconst (x := (0 : Int32)) dX3_putAll_36 rfl ?_
        exact wX3_putAll_6_b37 F (fX3_putAll_l2 F n) ih V0 V1 V2 V3 V4 V5 V6 V7 x1 y10 y12 y14 (0 : Int32) _ h
      · have h := zif_f h c16
        refine zR_if_le_f (tgt := 36) dX3_putAll_29 (by decide) c16 ?_
        refine zR_iconst (x := (1 : Int32)) dX3_putAll_32 rfl ?_
        refine zR_goto (tgt := 37) dX3_putAll_33 (by decide) ?_
        exact wX3_putAll_6_b37 F (fX3_putAll_l2 F n) ih V0 V1 V2 V3 V4 V5 V6 V7 x1 y10 y12 y14 (1 : Int32) _ h
set_option maxRecDepth 100000 in
set_option maxHeartbeats 4000000 in
theorem mX3_putAll_6 {w : zW} (F : Nat) (V0 V1 V2 V3 V4 V5 V6 V7 : zV) (res : zV) (h : fX3_putAll F V4 V6 = some res) : zMet w kX3_putAll 1 0 0 [.ref (w.1 + 78)] (zE zds w [V0, V1, V2, V3, V4, V5, V6, V7]) none (zE zds w [V0, V1, V2, V3, V4, V5, res, V7]) := by
  refine zMet_of (by decide) (Nat.le_of_ble_eq_true rfl) (Nat.le_refl 0) fun _ => ?_
  show zR w kX3_putAll 1 0 0 none (zE zds w [V0, V1, V2, V3, V4, V5, res, V7]) 0 [(0, .ref (w.1 + 78))] [] (zE zds w [V0, V1, V2, V3, V4, V5, V6, V7])
  unfold fX3_putAll at h
  refine zR_iconst (x := (0 : Int32)) dX3_putAll_0 rfl ?_
  refine zR_istore_n (lv' := [(0, .ref (w.1 + 78)), (1, .int (0 : Int32))]) dX3_putAll_1 (Nat.le_of_ble_eq_true rfl) rfl ?_
  exact wX3_putAll_6_l2 F F V0 V1 V2 V3 V4 V5 V6 V7 (0 : Int32) _ h
set_option maxRecDepth 100000 in
set_option maxHeartbeats 4000000 in
theorem wX3_moveBallBy_6_b115 {w : zW} (F : Nat) (V0 V1 V2 V3 V4 V5 V6 V7 : zV) (x2 : Int32) (res : zV) (h : fX3_moveBallBy_b115 F V4 V6 x2 = some res) : zR w kX3_moveBallBy 3 0 0 none (zE zds w [V0, V1, V2, V3, V4, V5, res, V7]) 115 [(0, .ref (w.1 + 78)), (2, .int x2)] [] (zE zds w [V0, V1, V2, V3, V4, V5, V6, V7]) := by
  unfold fX3_moveBallBy_b115 at h
  refine zR_iload_n dX3_moveBallBy_115 1 rfl ?_
  by_cases c1 : x2 = 0
  · have h := zif_t h c1
    refine zR_if_eq_t (tgt := 123) dX3_moveBallBy_116 (by decide) c1 ?_
    have h := Option.some.inj h
    subst h
    exact zR_ret dX3_moveBallBy_123 rfl
  · have h := zif_f h c1
    refine zR_if_eq_f (tgt := 123) dX3_moveBallBy_116 (by decide) c1 ?_
    refine zR_aload_n dX3_moveBallBy_119 0 rfl ?_
    obtain ⟨q2, hq3, h⟩ := zbd_some h
    refine zR_cV (rest := []) (st1 := []) dX3_moveBallBy_120 (mX3_spread_6 F V0 V1 V2 V3 V4 V5 V6 V7 _ hq3) zc_X3_57 rfl (zE_at zd_78) ⟨_, _, rfl⟩ rfl (Nat.le_of_ble_eq_true rfl) (Nat.le_of_ble_eq_true rfl) rfl ?_
    have h := Option.some.inj h
    subst h
    exact zR_ret dX3_moveBallBy_123 rfl
set_option maxRecDepth 100000 in
set_option maxHeartbeats 4000000 in
theorem wX3_moveBallBy_6_b87 {w : zW} (F : Nat) (V0 V1 V2 V3 V4 V5 V6 V7 : zV) (x2 : Int32) (res : zV) (h : fX3_moveBallBy_b87 F V4 V6 x2 = some res) : zR w kX3_moveBallBy 3 0 0 none (zE zds w [V0, V1, V2, V3, V4, V5, res, V7]) 87 [(0, .ref (w.1 + 78)), (2, .int x2)] [] (zE zds w [V0, V1, V2, V3, V4, V5, V6, V7]) := by
  unfold fX3_moveBallBy_b87 at h
  refine zR_iload_n dX3_moveBallBy_87 1 rfl ?_
  by_cases c4 : x2 = 0
  · have h := zif_t h c4
    refine zR_if_eq_t (tgt := 115) dX3_moveBallBy_88 (by decide) c4 ?_
    exact wX3_moveBallBy_6_b115 F V0 V1 V2 V3 V4 V5 V6 V7 x2 _ h
  · have h := zif_f h c4
    refine zR_if_eq_f (tgt := 115) dX3_moveBallBy_88 (by decide) c4 ?_
    refine zR_aload_n dX3_moveBallBy_91 0 rfl ?_
    refine zG_getI dX3_moveBallBy_92 zf_X3_15 zd_78 rfl rfl ?_
    by_cases c5 : (zI V6 14 5) = 0
    · have h := zif_t h c5
      refine zR_if_ne_f (tgt := 115) dX3_moveBallBy_95 (by decide) c5 ?_
      refine zR_aload_n dX3_moveBallBy_98 0 rfl ?_
      refine zR_dup dX3_moveBallBy_99 rfl ?_
      refine zG_getI dX3_moveBallBy_100 zf_X3_24 zd_78 rfl rfl ?_
      refine zR_iconst (x := (1 : Int32)) dX3_moveBallBy_103 rfl ?_
      refine zR_iadd dX3_moveBallBy_104 ?_
      obtain ⟨V6_6, e7, h⟩ := zlet_some h
      refine zG_putI zds_ok dX3_moveBallBy_105 zf_X3_24 zt_X3_8 zd_78 rfl rfl e7 rfl ?_
      refine zR_aload_n dX3_moveBallBy_108 0 rfl ?_
      obtain ⟨q8, hq9, h⟩ := zbd_some h
      refine zR_cV (rest := []) (st1 := []) dX3_moveBallBy_109 (mX3_putAll_6 F V0 V1 V2 V3 V4 V5 V6_6 V7 _ hq9) zc_X3_69 rfl (zE_at zd_78) ⟨_, _, rfl⟩ rfl (Nat.le_of_ble_eq_true rfl) (Nat.le_of_ble_eq_true rfl) rfl ?_
      refine zR_goto (tgt := 123) dX3_moveBallBy_112 (by decide) ?_
      have h := Option.some.inj h
      subst h
      exact zR_ret dX3_moveBallBy_123 rfl
    · have h := zif_f h c5
      refine zR_if_ne_t (tgt := 115) dX3_moveBallBy_95 (by decide) c5 ?_
      exact wX3_moveBallBy_6_b115 F V0 V1 V2 V3 V4 V5 V6 V7 x2 _ h
set_option maxRecDepth 100000 in
set_option maxHeartbeats 4000000 in
theorem wX3_moveBallBy_6_b81 {w : zW} (F : Nat) (k13 : zV → zV → Int32 → Int32 → Int32 → Option (zV)) (hk13 : ∀ (V0 V1 V2 V3 V4 V5 V6 V7 : zV) (x1 : Int32) (x2 : Int32) (x3 : Int32) (res : zV), k13 V4 V6 x1 x2 x3 = some res → zR w kX3_moveBallBy 3 0 0 none (zE zds w [V0, V1, V2, V3, V4, V5, res, V7]) 13 [(0, .ref (w.1 + 78)), (1, .int x1), (2, .int x2), (3, .int x3)] [] (zE zds w [V0, V1, V2, V3, V4, V5, V6, V7])) (V0 V1 V2 V3 V4 V5 V6 V7 : zV) (x1 : Int32) (x2 : Int32) (x3 : Int32) (res : zV) (h : fX3_moveBallBy_b81 F k13 V4 V6 x1 x2 x3 = some res) : zR w kX3_moveBallBy 3 0 0 none (zE zds w [V0, V1, V2, V3, V4, V5, res, V7]) 81 [(0, .ref (w.1 + 78)), (1, .int x1), (2, .int x2), (3, .int x3)] [] (zE zds w [V0, V1, V2, V3, V4, V5, V6, V7]) := by
  unfold fX3_moveBallBy_b81 at h
  refine zR_iinc (u := (x3 + 1)) (lv' := [(0, .ref (w.1 + 78)), (1, .int x1), (2, .int x2), (3, .int (x3 + 1))]) dX3_moveBallBy_81 3 rfl rfl (Nat.le_of_ble_eq_true rfl) rfl ?_
  refine zR_goto (tgt := 13) dX3_moveBallBy_84 (by decide) ?_
  exact hk13 V0 V1 V2 V3 V4 V5 V6 V7 x1 x2 (x3 + 1) _ h
set_option maxRecDepth 100000 in
set_option maxHeartbeats 4000000 in
theorem wX3_moveBallBy_6_b53 {w : zW} (F : Nat) (k13 : zV → zV → Int32 → Int32 → Int32 → Option (zV)) (hk13 : ∀ (V0 V1 V2 V3 V4 V5 V6 V7 : zV) (x1 : Int32) (x2 : Int32) (x3 : Int32) (res : zV), k13 V4 V6 x1 x2 x3 = some res → zR w kX3_moveBallBy 3 0 0 none (zE zds w [V0, V1, V2, V3, V4, V5, res, V7]) 13 [(0, .ref (w.1 + 78)), (1, .int x1), (2, .int x2), (3, .int x3)] [] (zE zds w [V0, V1, V2, V3, V4, V5, V6, V7])) (V0 V1 V2 V3 V4 V5 V6 V7 : zV) (x1 : Int32) (x3 : Int32) (res : zV) (h : fX3_moveBallBy_b53 F k13 V4 V6 x1 x3 = some res) : zR w kX3_moveBallBy 3 0 0 none (zE zds w [V0, V1, V2, V3, V4, V5, res, V7]) 53 [(0, .ref (w.1 + 78)), (1, .int x1), (3, .int x3)] [] (zE zds w [V0, V1, V2, V3, V4, V5, V6, V7]) := by
  unfold fX3_moveBallBy_b53 at h
  refine zR_iconst (x := (1 : Int32)) dX3_moveBallBy_53 rfl ?_
  refine zR_istore_n (lv' := [(0, .ref (w.1 + 78)), (1, .int x1), (3, .int x3), (2, .int (1 : Int32))]) dX3_moveBallBy_54 (Nat.le_of_ble_eq_true rfl) rfl ?_
  refine zR_aload_n dX3_moveBallBy_55 0 rfl ?_
  refine zR_aload_n dX3_moveBallBy_56 0 rfl ?_
  refine zG_getR dX3_moveBallBy_57 zf_X3_27 zd_78 rfl rfl ?_
  refine zG_getR dX3_moveBallBy_60 zf_X3_63 zd_15 rfl rfl ?_
  refine zR_iload_n dX3_moveBallBy_63 2 rfl ?_
  obtain ⟨g10, h⟩ := zchk_some h
  refine zG_iald dX3_moveBallBy_64 zd_21 rfl rfl g10 ?_
  refine zR_iconst (x := (1 : Int32)) dX3_moveBallBy_65 rfl ?_
  refine zR_iadd dX3_moveBallBy_66 ?_
  refine zR_aload_n dX3_moveBallBy_67 0 rfl ?_
  refine zG_getR dX3_moveBallBy_68 zf_X3_27 zd_78 rfl rfl ?_
  refine zG_getR dX3_moveBallBy_71 zf_X3_66 zd_15 rfl rfl ?_
  refine zR_iload_n dX3_moveBallBy_74 2 rfl ?_
  obtain ⟨g11, h⟩ := zchk_some h
  refine zG_iald dX3_moveBallBy_75 zd_22 rfl rfl g11 ?_
  refine zR_iconst (x := (1 : Int32)) dX3_moveBallBy_76 rfl ?_
  refine zR_iadd dX3_moveBallBy_77 ?_
  obtain ⟨q12, hq13, h⟩ := zbd_some h
  refine zR_cV (rest := []) (st1 := []) dX3_moveBallBy_78 (mX3_moveAll_6 F V0 V1 V2 V3 V4 V5 V6 V7 ((zA V4 6 (x3).toNatClampNeg) + (1 : Int32)) ((zA V4 7 (x3).toNatClampNeg) + (1 : Int32)) _ hq13) zc_X3_53 rfl (zE_at zd_78) ⟨_, _, rfl⟩ rfl (Nat.le_of_ble_eq_true rfl) (Nat.le_of_ble_eq_true rfl) rfl ?_
  refine zR_sub (lv' := [(0, .ref (w.1 + 78)), (1, .int x1), (2, .int (1 : Int32)), (3, .int x3)]) [0, 1, 3, 2] rfl ?_
  exact wX3_moveBallBy_6_b81 F k13 hk13 V0 V1 V2 V3 V4 V5 q12 V7 x1 (1 : Int32) x3 _ h
set_option maxRecDepth 100000 in
set_option maxHeartbeats 4000000 in
theorem wX3_moveBallBy_6_l13 {w : zW} (F : Nat) : ∀ (n : Nat) (V0 V1 V2 V3 V4 V5 V6 V7 : zV) (x1 : Int32) (x2 : Int32) (x3 : Int32) (res : zV), fX3_moveBallBy_l13 F n V4 V6 x1 x2 x3 = some res → zR w kX3_moveBallBy 3 0 0 none (zE zds w [V0, V1, V2, V3, V4, V5, res, V7]) 13 [(0, .ref (w.1 + 78)), (1, .int x1), (2, .int x2), (3, .int x3)] [] (zE zds w [V0, V1, V2, V3, V4, V5, V6, V7]) := by
  intro n
  induction n with
  | zero =>
    intro V0 V1 V2 V3 V4 V5 V6 V7 x1 x2 x3 res h
    simp [fX3_moveBallBy_l13] at h
  | succ n ih =>
    intro V0 V1 V2 V3 V4 V5 V6 V7 x1 x2 x3 res h
    rw [fX3_moveBallBy_l13] at h
    refine zR_iload_n dX3_moveBallBy_13 3 rfl ?_
    refine zR_aload_n dX3_moveBallBy_14 0 rfl ?_
    refine zG_getR dX3_moveBallBy_15 zf_X3_27 zd_78 rfl rfl ?_
    refine zG_getR dX3_moveBallBy_18 zf_X3_44 zd_15 rfl rfl ?_
    refine zR_iconst (x := (5 : Int32)) dX3_moveBallBy_21 rfl ?_
    refine zG_iald dX3_moveBallBy_22 zd_16 rfl rfl (show zix (5 : Int32) 27 from by decide) ?_
    by_cases c14 : (zA V4 1 ((5 : Int32)).toNatClampNeg) ≤ x3
    · have h := zif_t h c14
      refine zR_icmp_ge_t (tgt := 87) dX3_moveBallBy_23 (by decide) c14 ?_
      refine zR_sub (lv' := [(0, .ref (w.1 + 78)), (2, .int x2)]) [0, 2] rfl ?_
      exact wX3_moveBallBy_6_b87 F V0 V1 V2 V3 V4 V5 V6 V7 x2 _ h
    · have h := zif_f h c14
      refine zR_icmp_ge_f (tgt := 87) dX3_moveBallBy_23 (by decide) c14 ?_
      refine zR_iload_n dX3_moveBallBy_26 3 rfl ?_
      refine zR_bipush (x := (24 : Int32)) dX3_moveBallBy_27 rfl ?_
      by_cases c15 : (24 : Int32) ≤ x3
      · have h := zif_t h c15
        refine zR_icmp_ge_t (tgt := 87) dX3_moveBallBy_29 (by decide) c15 ?_
        refine zR_sub (lv' := [(0, .ref (w.1 + 78)), (2, .int x2)]) [0, 2] rfl ?_
        exact wX3_moveBallBy_6_b87 F V0 V1 V2 V3 V4 V5 V6 V7 x2 _ h
      · have h := zif_f h c15
        refine zR_icmp_ge_f (tgt := 87) dX3_moveBallBy_29 (by decide) c15 ?_
        refine zR_aload_n dX3_moveBallBy_32 0 rfl ?_
        refine zG_getR dX3_moveBallBy_33 zf_X3_27 zd_78 rfl rfl ?_
        refine zG_getR dX3_moveBallBy_36 zf_X3_60 zd_15 rfl rfl ?_
        refine zR_iload_n dX3_moveBallBy_39 3 rfl ?_
        obtain ⟨g16, h⟩ := zchk_some h
        refine zG_iald dX3_moveBallBy_40 zd_23 rfl rfl g16 ?_
        refine zR_iload_n dX3_moveBallBy_41 1 rfl ?_
        by_cases c17 : (zA V4 8 (x3).toNatClampNeg) = x1
        · have h := zif_t h c17
          refine zR_icmp_ne_f (tgt := 81) dX3_moveBallBy_42 (by decide) c17 ?_
          refine zR_iload_n dX3_moveBallBy_45 2 rfl ?_
          by_cases c18 : x2 = 0
          · have h := zif_t h c18
            refine zR_if_ne_f (tgt := 53) dX3_moveBallBy_46 (by decide) c18 ?_
            refine zR_aload_n dX3_moveBallBy_49 0 rfl ?_
            obtain ⟨q19, hq20, h⟩ := zbd_some h
            refine zR_cV (rest := []) (st1 := []) dX3_moveBallBy_50 (mX3_turnOver_6 F V0 V1 V2 V3 V4 V5 V6 V7 _ hq20) zc_X3_41 rfl (zE_at zd_78) ⟨_, _, rfl⟩ rfl (Nat.le_of_ble_eq_true rfl) (Nat.le_of_ble_eq_true rfl) rfl ?_
            refine zR_sub (lv' := [(0, .ref (w.1 + 78)), (1, .int x1), (3, .int x3)]) [0, 1, 3] rfl ?_
            exact wX3_moveBallBy_6_b53 F (fX3_moveBallBy_l13 F n) ih V0 V1 V2 V3 V4 V5 q19 V7 x1 x3 _ h
          · have h := zif_f h c18
            refine zR_if_ne_t (tgt := 53) dX3_moveBallBy_46 (by decide) c18 ?_
            refine zR_sub (lv' := [(0, .ref (w.1 + 78)), (1, .int x1), (3, .int x3)]) [0, 1, 3] rfl ?_
            exact wX3_moveBallBy_6_b53 F (fX3_moveBallBy_l13 F n) ih V0 V1 V2 V3 V4 V5 V6 V7 x1 x3 _ h
        · have h := zif_f h c17
          refine zR_icmp_ne_t (tgt := 81) dX3_moveBallBy_42 (by decide) c17 ?_
          exact wX3_moveBallBy_6_b81 F (fX3_moveBallBy_l13 F n) ih V0 V1 V2 V3 V4 V5 V6 V7 x1 x2 x3 _ h
set_option maxRecDepth 100000 in
set_option maxHeartbeats 4000000 in
theorem mX3_moveBallBy_6 {w : zW} (F : Nat) (V0 V1 V2 V3 V4 V5 V6 V7 : zV) (x1 : Int32) (res : zV) (h : fX3_moveBallBy F V4 V6 x1 = some res) : zMet w kX3_moveBallBy 3 0 0 [.ref (w.1 + 78), .int x1] (zE zds w [V0, V1, V2, V3, V4, V5, V6, V7]) none (zE zds w [V0, V1, V2, V3, V4, V5, res, V7]) := by
  refine zMet_of (by decide) (Nat.le_of_ble_eq_true rfl) (Nat.le_refl 0) fun _ => ?_
  show zR w kX3_moveBallBy 3 0 0 none (zE zds w [V0, V1, V2, V3, V4, V5, res, V7]) 0 [(0, .ref (w.1 + 78)), (1, .int x1)] [] (zE zds w [V0, V1, V2, V3, V4, V5, V6, V7])
  unfold fX3_moveBallBy at h
  refine zR_aload_n dX3_moveBallBy_0 0 rfl ?_
  refine zG_getP dX3_moveBallBy_1 zf_X3_31 zd_78 rfl rfl ?_
  obtain ⟨g21, h⟩ := zchk_some h
  have i22 : zds[64 + (zP V6 14 1)]? = some (.inr (0, 6, (zP V6 14 1), 1, 0)) := by rcases g21 with u | u <;> (rw [u]; rfl)
  refine zG_alen (u := (nI (zN V6 (zP V6 14 1)))) dX3_moveBallBy_4 i22 (Nat.le_of_ble_eq_true rfl) rfl rfl rfl ?_
  by_cases c23 : (nI (zN V6 (zP V6 14 1))) = 0
  · have h := zif_t h c23
    refine zR_if_ne_f (tgt := 9) dX3_moveBallBy_5 (by decide) c23 ?_
    have h := Option.some.inj h
    subst h
    exact zR_ret dX3_moveBallBy_8 rfl
  · have h := zif_f h c23
    refine zR_if_ne_t (tgt := 9) dX3_moveBallBy_5 (by decide) c23 ?_
    refine zR_iconst (x := (0 : Int32)) dX3_moveBallBy_9 rfl ?_
    refine zR_istore_n (lv' := [(0, .ref (w.1 + 78)), (1, .int x1), (2, .int (0 : Int32))]) dX3_moveBallBy_10 (Nat.le_of_ble_eq_true rfl) rfl ?_
    refine zR_iconst (x := (0 : Int32)) dX3_moveBallBy_11 rfl ?_
    refine zR_istore_n (lv' := [(0, .ref (w.1 + 78)), (1, .int x1), (2, .int (0 : Int32)), (3, .int (0 : Int32))]) dX3_moveBallBy_12 (Nat.le_of_ble_eq_true rfl) rfl ?_
    exact wX3_moveBallBy_6_l13 F F V0 V1 V2 V3 V4 V5 V6 V7 x1 (0 : Int32) (0 : Int32) _ h
set_option maxRecDepth 100000 in
set_option maxHeartbeats 4000000 in
theorem wX1_hit_6_b89 {w : zW} (F : Nat) (V0 V1 V2 V3 V4 V5 V6 V7 : zV) (res : Int32 × zV) (h : fX1_hit_b89 F V4 V6 = some res) : zR w kX1_hit 25 0 0 (some (.int res.1)) (zE zds w [V0, V1, V2, V3, V4, V5, res.2, V7]) 89 [(0, .ref (w.1 + 64))] [] (zE zds w [V0, V1, V2, V3, V4, V5, V6, V7]) := by
  unfold fX1_hit_b89 at h
  refine zR_aload_n dX1_hit_89 0 rfl ?_
  obtain ⟨q1, hq2, h⟩ := zbd_some h
  refine zR_cV (rest := []) (st1 := []) dX1_hit_90 (mX1_endBallIfNoneInPlay_6 F V0 V1 V2 V3 V4 V5 V6 V7 _ hq2) zc_X1_114 rfl (zE_at zd_64) ⟨_, _, rfl⟩ rfl (Nat.le_of_ble_eq_true rfl) (Nat.le_of_ble_eq_true rfl) rfl ?_
  refine zR_iconst (x := (1 : Int32)) dX1_hit_93 rfl ?_
  have h := Option.some.inj h
  subst h
  exact zR_iret (x := (1 : Int32)) dX1_hit_94 rfl znar1
set_option maxRecDepth 100000 in
set_option maxHeartbeats 4000000 in
theorem wX1_hit_6_b83 {w : zW} (F : Nat) (k35 : zV → zV → Int32 → Int32 → Option (Int32 × zV)) (hk35 : ∀ (V0 V1 V2 V3 V4 V5 V6 V7 : zV) (x1 : Int32) (x2 : Int32) (res : Int32 × zV), k35 V4 V6 x1 x2 = some res → zR w kX1_hit 25 0 0 (some (.int res.1)) (zE zds w [V0, V1, V2, V3, V4, V5, res.2, V7]) 35 [(0, .ref (w.1 + 64)), (1, .int x1), (2, .int x2)] [] (zE zds w [V0, V1, V2, V3, V4, V5, V6, V7])) (V0 V1 V2 V3 V4 V5 V6 V7 : zV) (x1 : Int32) (x2 : Int32) (res : Int32 × zV) (h : fX1_hit_b83 F k35 V4 V6 x1 x2 = some res) : zR w kX1_hit 25 0 0 (some (.int res.1)) (zE zds w [V0, V1, V2, V3, V4, V5, res.2, V7]) 83 [(0, .ref (w.1 + 64)), (1, .int x1), (2, .int x2)] [] (zE zds w [V0, V1, V2, V3, V4, V5, V6, V7]) := by
  unfold fX1_hit_b83 at h
  refine zR_iinc (u := (x2 + 1)) (lv' := [(0, .ref (w.1 + 64)), (1, .int x1), (2, .int (x2 + 1))]) dX1_hit_83 2 rfl rfl (Nat.le_of_ble_eq_true rfl) rfl ?_
  refine zR_goto (tgt := 35) dX1_hit_86 (by decide) ?_
  exact hk35 V0 V1 V2 V3 V4 V5 V6 V7 x1 (x2 + 1) _ h
set_option maxRecDepth 100000 in
set_option maxHeartbeats 4000000 in
theorem wX1_hit_6_l35 {w : zW} (F : Nat) : ∀ (n : Nat) (V0 V1 V2 V3 V4 V5 V6 V7 : zV) (x1 : Int32) (x2 : Int32) (res : Int32 × zV), fX1_hit_l35 F n V4 V6 x1 x2 = some res → zR w kX1_hit 25 0 0 (some (.int res.1)) (zE zds w [V0, V1, V2, V3, V4, V5, res.2, V7]) 35 [(0, .ref (w.1 + 64)), (1, .int x1), (2, .int x2)] [] (zE zds w [V0, V1, V2, V3, V4, V5, V6, V7]) := by
  intro n
  induction n with
  | zero =>
    intro V0 V1 V2 V3 V4 V5 V6 V7 x1 x2 res h
    simp [fX1_hit_l35] at h
  | succ n ih =>
    intro V0 V1 V2 V3 V4 V5 V6 V7 x1 x2 res h
    rw [fX1_hit_l35] at h
    refine zR_iload_n dX1_hit_35 2 rfl ?_
    refine zR_aload_n dX1_hit_36 0 rfl ?_
    refine zG_getR dX1_hit_37 zf_X1_39 zd_64 rfl rfl ?_
    refine zG_getR dX1_hit_40 zf_X1_125 zd_15 rfl rfl ?_
    refine zR_bipush (x := (7 : Int32)) dX1_hit_43 rfl ?_
    refine zG_iald dX1_hit_45 zd_16 rfl rfl (show zix (7 : Int32) 27 from by decide) ?_
    by_cases c3 : (zA V4 1 ((7 : Int32)).toNatClampNeg) ≤ x2
    · have h := zif_t h c3
      refine zR_icmp_ge_t (tgt := 89) dX1_hit_46 (by decide) c3 ?_
      refine zR_sub (lv' := [(0, .ref (w.1 + 64))]) [0] rfl ?_
      exact wX1_hit_6_b89 F V0 V1 V2 V3 V4 V5 V6 V7 _ h
    · have h := zif_f h c3
      refine zR_icmp_ge_f (tgt := 89) dX1_hit_46 (by decide) c3 ?_
      refine zR_aload_n dX1_hit_49 0 rfl ?_
      refine zG_getI dX1_hit_50 zf_X1_36 zd_64 rfl rfl ?_
      by_cases c4 : (zI V6 0 14) = 0
      · have h := zif_t h c4
        refine zR_if_ne_f (tgt := 89) dX1_hit_53 (by decide) c4 ?_
        refine zR_aload_n dX1_hit_56 0 rfl ?_
        refine zG_getR dX1_hit_57 zf_X1_39 zd_64 rfl rfl ?_
        refine zR_iload_n dX1_hit_60 2 rfl ?_
        obtain ⟨q5, hq6, h⟩ := zbd_some h
        refine zR_cV (rest := []) (st1 := [.int q5]) dX1_hit_61 (mX9_inOrder F V0 V1 V2 V3 V4 V5 V6 V7 x2 _ hq6) zc_X1_128 rfl (zE_at zd_15) ⟨_, _, rfl⟩ rfl (Nat.le_of_ble_eq_true rfl) (Nat.le_of_ble_eq_true rfl) rfl ?_
        refine zR_istore_n (lv' := [(0, .ref (w.1 + 64)), (1, .int x1), (2, .int x2), (3, .int q5)]) dX1_hit_64 (Nat.le_of_ble_eq_true rfl) rfl ?_
        refine zR_aload_n dX1_hit_65 0 rfl ?_
        refine zG_getR dX1_hit_66 zf_X1_87 zd_64 rfl rfl ?_
        refine zR_iload_n dX1_hit_69 3 rfl ?_
        obtain ⟨q7, hq8, h⟩ := zbd_some h
        refine zR_cV (rest := []) (st1 := [.int q7]) dX1_hit_70 (mX4_isOnSinceThen_6 F V0 V1 V2 V3 V4 V5 V6 V7 q5 _ hq8) zc_X1_132 rfl (zE_at zd_82) ⟨_, _, rfl⟩ rfl (Nat.le_of_ble_eq_true rfl) (Nat.le_of_ble_eq_true rfl) rfl ?_
        by_cases c9 : q7 = 0
        · have h := zif_t h c9
          refine zR_if_eq_t (tgt := 83) dX1_hit_73 (by decide) c9 ?_
          refine zR_sub (lv' := [(0, .ref (w.1 + 64)), (1, .int x1), (2, .int x2)]) [0, 1, 2] rfl ?_
          exact wX1_hit_6_b83 F (fX1_hit_l35 F n) ih V0 V1 V2 V3 V4 V5 V6 V7 x1 x2 _ h
        · have h := zif_f h c9
          refine zR_if_eq_f (tgt := 83) dX1_hit_73 (by decide) c9 ?_
          refine zR_aload_n dX1_hit_76 0 rfl ?_
          refine zR_iload_n dX1_hit_77 3 rfl ?_
          refine zR_iload_n dX1_hit_78 1 rfl ?_
          refine zR_iconst (x := (0 : Int32)) dX1_hit_79 rfl ?_
          obtain ⟨q10, hq11, h⟩ := zbd_some h
          refine zR_cV (rest := []) (st1 := []) dX1_hit_80 (mX1_doRules_6 F V0 V1 V2 V3 V4 V5 V6 V7 q5 x1 (0 : Int32) _ hq11) zc_X1_110 rfl (zE_at zd_64) ⟨_, _, rfl⟩ rfl (Nat.le_of_ble_eq_true rfl) (Nat.le_of_ble_eq_true rfl) rfl ?_
          refine zR_sub (lv' := [(0, .ref (w.1 + 64)), (1, .int x1), (2, .int x2)]) [0, 1, 2] rfl ?_
          exact wX1_hit_6_b83 F (fX1_hit_l35 F n) ih V0 V1 V2 V3 V4 V5 q10 V7 x1 x2 _ h
      · have h := zif_f h c4
        refine zR_if_ne_t (tgt := 89) dX1_hit_53 (by decide) c4 ?_
        refine zR_sub (lv' := [(0, .ref (w.1 + 64))]) [0] rfl ?_
        exact wX1_hit_6_b89 F V0 V1 V2 V3 V4 V5 V6 V7 _ h
set_option maxRecDepth 100000 in
set_option maxHeartbeats 4000000 in
theorem mX1_hit_6 {w : zW} (F : Nat) (V0 V1 V2 V3 V4 V5 V6 V7 : zV) (x1 : Int32) (res : Int32 × zV) (h : fX1_hit F V4 V6 x1 = some res) : zMet w kX1_hit 25 0 0 [.ref (w.1 + 64), .int x1] (zE zds w [V0, V1, V2, V3, V4, V5, V6, V7]) (some (.int res.1)) (zE zds w [V0, V1, V2, V3, V4, V5, res.2, V7]) := by
  refine zMet_of (by decide) (Nat.le_of_ble_eq_true rfl) (Nat.le_refl 0) fun _ => ?_
  show zR w kX1_hit 25 0 0 (some (.int res.1)) (zE zds w [V0, V1, V2, V3, V4, V5, res.2, V7]) 0 [(0, .ref (w.1 + 64)), (1, .int x1)] [] (zE zds w [V0, V1, V2, V3, V4, V5, V6, V7])
  unfold fX1_hit at h
  refine zR_aload_n dX1_hit_0 0 rfl ?_
  refine zG_getR dX1_hit_1 zf_X1_64 zd_64 rfl rfl ?_
  refine zR_iload_n dX1_hit_4 1 rfl ?_
  refine zR_aload_n dX1_hit_5 0 rfl ?_
  refine zG_getI dX1_hit_6 zf_X1_23 zd_64 rfl rfl ?_
  refine zR_aload_n dX1_hit_9 0 rfl ?_
  refine zG_getI dX1_hit_10 zf_X1_19 zd_64 rfl rfl ?_
  obtain ⟨q12, hq13, h⟩ := zbd_some h
  refine zR_cV (rest := []) (st1 := [.int q12.1]) dX1_hit_13 (mX8_take_6 F V0 V1 V2 V3 V4 V5 V6 V7 x1 (zI V6 0 10) (zI V6 0 9) _ hq13) zc_X1_117 rfl (zE_at zd_69) ⟨_, _, rfl⟩ rfl (Nat.le_of_ble_eq_true rfl) (Nat.le_of_ble_eq_true rfl) rfl ?_
  by_cases c14 : q12.1 = 0
  · have h := zif_t h c14
    refine zR_if_ne_f (tgt := 21) dX1_hit_16 (by decide) c14 ?_
    refine zR_iconst (x := (0 : Int32)) dX1_hit_19 rfl ?_
    have h := Option.some.inj h
    subst h
    exact zR_iret (x := (0 : Int32)) dX1_hit_20 rfl znar0
  · have h := zif_f h c14
    refine zR_if_ne_t (tgt := 21) dX1_hit_16 (by decide) c14 ?_
    refine zR_aload_n dX1_hit_21 0 rfl ?_
    refine zG_getR dX1_hit_22 zf_X1_80 zd_64 rfl rfl ?_
    refine zR_iload_n dX1_hit_25 1 rfl ?_
    obtain ⟨q15, hq16, h⟩ := zbd_some h
    refine zR_cV (rest := []) (st1 := []) dX1_hit_26 (mX3_moveBallBy_6 F V0 V1 V2 V3 V4 V5 q12.2 V7 x1 _ hq16) zc_X1_121 rfl (zE_at zd_78) ⟨_, _, rfl⟩ rfl (Nat.le_of_ble_eq_true rfl) (Nat.le_of_ble_eq_true rfl) rfl ?_
    refine zR_aload_n dX1_hit_29 0 rfl ?_
    obtain ⟨q17, hq18, h⟩ := zbd_some h
    refine zR_cV (rest := []) (st1 := []) dX1_hit_30 (mX1_beginActs_6 F V0 V1 V2 V3 V4 V5 q15 V7 _ hq18) zc_X1_103 rfl (zE_at zd_64) ⟨_, _, rfl⟩ rfl (Nat.le_of_ble_eq_true rfl) (Nat.le_of_ble_eq_true rfl) rfl ?_
    refine zR_iconst (x := (0 : Int32)) dX1_hit_33 rfl ?_
    refine zR_istore_n (lv' := [(0, .ref (w.1 + 64)), (1, .int x1), (2, .int (0 : Int32))]) dX1_hit_34 (Nat.le_of_ble_eq_true rfl) rfl ?_
    exact wX1_hit_6_l35 F F V0 V1 V2 V3 V4 V5 q17 V7 x1 (0 : Int32) _ h
set_option maxRecDepth 100000 in
set_option maxHeartbeats 4000000 in
theorem wX11_again_b117 {w : zW} (F : Nat) (k20 : zV → zV → zV → zV → Int32 → Option (Int64 × zV)) (hk20 : ∀ (V0 V1 V2 V3 V4 V5 V6 V7 : zV) (x1 : Int32) (res : Int64 × zV), k20 V0 V4 V5 V6 x1 = some res → zR w kX11_again 26 0 0 (some (.long res.1)) (zE zds w [V0, V1, V2, V3, V4, V5, res.2, V7]) 20 [(0, .ref (w.1 + 0)), (1, .int x1)] [] (zE zds w [V0, V1, V2, V3, V4, V5, V6, V7])) (V0 V1 V2 V3 V4 V5 V6 V7 : zV) (x1 : Int32) (res : Int64 × zV) (h : fX11_again_b117 F k20 V0 V4 V5 V6 x1 = some res) : zR w kX11_again 26 0 0 (some (.long res.1)) (zE zds w [V0, V1, V2, V3, V4, V5, res.2, V7]) 117 [(0, .ref (w.1 + 0)), (1, .int x1)] [] (zE zds w [V0, V1, V2, V3, V4, V5, V6, V7]) := by
  unfold fX11_again_b117 at h
  refine zR_iinc (u := (x1 + 1)) (lv' := [(0, .ref (w.1 + 0)), (1, .int (x1 + 1))]) dX11_again_117 1 rfl rfl (Nat.le_of_ble_eq_true rfl) rfl ?_
  refine zR_goto (tgt := 20) dX11_again_120 (by decide) ?_
  exact hk20 V0 V1 V2 V3 V4 V5 V6 V7 (x1 + 1) _ h
set_option maxRecDepth 100000 in
set_option maxHeartbeats 4000000 in
theorem wX11_again_l79 {w : zW} (F : Nat) (k20 : zV → zV → zV → zV → Int32 → Option (Int64 × zV)) (hk20 : ∀ (V0 V1 V2 V3 V4 V5 V6 V7 : zV) (x1 : Int32) (res : Int64 × zV), k20 V0 V4 V5 V6 x1 = some res → zR w kX11_again 26 0 0 (some (.long res.1)) (zE zds w [V0, V1, V2, V3, V4, V5, res.2, V7]) 20 [(0, .ref (w.1 + 0)), (1, .int x1)] [] (zE zds w [V0, V1, V2, V3, V4, V5, V6, V7])) : ∀ (n : Nat) (V0 V1 V2 V3 V4 V5 V6 V7 : zV) (x1 : Int32) (x2 : Int32) (x3 : Int32) (x4 : Int32) (res : Int64 × zV), fX11_again_l79 F k20 n V0 V4 V5 V6 x1 x2 x3 x4 = some res → zR w kX11_again 26 0 0 (some (.long res.1)) (zE zds w [V0, V1, V2, V3, V4, V5, res.2, V7]) 79 [(0, .ref (w.1 + 0)), (1, .int x1), (2, .int x2), (3, .int x3), (4, .int x4)] [] (zE zds w [V0, V1, V2, V3, V4, V5, V6, V7]) := by
  intro n
  induction n with
  | zero =>
    intro V0 V1 V2 V3 V4 V5 V6 V7 x1 x2 x3 x4 res h
    simp [fX11_again_l79] at h
  | succ n ih =>
    intro V0 V1 V2 V3 V4 V5 V6 V7 x1 x2 x3 x4 res h
    rw [fX11_again_l79] at h
    refine zR_iload dX11_again_79 4 rfl ?_
    refine zR_iload_n dX11_again_81 3 rfl ?_
    by_cases c1 : x3 ≤ x4
    · have h := zif_t h c1
      refine zR_icmp_ge_t (tgt := 99) dX11_again_82 (by decide) c1 ?_
      refine zR_iload_n dX11_again_99 2 rfl ?_
      by_cases c2 : x2 = 0
      · have h := zif_t h c2
        refine zR_if_eq_t (tgt := 117) dX11_again_100 (by decide) c2 ?_
        refine zR_sub (lv' := [(0, .ref (w.1 + 0)), (1, .int x1)]) [0, 1] rfl ?_
        exact wX11_again_b117 F k20 hk20 V0 V1 V2 V3 V4 V5 V6 V7 x1 _ h
      · have h := zif_f h c2
        refine zR_if_eq_f (tgt := 117) dX11_again_100 (by decide) c2 ?_
        refine zR_aload_n dX11_again_103 0 rfl ?_
        refine zG_getR dX11_again_104 zf_X11_76 zd_0 rfl rfl ?_
        refine zR_aload_n dX11_again_107 0 rfl ?_
        refine zG_getR dX11_again_108 zf_X11_66 zd_0 rfl rfl ?_
        refine zR_iload_n dX11_again_111 1 rfl ?_
        obtain ⟨g3, h⟩ := zchk_some h
        refine zG_iald dX11_again_112 zd_62 rfl rfl g3 ?_
        obtain ⟨q4, hq5, h⟩ := zbd_some h
        refine zR_cV (rest := []) (st1 := [.int q4.1]) dX11_again_113 (mX1_hit_6 F V0 V1 V2 V3 V4 V5 V6 V7 (zA V0 62 (x1).toNatClampNeg) _ hq5) zc_X11_108 rfl (zE_at zd_64) ⟨_, _, rfl⟩ rfl (Nat.le_of_ble_eq_true rfl) (Nat.le_of_ble_eq_true rfl) rfl ?_
        refine zR_pop dX11_again_116 rfl ?_
        refine zR_sub (lv' := [(0, .ref (w.1 + 0)), (1, .int x1)]) [0, 1] rfl ?_
        exact wX11_again_b117 F k20 hk20 V0 V1 V2 V3 V4 V5 q4.2 V7 x1 _ h
    · have h := zif_f h c1
      refine zR_icmp_ge_f (tgt := 99) dX11_again_82 (by decide) c1 ?_
      refine zR_aload_n dX11_again_85 0 rfl ?_
      refine zG_getR dX11_again_86 zf_X11_76 zd_0 rfl rfl ?_
      obtain ⟨q6, hq7, h⟩ := zbd_some h
      refine zR_cV (rest := []) (st1 := [.int q6.1]) dX11_again_89 (mX1_passTick_6 F V0 V1 V2 V3 V4 V5 V6 V7 _ hq7) zc_X11_112 rfl (zE_at zd_64) ⟨_, _, rfl⟩ rfl (Nat.le_of_ble_eq_true rfl) (Nat.le_of_ble_eq_true rfl) rfl ?_
      refine zR_pop dX11_again_92 rfl ?_
      refine zR_iinc (u := (x4 + 1)) (lv' := [(0, .ref (w.1 + 0)), (1, .int x1), (2, .int x2), (3, .int x3), (4, .int (x4 + 1))]) dX11_again_93 4 rfl rfl (Nat.le_of_ble_eq_true rfl) rfl ?_
      refine zR_goto (tgt := 79) dX11_again_96 (by decide) ?_
      exact ih V0 V1 V2 V3 V4 V5 q6.2 V7 x1 x2 x3 (x4 + 1) _ h
set_option maxRecDepth 100000 in
set_option maxHeartbeats 4000000 in
theorem wX11_again_b69 {w : zW} (F : Nat) (k20 : zV → zV → zV → zV → Int32 → Option (Int64 × zV)) (hk20 : ∀ (V0 V1 V2 V3 V4 V5 V6 V7 : zV) (x1 : Int32) (res : Int64 × zV), k20 V0 V4 V5 V6 x1 = some res → zR w kX11_again 26 0 0 (some (.long res.1)) (zE zds w [V0, V1, V2, V3, V4, V5, res.2, V7]) 20 [(0, .ref (w.1 + 0)), (1, .int x1)] [] (zE zds w [V0, V1, V2, V3, V4, V5, V6, V7])) (V0 V1 V2 V3 V4 V5 V6 V7 : zV) (x1 : Int32) (x2 : Int32) (s0 : Int32) (res : Int64 × zV) (h : fX11_again_b69 F k20 V0 V4 V5 V6 x1 x2 s0 = some res) : zR w kX11_again 26 0 0 (some (.long res.1)) (zE zds w [V0, V1, V2, V3, V4, V5, res.2, V7]) 69 [(0, .ref (w.1 + 0)), (1, .int x1), (2, .int x2)] [.int s0] (zE zds w [V0, V1, V2, V3, V4, V5, V6, V7]) := by
  unfold fX11_again_b69 at h
  refine zR_istore_n (lv' := [(0, .ref (w.1 + 0)), (1, .int x1), (2, .int x2), (3, .int s0)]) dX11_again_69 (Nat.le_of_ble_eq_true rfl) rfl ?_
  refine zR_aload_n dX11_again_70 0 rfl ?_
  refine zG_getR dX11_again_71 zf_X11_76 zd_0 rfl rfl ?_
  refine zG_getI dX11_again_74 zf_X11_105 zd_64 rfl rfl ?_
  refine zR_istore (lv' := [(0, .ref (w.1 + 0)), (1, .int x1), (2, .int x2), (3, .int s0), (4, .int (zI V6 0 10))]) dX11_again_77 (Nat.le_of_ble_eq_true rfl) rfl ?_
  exact wX11_again_l79 F k20 hk20 F V0 V1 V2 V3 V4 V5 V6 V7 x1 x2 s0 (zI V6 0 10) _ h
set_option maxRecDepth 100000 in
set_option maxHeartbeats 4000000 in
theorem wX11_again_b48 {w : zW} (F : Nat) (k20 : zV → zV → zV → zV → Int32 → Option (Int64 × zV)) (hk20 : ∀ (V0 V1 V2 V3 V4 V5 V6 V7 : zV) (x1 : Int32) (res : Int64 × zV), k20 V0 V4 V5 V6 x1 = some res → zR w kX11_again 26 0 0 (some (.long res.1)) (zE zds w [V0, V1, V2, V3, V4, V5, res.2, V7]) 20 [(0, .ref (w.1 + 0)), (1, .int x1)] [] (zE zds w [V0, V1, V2, V3, V4, V5, V6, V7])) (V0 V1 V2 V3 V4 V5 V6 V7 : zV) (x1 : Int32) (s0 : Int32) (res : Int64 × zV) (h : fX11_again_b48 F k20 V0 V4 V5 V6 x1 s0 = some res) : zR w kX11_again 26 0 0 (some (.long res.1)) (zE zds w [V0, V1, V2, V3, V4, V5, res.2, V7]) 48 [(0, .ref (w.1 + 0)), (1, .int x1)] [.int s0] (zE zds w [V0, V1, V2, V3, V4, V5, V6, V7]) := by
  unfold fX11_again_b48 at h
  refine zR_istore_n (lv' := [(0, .ref (w.1 + 0)), (1, .int x1), (2, .int s0)]) dX11_again_48 (Nat.le_of_ble_eq_true rfl) rfl ?_
  refine zR_iload_n dX11_again_49 2 rfl ?_
  by_cases c8 : s0 = 0
  · have h := zif_t h c8
    refine zR_if_eq_t (tgt := 62) dX11_again_50 (by decide) c8 ?_
    refine zR_aload_n dX11_again_62 0 rfl ?_
    refine zG_getR dX11_again_63 zf_X11_59 zd_0 rfl rfl ?_
    refine zG_getI dX11_again_66 zf_X11_105 zd_38 rfl rfl ?_
    exact wX11_again_b69 F k20 hk20 V0 V1 V2 V3 V4 V5 V6 V7 x1 s0 (zI V5 0 10) _ h
  · have h := zif_f h c8
    refine zR_if_eq_f (tgt := 62) dX11_again_50 (by decide) c8 ?_
    refine zR_aload_n dX11_again_53 0 rfl ?_
    refine zG_getR dX11_again_54 zf_X11_70 zd_0 rfl rfl ?_
    refine zR_iload_n dX11_again_57 1 rfl ?_
    obtain ⟨g9, h⟩ := zchk_some h
    refine zG_iald dX11_again_58 zd_63 rfl rfl g9 ?_
    refine zR_goto (tgt := 69) dX11_again_59 (by decide) ?_
    exact wX11_again_b69 F k20 hk20 V0 V1 V2 V3 V4 V5 V6 V7 x1 s0 (zA V0 63 (x1).toNatClampNeg) _ h
set_option maxRecDepth 100000 in
set_option maxHeartbeats 4000000 in
theorem wX11_again_b47 {w : zW} (F : Nat) (k20 : zV → zV → zV → zV → Int32 → Option (Int64 × zV)) (hk20 : ∀ (V0 V1 V2 V3 V4 V5 V6 V7 : zV) (x1 : Int32) (res : Int64 × zV), k20 V0 V4 V5 V6 x1 = some res → zR w kX11_again 26 0 0 (some (.long res.1)) (zE zds w [V0, V1, V2, V3, V4, V5, res.2, V7]) 20 [(0, .ref (w.1 + 0)), (1, .int x1)] [] (zE zds w [V0, V1, V2, V3, V4, V5, V6, V7])) (V0 V1 V2 V3 V4 V5 V6 V7 : zV) (x1 : Int32) (res : Int64 × zV) (h : fX11_again_b47 F k20 V0 V4 V5 V6 x1 = some res) : zR w kX11_again 26 0 0 (some (.long res.1)) (zE zds w [V0, V1, V2, V3, V4, V5, res.2, V7]) 47 [(0, .ref (w.1 + 0)), (1, .int x1)] [] (zE zds w [V0, V1, V2, V3, V4, V5, V6, V7]) := by
  unfold fX11_again_b47 at h
  refine zR_iconst (x := (0 : Int32)) dX11_again_47 rfl ?_
  exact wX11_again_b48 F k20 hk20 V0 V1 V2 V3 V4 V5 V6 V7 x1 (0 : Int32) _ h
set_option maxRecDepth 100000 in
set_option maxHeartbeats 4000000 in
theorem wX11_again_l20 {w : zW} (F : Nat) : ∀ (n : Nat) (V0 V1 V2 V3 V4 V5 V6 V7 : zV) (x1 : Int32) (res : Int64 × zV), fX11_again_l20 F n V0 V4 V5 V6 x1 = some res → zR w kX11_again 26 0 0 (some (.long res.1)) (zE zds w [V0, V1, V2, V3, V4, V5, res.2, V7]) 20 [(0, .ref (w.1 + 0)), (1, .int x1)] [] (zE zds w [V0, V1, V2, V3, V4, V5, V6, V7]) := by
  intro n
  induction n with
  | zero =>
    intro V0 V1 V2 V3 V4 V5 V6 V7 x1 res h
    simp [fX11_again_l20] at h
  | succ n ih =>
    intro V0 V1 V2 V3 V4 V5 V6 V7 x1 res h
    rw [fX11_again_l20] at h
    refine zR_iload_n dX11_again_20 1 rfl ?_
    refine zR_aload_n dX11_again_21 0 rfl ?_
    refine zG_getI dX11_again_22 zf_X11_73 zd_0 rfl rfl ?_
    by_cases c10 : (zI V0 0 12) < x1
    · have h := zif_t h c10
      refine zR_icmp_gt_t (tgt := 123) dX11_again_25 (by decide) c10 ?_
      refine zR_aload_n dX11_again_123 0 rfl ?_
      refine zG_getR dX11_again_124 zf_X11_76 zd_0 rfl rfl ?_
      refine zG_getL dX11_again_127 zf_X11_116 zd_64 rfl rfl ?_
      have h := Option.some.inj h
      subst h
      exact zR_lret dX11_again_130 rfl
    · have h := zif_f h c10
      refine zR_icmp_gt_f (tgt := 123) dX11_again_25 (by decide) c10 ?_
      refine zR_iload_n dX11_again_28 1 rfl ?_
      refine zR_aload_n dX11_again_29 0 rfl ?_
      refine zG_getI dX11_again_30 zf_X11_73 zd_0 rfl rfl ?_
      by_cases c11 : (zI V0 0 12) ≤ x1
      · have h := zif_t h c11
        refine zR_icmp_ge_t (tgt := 47) dX11_again_33 (by decide) c11 ?_
        exact wX11_again_b47 F (fX11_again_l20 F n) ih V0 V1 V2 V3 V4 V5 V6 V7 x1 _ h
      · have h := zif_f h c11
        refine zR_icmp_ge_f (tgt := 47) dX11_again_33 (by decide) c11 ?_
        refine zR_iload_n dX11_again_36 1 rfl ?_
        refine zR_sipush (x := (600 : Int32)) dX11_again_37 rfl ?_
        by_cases c12 : (600 : Int32) ≤ x1
        · have h := zif_t h c12
          refine zR_icmp_ge_t (tgt := 47) dX11_again_40 (by decide) c12 ?_
          exact wX11_again_b47 F (fX11_again_l20 F n) ih V0 V1 V2 V3 V4 V5 V6 V7 x1 _ h
        · have h := zif_f h c12
          refine zR_icmp_ge_f (tgt := 47) dX11_again_40 (by decide) c12 ?_
          refine zR_iconst (x := (1 : Int32)) dX11_again_43 rfl ?_
          refine zR_goto (tgt := 48) dX11_again_44 (by decide) ?_
          exact wX11_again_b48 F (fX11_again_l20 F n) ih V0 V1 V2 V3 V4 V5 V6 V7 x1 (1 : Int32) _ h
set_option maxRecDepth 100000 in
set_option maxHeartbeats 4000000 in
theorem mX11_again {w : zW} (F : Nat) (V0 V1 V2 V3 V4 V5 V6 V7 : zV) (res : Int64 × zV) (h : fX11_again F V0 V4 V5 V6 = some res) : zMet w kX11_again 26 0 0 [.ref (w.1 + 0)] (zE zds w [V0, V1, V2, V3, V4, V5, V6, V7]) (some (.long res.1)) (zE zds w [V0, V1, V2, V3, V4, V5, res.2, V7]) := by
  refine zMet_of (by decide) (Nat.le_of_ble_eq_true rfl) (Nat.le_refl 0) fun _ => ?_
  show zR w kX11_again 26 0 0 (some (.long res.1)) (zE zds w [V0, V1, V2, V3, V4, V5, res.2, V7]) 0 [(0, .ref (w.1 + 0))] [] (zE zds w [V0, V1, V2, V3, V4, V5, V6, V7])
  unfold fX11_again at h
  refine zR_aload_n dX11_again_0 0 rfl ?_
  refine zG_getI dX11_again_1 zf_X11_63 zd_0 rfl rfl ?_
  by_cases c13 : (zI V0 0 9) = 0
  · have h := zif_t h c13
    refine zR_if_ne_f (tgt := 11) dX11_again_4 (by decide) c13 ?_
    refine zR_ldc2 (x := (-1 : Int64)) dX11_again_7 zk_X11_120 ?_
    have h := Option.some.inj h
    subst h
    exact zR_lret dX11_again_10 rfl
  · have h := zif_f h c13
    refine zR_if_ne_t (tgt := 11) dX11_again_4 (by decide) c13 ?_
    refine zR_aload_n dX11_again_11 0 rfl ?_
    refine zG_getR dX11_again_12 zf_X11_76 zd_0 rfl rfl ?_
    obtain ⟨q14, hq15, h⟩ := zbd_some h
    refine zR_cV (rest := []) (st1 := []) dX11_again_15 (mX1_open_6 F V0 V1 V2 V3 V4 V5 V6 V7 _ hq15) zc_X11_98 rfl (zE_at zd_64) ⟨_, _, rfl⟩ rfl (Nat.le_of_ble_eq_true rfl) (Nat.le_of_ble_eq_true rfl) rfl ?_
    refine zR_iconst (x := (0 : Int32)) dX11_again_18 rfl ?_
    refine zR_istore_n (lv' := [(0, .ref (w.1 + 0)), (1, .int (0 : Int32))]) dX11_again_19 (Nat.le_of_ble_eq_true rfl) rfl ?_
    exact wX11_again_l20 F F V0 V1 V2 V3 V4 V5 q14 V7 (0 : Int32) _ h
set_option maxRecDepth 100000 in
set_option maxHeartbeats 4000000 in
theorem mX11_ring {w : zW} (F : Nat) (V0 V1 V2 V3 V4 V5 V6 V7 : zV) (res : Int32) (h : fX11_ring F V0 V4 = some res) : zMet w kX11_ring 0 0 0 [.ref (w.1 + 0)] (zE zds w [V0, V1, V2, V3, V4, V5, V6, V7]) (some (.int res)) (zE zds w [V0, V1, V2, V3, V4, V5, V6, V7]) := by
  refine zMet_of (by decide) (Nat.le_of_ble_eq_true rfl) (Nat.le_refl 0) fun _ => ?_
  show zR w kX11_ring 0 0 0 (some (.int res)) (zE zds w [V0, V1, V2, V3, V4, V5, V6, V7]) 0 [(0, .ref (w.1 + 0))] [] (zE zds w [V0, V1, V2, V3, V4, V5, V6, V7])
  unfold fX11_ring at h
  refine zR_aload_n dX11_ring_0 0 rfl ?_
  refine zG_getI dX11_ring_1 zf_X11_50 zd_0 rfl rfl ?_
  by_cases c1 : (zI V0 0 7) = 0
  · have h := zif_t h c1
    refine zR_if_eq_t (tgt := 20) dX11_ring_4 (by decide) c1 ?_
    refine zR_iconst (x := (-1 : Int32)) dX11_ring_20 (by decide) ?_
    have h := Option.some.inj h
    subst h
    exact zR_iret (x := (-1 : Int32)) dX11_ring_21 rfl rfl
  · have h := zif_f h c1
    refine zR_if_eq_f (tgt := 20) dX11_ring_4 (by decide) c1 ?_
    refine zR_aload_n dX11_ring_7 0 rfl ?_
    refine zG_getR dX11_ring_8 zf_X11_46 zd_0 rfl rfl ?_
    refine zG_getR dX11_ring_11 zf_X11_199 zd_15 rfl rfl ?_
    refine zG_getI dX11_ring_14 zf_X11_203 zd_28 rfl rfl ?_
    refine zR_goto (tgt := 21) dX11_ring_17 (by decide) ?_
    have h := Option.some.inj h
    subst h
    exact zR_iret (x := (zI V4 13 11)) dX11_ring_21 rfl rfl
set_option maxRecDepth 100000 in
set_option maxHeartbeats 4000000 in
theorem mX11_countInGame {w : zW} (F : Nat) (V0 V1 V2 V3 V4 V5 V6 V7 : zV) (x1 : Int32) (res : Int32) (h : fX11_countInGame F V0 V5 x1 = some res) : zMet w kX11_countInGame 0 0 0 [.ref (w.1 + 0), .int x1] (zE zds w [V0, V1, V2, V3, V4, V5, V6, V7]) (some (.int res)) (zE zds w [V0, V1, V2, V3, V4, V5, V6, V7]) := by
  refine zMet_of (by decide) (Nat.le_of_ble_eq_true rfl) (Nat.le_refl 0) fun _ => ?_
  show zR w kX11_countInGame 0 0 0 (some (.int res)) (zE zds w [V0, V1, V2, V3, V4, V5, V6, V7]) 0 [(0, .ref (w.1 + 0)), (1, .int x1)] [] (zE zds w [V0, V1, V2, V3, V4, V5, V6, V7])
  unfold fX11_countInGame at h
  refine zR_aload_n dX11_countInGame_0 0 rfl ?_
  refine zG_getI dX11_countInGame_1 zf_X11_63 zd_0 rfl rfl ?_
  by_cases c1 : (zI V0 0 9) = 0
  · have h := zif_t h c1
    refine zR_if_ne_f (tgt := 9) dX11_countInGame_4 (by decide) c1 ?_
    refine zR_iconst (x := (0 : Int32)) dX11_countInGame_7 rfl ?_
    have h := Option.some.inj h
    subst h
    exact zR_iret (x := (0 : Int32)) dX11_countInGame_8 rfl rfl
  · have h := zif_f h c1
    refine zR_if_ne_t (tgt := 9) dX11_countInGame_4 (by decide) c1 ?_
    refine zR_iload_n dX11_countInGame_9 1 rfl ?_
    by_cases c2 : x1 = (7 : Int32)
    · have h := zif_t h c2
      refine zR_tabc (tgt := 52) dX11_countInGame_10 c2 rfl (by decide) ?_
      refine zR_aload_n dX11_countInGame_52 0 rfl ?_
      refine zG_getR dX11_countInGame_53 zf_X11_59 zd_0 rfl rfl ?_
      refine zG_getI dX11_countInGame_56 zf_X11_216 zd_38 rfl rfl ?_
      have h := Option.some.inj h
      subst h
      exact zR_iret (x := (zI V5 0 9)) dX11_countInGame_59 rfl rfl
    · have h := zif_f h c2
      by_cases c3 : x1 = (8 : Int32)
      · have h := zif_t h c3
        refine zR_tabc (tgt := 60) dX11_countInGame_10 c3 rfl (by decide) ?_
        refine zR_aload_n dX11_countInGame_60 0 rfl ?_
        refine zG_getR dX11_countInGame_61 zf_X11_59 zd_0 rfl rfl ?_
        refine zG_getR dX11_countInGame_64 zf_X11_187 zd_38 rfl rfl ?_
        refine zG_getI dX11_countInGame_67 zf_X11_219 zd_52 rfl rfl ?_
        have h := Option.some.inj h
        subst h
        exact zR_iret (x := (zI V5 14 7)) dX11_countInGame_70 rfl rfl
      · have h := zif_f h c3
        by_cases c4 : x1 = (9 : Int32)
        · have h := zif_t h c4
          refine zR_tabc (tgt := 71) dX11_countInGame_10 c4 rfl (by decide) ?_
          refine zR_aload_n dX11_countInGame_71 0 rfl ?_
          refine zG_getR dX11_countInGame_72 zf_X11_59 zd_0 rfl rfl ?_
          refine zG_getI dX11_countInGame_75 zf_X11_105 zd_38 rfl rfl ?_
          have h := Option.some.inj h
          subst h
          exact zR_iret (x := (zI V5 0 10)) dX11_countInGame_78 rfl rfl
        · have h := zif_f h c4
          by_cases c5 : x1 = (10 : Int32)
          · have h := zif_t h c5
            refine zR_tabc (tgt := 79) dX11_countInGame_10 c5 rfl (by decide) ?_
            refine zR_aload_n dX11_countInGame_79 0 rfl ?_
            refine zG_getR dX11_countInGame_80 zf_X11_59 zd_0 rfl rfl ?_
            refine zG_getR dX11_countInGame_83 zf_X11_187 zd_38 rfl rfl ?_
            refine zG_getI dX11_countInGame_86 zf_X11_222 zd_52 rfl rfl ?_
            have h := Option.some.inj h
            subst h
            exact zR_iret (x := (zI V5 14 5)) dX11_countInGame_89 rfl rfl
          · have h := zif_f h c5
            by_cases c6 : x1 = (11 : Int32)
            · have h := zif_t h c6
              refine zR_tabc (tgt := 90) dX11_countInGame_10 c6 rfl (by decide) ?_
              refine zR_aload_n dX11_countInGame_90 0 rfl ?_
              refine zG_getR dX11_countInGame_91 zf_X11_59 zd_0 rfl rfl ?_
              refine zG_getR dX11_countInGame_94 zf_X11_187 zd_38 rfl rfl ?_
              refine zG_getI dX11_countInGame_97 zf_X11_225 zd_52 rfl rfl ?_
              have h := Option.some.inj h
              subst h
              exact zR_iret (x := (zI V5 14 8)) dX11_countInGame_100 rfl rfl
            · have h := zif_f h c6
              by_cases c7 : x1 = (12 : Int32)
              · have h := zif_t h c7
                refine zR_tabc (tgt := 101) dX11_countInGame_10 c7 rfl (by decide) ?_
                refine zR_aload_n dX11_countInGame_101 0 rfl ?_
                refine zG_getR dX11_countInGame_102 zf_X11_59 zd_0 rfl rfl ?_
                refine zG_getI dX11_countInGame_105 zf_X11_228 zd_38 rfl rfl ?_
                by_cases c8 : (zI V5 0 11) = 0
                · have h := zif_t h c8
                  refine zR_if_eq_t (tgt := 115) dX11_countInGame_108 (by decide) c8 ?_
                  refine zR_iconst (x := (0 : Int32)) dX11_countInGame_115 rfl ?_
                  have h := Option.some.inj h
                  subst h
                  exact zR_iret (x := (0 : Int32)) dX11_countInGame_116 rfl rfl
                · have h := zif_f h c8
                  refine zR_if_eq_f (tgt := 115) dX11_countInGame_108 (by decide) c8 ?_
                  refine zR_iconst (x := (1 : Int32)) dX11_countInGame_111 rfl ?_
                  refine zR_goto (tgt := 116) dX11_countInGame_112 (by decide) ?_
                  have h := Option.some.inj h
                  subst h
                  exact zR_iret (x := (1 : Int32)) dX11_countInGame_116 rfl rfl
              · have h := zif_f h c7
                by_cases c9 : x1 = (13 : Int32)
                · have h := zif_t h c9
                  refine zR_tabc (tgt := 117) dX11_countInGame_10 c9 rfl (by decide) ?_
                  refine zR_aload_n dX11_countInGame_117 0 rfl ?_
                  refine zG_getR dX11_countInGame_118 zf_X11_59 zd_0 rfl rfl ?_
                  refine zG_getI dX11_countInGame_121 zf_X11_231 zd_38 rfl rfl ?_
                  by_cases c10 : (zI V5 0 12) = 0
                  · have h := zif_t h c10
                    refine zR_if_eq_t (tgt := 131) dX11_countInGame_124 (by decide) c10 ?_
                    refine zR_iconst (x := (0 : Int32)) dX11_countInGame_131 rfl ?_
                    have h := Option.some.inj h
                    subst h
                    exact zR_iret (x := (0 : Int32)) dX11_countInGame_132 rfl rfl
                  · have h := zif_f h c10
                    refine zR_if_eq_f (tgt := 131) dX11_countInGame_124 (by decide) c10 ?_
                    refine zR_iconst (x := (1 : Int32)) dX11_countInGame_127 rfl ?_
                    refine zR_goto (tgt := 132) dX11_countInGame_128 (by decide) ?_
                    have h := Option.some.inj h
                    subst h
                    exact zR_iret (x := (1 : Int32)) dX11_countInGame_132 rfl rfl
                · have h := zif_f h c9
                  refine zR_tabO (tgt := 133) dX11_countInGame_10 (by have u7 := zne c2 (n := 7) rfl; have u8 := zne c3 (n := 8) rfl; have u9 := zne c4 (n := 9) rfl; have u10 := zne c5 (n := 10) rfl; have u11 := zne c6 (n := 11) rfl; have u12 := zne c7 (n := 12) rfl; have u13 := zne c9 (n := 13) rfl; omega) (by decide) ?_
                  refine zR_aload_n dX11_countInGame_133 0 rfl ?_
                  refine zG_getI dX11_countInGame_134 zf_X11_73 zd_0 rfl rfl ?_
                  have h := Option.some.inj h
                  subst h
                  exact zR_iret (x := (zI V0 0 12)) dX11_countInGame_137 rfl rfl
set_option maxRecDepth 100000 in
set_option maxHeartbeats 4000000 in
theorem wX11_count_b158 {w : zW} (F : Nat) (V0 V1 V2 V3 V4 V5 V6 V7 : zV) (x1 : Int32) (res : Int32) (h : fX11_count_b158 F V0 V4 V5 x1 = some res) : zR w kX11_count 1 0 0 (some (.int res)) (zE zds w [V0, V1, V2, V3, V4, V5, V6, V7]) 158 [(0, .ref (w.1 + 0)), (1, .int x1)] [] (zE zds w [V0, V1, V2, V3, V4, V5, V6, V7]) := by
  unfold fX11_count_b158 at h
  refine zR_iload_n dX11_count_158 1 rfl ?_
  refine zR_bipush (x := (7 : Int32)) dX11_count_159 rfl ?_
  by_cases c1 : x1 < (7 : Int32)
  · have h := zif_t h c1
    refine zR_icmp_lt_t (tgt := 178) dX11_count_161 (by decide) c1 ?_
    refine zR_iconst (x := (-1 : Int32)) dX11_count_178 (by decide) ?_
    have h := Option.some.inj h
    subst h
    exact zR_iret (x := (-1 : Int32)) dX11_count_179 rfl rfl
  · have h := zif_f h c1
    refine zR_icmp_lt_f (tgt := 178) dX11_count_161 (by decide) c1 ?_
    refine zR_iload_n dX11_count_164 1 rfl ?_
    refine zR_bipush (x := (14 : Int32)) dX11_count_165 rfl ?_
    by_cases c2 : (14 : Int32) < x1
    · have h := zif_t h c2
      refine zR_icmp_gt_t (tgt := 178) dX11_count_167 (by decide) c2 ?_
      refine zR_iconst (x := (-1 : Int32)) dX11_count_178 (by decide) ?_
      have h := Option.some.inj h
      subst h
      exact zR_iret (x := (-1 : Int32)) dX11_count_179 rfl rfl
    · have h := zif_f h c2
      refine zR_icmp_gt_f (tgt := 178) dX11_count_167 (by decide) c2 ?_
      refine zR_aload_n dX11_count_170 0 rfl ?_
      refine zR_iload_n dX11_count_171 1 rfl ?_
      obtain ⟨q3, hq4, h⟩ := zbd_some h
      refine zR_cV (rest := []) (st1 := [.int q3]) dX11_count_172 (mX11_countInGame F V0 V1 V2 V3 V4 V5 V6 V7 x1 _ hq4) zc_X11_213 rfl (zE_at zd_0) ⟨_, _, rfl⟩ rfl (Nat.le_of_ble_eq_true rfl) (Nat.le_of_ble_eq_true rfl) rfl ?_
      refine zR_goto (tgt := 179) dX11_count_175 (by decide) ?_
      have h := Option.some.inj h
      subst h
      exact zR_iret (x := q3) dX11_count_179 rfl rfl
set_option maxRecDepth 100000 in
set_option maxHeartbeats 4000000 in
theorem mX11_count {w : zW} (F : Nat) (V0 V1 V2 V3 V4 V5 V6 V7 : zV) (x1 : Int32) (res : Int32) (h : fX11_count F V0 V4 V5 x1 = some res) : zMet w kX11_count 1 0 0 [.ref (w.1 + 0), .int x1] (zE zds w [V0, V1, V2, V3, V4, V5, V6, V7]) (some (.int res)) (zE zds w [V0, V1, V2, V3, V4, V5, V6, V7]) := by
  refine zMet_of (by decide) (Nat.le_of_ble_eq_true rfl) (Nat.le_refl 0) fun _ => ?_
  show zR w kX11_count 1 0 0 (some (.int res)) (zE zds w [V0, V1, V2, V3, V4, V5, V6, V7]) 0 [(0, .ref (w.1 + 0)), (1, .int x1)] [] (zE zds w [V0, V1, V2, V3, V4, V5, V6, V7])
  unfold fX11_count at h
  refine zR_iload_n dX11_count_0 1 rfl ?_
  by_cases c5 : x1 = (0 : Int32)
  · have h := zif_t h c5
    refine zR_tabc (tgt := 80) dX11_count_1 c5 rfl (by decide) ?_
    refine zR_aload_n dX11_count_80 0 rfl ?_
    refine zG_getR dX11_count_81 zf_X11_46 zd_0 rfl rfl ?_
    refine zG_getR dX11_count_84 zf_X11_208 zd_15 rfl rfl ?_
    refine zR_iconst (x := (0 : Int32)) dX11_count_87 rfl ?_
    refine zG_iald dX11_count_88 zd_16 rfl rfl (show zix (0 : Int32) 27 from by decide) ?_
    have h := Option.some.inj h
    subst h
    exact zR_iret (x := (zA V4 1 ((0 : Int32)).toNatClampNeg)) dX11_count_89 rfl rfl
  · have h := zif_f h c5
    by_cases c6 : x1 = (1 : Int32)
    · have h := zif_t h c6
      refine zR_tabc (tgt := 90) dX11_count_1 c6 rfl (by decide) ?_
      refine zR_aload_n dX11_count_90 0 rfl ?_
      refine zG_getR dX11_count_91 zf_X11_46 zd_0 rfl rfl ?_
      refine zG_getR dX11_count_94 zf_X11_208 zd_15 rfl rfl ?_
      refine zR_iconst (x := (1 : Int32)) dX11_count_97 rfl ?_
      refine zG_iald dX11_count_98 zd_16 rfl rfl (show zix (1 : Int32) 27 from by decide) ?_
      have h := Option.some.inj h
      subst h
      exact zR_iret (x := (zA V4 1 ((1 : Int32)).toNatClampNeg)) dX11_count_99 rfl rfl
    · have h := zif_f h c6
      by_cases c7 : x1 = (2 : Int32)
      · have h := zif_t h c7
        refine zR_tabc (tgt := 100) dX11_count_1 c7 rfl (by decide) ?_
        refine zR_aload_n dX11_count_100 0 rfl ?_
        refine zG_getR dX11_count_101 zf_X11_46 zd_0 rfl rfl ?_
        refine zG_getR dX11_count_104 zf_X11_208 zd_15 rfl rfl ?_
        refine zR_iconst (x := (3 : Int32)) dX11_count_107 rfl ?_
        refine zG_iald dX11_count_108 zd_16 rfl rfl (show zix (3 : Int32) 27 from by decide) ?_
        have h := Option.some.inj h
        subst h
        exact zR_iret (x := (zA V4 1 ((3 : Int32)).toNatClampNeg)) dX11_count_109 rfl rfl
      · have h := zif_f h c7
        by_cases c8 : x1 = (3 : Int32)
        · have h := zif_t h c8
          refine zR_tabc (tgt := 110) dX11_count_1 c8 rfl (by decide) ?_
          refine zR_aload_n dX11_count_110 0 rfl ?_
          refine zG_getR dX11_count_111 zf_X11_46 zd_0 rfl rfl ?_
          refine zG_getR dX11_count_114 zf_X11_208 zd_15 rfl rfl ?_
          refine zR_iconst (x := (4 : Int32)) dX11_count_117 rfl ?_
          refine zG_iald dX11_count_118 zd_16 rfl rfl (show zix (4 : Int32) 27 from by decide) ?_
          have h := Option.some.inj h
          subst h
          exact zR_iret (x := (zA V4 1 ((4 : Int32)).toNatClampNeg)) dX11_count_119 rfl rfl
        · have h := zif_f h c8
          by_cases c9 : x1 = (4 : Int32)
          · have h := zif_t h c9
            refine zR_tabc (tgt := 120) dX11_count_1 c9 rfl (by decide) ?_
            refine zR_aload_n dX11_count_120 0 rfl ?_
            refine zG_getR dX11_count_121 zf_X11_46 zd_0 rfl rfl ?_
            refine zG_getR dX11_count_124 zf_X11_208 zd_15 rfl rfl ?_
            refine zR_bipush (x := (6 : Int32)) dX11_count_127 rfl ?_
            refine zG_iald dX11_count_129 zd_16 rfl rfl (show zix (6 : Int32) 27 from by decide) ?_
            have h := Option.some.inj h
            subst h
            exact zR_iret (x := (zA V4 1 ((6 : Int32)).toNatClampNeg)) dX11_count_130 rfl rfl
          · have h := zif_f h c9
            by_cases c10 : x1 = (5 : Int32)
            · have h := zif_t h c10
              refine zR_tabc (tgt := 131) dX11_count_1 c10 rfl (by decide) ?_
              refine zR_aload_n dX11_count_131 0 rfl ?_
              refine zG_getR dX11_count_132 zf_X11_46 zd_0 rfl rfl ?_
              refine zG_getR dX11_count_135 zf_X11_208 zd_15 rfl rfl ?_
              refine zR_bipush (x := (7 : Int32)) dX11_count_138 rfl ?_
              refine zG_iald dX11_count_140 zd_16 rfl rfl (show zix (7 : Int32) 27 from by decide) ?_
              have h := Option.some.inj h
              subst h
              exact zR_iret (x := (zA V4 1 ((7 : Int32)).toNatClampNeg)) dX11_count_141 rfl rfl
            · have h := zif_f h c10
              by_cases c11 : x1 = (6 : Int32)
              · have h := zif_t h c11
                refine zR_tabc (tgt := 142) dX11_count_1 c11 rfl (by decide) ?_
                refine zR_aload_n dX11_count_142 0 rfl ?_
                refine zG_getR dX11_count_143 zf_X11_46 zd_0 rfl rfl ?_
                refine zG_getR dX11_count_146 zf_X11_199 zd_15 rfl rfl ?_
                refine zG_getI dX11_count_149 zf_X11_211 zd_28 rfl rfl ?_
                have h := Option.some.inj h
                subst h
                exact zR_iret (x := (zI V4 13 3)) dX11_count_152 rfl rfl
              · have h := zif_f h c11
                by_cases c12 : x1 = (7 : Int32)
                · have h := zif_t h c12
                  refine zR_tabc (tgt := 158) dX11_count_1 c12 rfl (by decide) ?_
                  exact wX11_count_b158 F V0 V1 V2 V3 V4 V5 V6 V7 x1 _ h
                · have h := zif_f h c12
                  by_cases c13 : x1 = (8 : Int32)
                  · have h := zif_t h c13
                    refine zR_tabc (tgt := 158) dX11_count_1 c13 rfl (by decide) ?_
                    exact wX11_count_b158 F V0 V1 V2 V3 V4 V5 V6 V7 x1 _ h
                  · have h := zif_f h c13
                    by_cases c14 : x1 = (9 : Int32)
                    · have h := zif_t h c14
                      refine zR_tabc (tgt := 158) dX11_count_1 c14 rfl (by decide) ?_
                      exact wX11_count_b158 F V0 V1 V2 V3 V4 V5 V6 V7 x1 _ h
                    · have h := zif_f h c14
                      by_cases c15 : x1 = (10 : Int32)
                      · have h := zif_t h c15
                        refine zR_tabc (tgt := 158) dX11_count_1 c15 rfl (by decide) ?_
                        exact wX11_count_b158 F V0 V1 V2 V3 V4 V5 V6 V7 x1 _ h
                      · have h := zif_f h c15
                        by_cases c16 : x1 = (11 : Int32)
                        · have h := zif_t h c16
                          refine zR_tabc (tgt := 158) dX11_count_1 c16 rfl (by decide) ?_
                          exact wX11_count_b158 F V0 V1 V2 V3 V4 V5 V6 V7 x1 _ h
                        · have h := zif_f h c16
                          by_cases c17 : x1 = (12 : Int32)
                          · have h := zif_t h c17
                            refine zR_tabc (tgt := 158) dX11_count_1 c17 rfl (by decide) ?_
                            exact wX11_count_b158 F V0 V1 V2 V3 V4 V5 V6 V7 x1 _ h
                          · have h := zif_f h c17
                            by_cases c18 : x1 = (13 : Int32)
                            · have h := zif_t h c18
                              refine zR_tabc (tgt := 158) dX11_count_1 c18 rfl (by decide) ?_
                              exact wX11_count_b158 F V0 V1 V2 V3 V4 V5 V6 V7 x1 _ h
                            · have h := zif_f h c18
                              by_cases c19 : x1 = (14 : Int32)
                              · have h := zif_t h c19
                                refine zR_tabc (tgt := 158) dX11_count_1 c19 rfl (by decide) ?_
                                exact wX11_count_b158 F V0 V1 V2 V3 V4 V5 V6 V7 x1 _ h
                              · have h := zif_f h c19
                                by_cases c20 : x1 = (15 : Int32)
                                · have h := zif_t h c20
                                  refine zR_tabc (tgt := 153) dX11_count_1 c20 rfl (by decide) ?_
                                  refine zR_aload_n dX11_count_153 0 rfl ?_
                                  refine zG_getI dX11_count_154 zf_X11_13 zd_0 rfl rfl ?_
                                  have h := Option.some.inj h
                                  subst h
                                  exact zR_iret (x := (zI V0 0 1)) dX11_count_157 rfl rfl
                                · have h := zif_f h c20
                                  refine zR_tabO (tgt := 158) dX11_count_1 (by have u0 := zne c5 (n := 0) rfl; have u1 := zne c6 (n := 1) rfl; have u2 := zne c7 (n := 2) rfl; have u3 := zne c8 (n := 3) rfl; have u4 := zne c9 (n := 4) rfl; have u5 := zne c10 (n := 5) rfl; have u6 := zne c11 (n := 6) rfl; have u7 := zne c12 (n := 7) rfl; have u8 := zne c13 (n := 8) rfl; have u9 := zne c14 (n := 9) rfl; have u10 := zne c15 (n := 10) rfl; have u11 := zne c16 (n := 11) rfl; have u12 := zne c17 (n := 12) rfl; have u13 := zne c18 (n := 13) rfl; have u14 := zne c19 (n := 14) rfl; have u15 := zne c20 (n := 15) rfl; omega) (by decide) ?_
                                  exact wX11_count_b158 F V0 V1 V2 V3 V4 V5 V6 V7 x1 _ h
set_option maxRecDepth 100000 in
set_option maxHeartbeats 4000000 in
theorem wX12_put_l3 {w : zW} (F : Nat) : ∀ (n : Nat) (V0 V1 V2 V3 V4 V5 V6 V7 : zV) (x1 : Int32) (x2 : Int32) (res : zV), fX12_put_l3 F n V7 x1 x2 = some res → zR w kX12_put 0 0 0 none (zE zds w [V0, V1, V2, V3, V4, V5, V6, res]) 3 [(0, .ref (w.1 + 88)), (1, .int x1), (2, .int x2)] [] (zE zds w [V0, V1, V2, V3, V4, V5, V6, V7]) := by
  intro n
  induction n with
  | zero =>
    intro V0 V1 V2 V3 V4 V5 V6 V7 x1 x2 res h
    simp [fX12_put_l3] at h
  | succ n ih =>
    intro V0 V1 V2 V3 V4 V5 V6 V7 x1 x2 res h
    rw [fX12_put_l3] at h
    refine zR_iload_n dX12_put_3 2 rfl ?_
    by_cases c1 : x2 < 0
    · have h := zif_t h c1
      refine zR_if_lt_t (tgt := 36) dX12_put_4 (by decide) c1 ?_
      have h := Option.some.inj h
      subst h
      exact zR_ret dX12_put_36 rfl
    · have h := zif_f h c1
      refine zR_if_lt_f (tgt := 36) dX12_put_4 (by decide) c1 ?_
      refine zR_aload_n dX12_put_7 0 rfl ?_
      refine zG_getR dX12_put_8 zf_X12_13 zd_88 rfl rfl ?_
      refine zR_aload_n dX12_put_11 0 rfl ?_
      refine zG_getI dX12_put_12 zf_X12_223 zd_88 rfl rfl ?_
      refine zR_iload_n dX12_put_15 1 rfl ?_
      refine zR_iload_n dX12_put_16 2 rfl ?_
      refine zR_ishr dX12_put_17 ?_
      refine zR_i2b dX12_put_18 ?_
      obtain ⟨g2, h⟩ := zchk_some h
      obtain ⟨V7_3, e4, h⟩ := zlet_some h
      refine zG_bast zds_ok dX12_put_19 zd_89 rfl rfl g2 e4 rfl ?_
      refine zR_aload_n dX12_put_20 0 rfl ?_
      refine zR_dup dX12_put_21 rfl ?_
      refine zG_getI dX12_put_22 zf_X12_223 zd_88 rfl rfl ?_
      refine zR_iconst (x := (1 : Int32)) dX12_put_25 rfl ?_
      refine zR_iadd dX12_put_26 ?_
      obtain ⟨V7_5, e6, h⟩ := zlet_some h
      refine zG_putI zds_ok dX12_put_27 zf_X12_223 zt_X12_2 zd_88 rfl rfl e6 rfl ?_
      refine zR_iinc (u := (x2 + (-8))) (lv' := [(0, .ref (w.1 + 88)), (1, .int x1), (2, .int (x2 + (-8)))]) dX12_put_30 2 rfl (by rw [show Int32.ofInt (-8) = (-8 : Int32) from by decide]) (Nat.le_of_ble_eq_true rfl) rfl ?_
      refine zR_goto (tgt := 3) dX12_put_33 (by decide) ?_
      exact ih V0 V1 V2 V3 V4 V5 V6 V7_5 x1 (x2 + (-8)) _ h
set_option maxRecDepth 100000 in
set_option maxHeartbeats 4000000 in
theorem mX12_put {w : zW} (F : Nat) (V0 V1 V2 V3 V4 V5 V6 V7 : zV) (x1 : Int32) (res : zV) (h : fX12_put F V7 x1 = some res) : zMet w kX12_put 0 0 0 [.ref (w.1 + 88), .int x1] (zE zds w [V0, V1, V2, V3, V4, V5, V6, V7]) none (zE zds w [V0, V1, V2, V3, V4, V5, V6, res]) := by
  refine zMet_of (by decide) (Nat.le_of_ble_eq_true rfl) (Nat.le_refl 0) fun _ => ?_
  show zR w kX12_put 0 0 0 none (zE zds w [V0, V1, V2, V3, V4, V5, V6, res]) 0 [(0, .ref (w.1 + 88)), (1, .int x1)] [] (zE zds w [V0, V1, V2, V3, V4, V5, V6, V7])
  unfold fX12_put at h
  refine zR_bipush (x := (24 : Int32)) dX12_put_0 rfl ?_
  refine zR_istore_n (lv' := [(0, .ref (w.1 + 88)), (1, .int x1), (2, .int (24 : Int32))]) dX12_put_2 (Nat.le_of_ble_eq_true rfl) rfl ?_
  exact wX12_put_l3 F F V0 V1 V2 V3 V4 V5 V6 V7 x1 (24 : Int32) _ h
set_option maxRecDepth 100000 in
set_option maxHeartbeats 4000000 in
theorem mX12_feed {w : zW} (F : Nat) (V0 V1 V2 V3 V4 V5 V6 V7 : zV) (x1 : Int32) (x2 : Int32) (x3 : Int32) (x4 : Int32) (x5 : Int32) (res : Int32 × zV) (h : fX12_feed F V7 x1 x2 x3 x4 x5 = some res) : zMet w kX12_feed 1 0 0 [.ref (w.1 + 88), .int x1, .int x2, .int x3, .int x4, .int x5] (zE zds w [V0, V1, V2, V3, V4, V5, V6, V7]) (some (.int res.1)) (zE zds w [V0, V1, V2, V3, V4, V5, V6, res.2]) := by
  refine zMet_of (by decide) (Nat.le_of_ble_eq_true rfl) (Nat.le_refl 0) fun _ => ?_
  show zR w kX12_feed 1 0 0 (some (.int res.1)) (zE zds w [V0, V1, V2, V3, V4, V5, V6, res.2]) 0 [(0, .ref (w.1 + 88)), (1, .int x1), (2, .int x2), (3, .int x3), (4, .int x4), (5, .int x5)] [] (zE zds w [V0, V1, V2, V3, V4, V5, V6, V7])
  unfold fX12_feed at h
  refine zR_aload_n dX12_feed_0 0 rfl ?_
  refine zG_getI dX12_feed_1 zf_X12_223 zd_88 rfl rfl ?_
  refine zR_bipush (x := (20 : Int32)) dX12_feed_4 rfl ?_
  refine zR_iadd dX12_feed_6 ?_
  refine zR_sipush (x := (4000 : Int32)) dX12_feed_7 rfl ?_
  by_cases c1 : ((zI V7 0 2) + (20 : Int32)) ≤ (4000 : Int32)
  · have h := zif_t h c1
    refine zR_icmp_le_t (tgt := 15) dX12_feed_10 (by decide) c1 ?_
    refine zR_aload_n dX12_feed_15 0 rfl ?_
    refine zR_iload_n dX12_feed_16 1 rfl ?_
    obtain ⟨q2, hq3, h⟩ := zbd_some h
    refine zR_cV (rest := []) (st1 := []) dX12_feed_17 (mX12_put F V0 V1 V2 V3 V4 V5 V6 V7 x1 _ hq3) zc_X12_226 rfl (zE_at zd_88) ⟨_, _, rfl⟩ rfl (Nat.le_of_ble_eq_true rfl) (Nat.le_of_ble_eq_true rfl) rfl ?_
    refine zR_aload_n dX12_feed_20 0 rfl ?_
    refine zR_iload_n dX12_feed_21 2 rfl ?_
    obtain ⟨q4, hq5, h⟩ := zbd_some h
    refine zR_cV (rest := []) (st1 := []) dX12_feed_22 (mX12_put F V0 V1 V2 V3 V4 V5 V6 q2 x2 _ hq5) zc_X12_226 rfl (zE_at zd_88) ⟨_, _, rfl⟩ rfl (Nat.le_of_ble_eq_true rfl) (Nat.le_of_ble_eq_true rfl) rfl ?_
    refine zR_aload_n dX12_feed_25 0 rfl ?_
    refine zR_iload_n dX12_feed_26 3 rfl ?_
    obtain ⟨q6, hq7, h⟩ := zbd_some h
    refine zR_cV (rest := []) (st1 := []) dX12_feed_27 (mX12_put F V0 V1 V2 V3 V4 V5 V6 q4 x3 _ hq7) zc_X12_226 rfl (zE_at zd_88) ⟨_, _, rfl⟩ rfl (Nat.le_of_ble_eq_true rfl) (Nat.le_of_ble_eq_true rfl) rfl ?_
    refine zR_aload_n dX12_feed_30 0 rfl ?_
    refine zR_iload dX12_feed_31 4 rfl ?_
    obtain ⟨q8, hq9, h⟩ := zbd_some h
    refine zR_cV (rest := []) (st1 := []) dX12_feed_33 (mX12_put F V0 V1 V2 V3 V4 V5 V6 q6 x4 _ hq9) zc_X12_226 rfl (zE_at zd_88) ⟨_, _, rfl⟩ rfl (Nat.le_of_ble_eq_true rfl) (Nat.le_of_ble_eq_true rfl) rfl ?_
    refine zR_aload_n dX12_feed_36 0 rfl ?_
    refine zR_iload dX12_feed_37 5 rfl ?_
    obtain ⟨q10, hq11, h⟩ := zbd_some h
    refine zR_cV (rest := []) (st1 := []) dX12_feed_39 (mX12_put F V0 V1 V2 V3 V4 V5 V6 q8 x5 _ hq11) zc_X12_226 rfl (zE_at zd_88) ⟨_, _, rfl⟩ rfl (Nat.le_of_ble_eq_true rfl) (Nat.le_of_ble_eq_true rfl) rfl ?_
    refine zR_aload_n dX12_feed_42 0 rfl ?_
    refine zG_getI dX12_feed_43 zf_X12_223 zd_88 rfl rfl ?_
    have h := Option.some.inj h
    subst h
    exact zR_iret (x := (zI q10 0 2)) dX12_feed_46 rfl rfl
  · have h := zif_f h c1
    refine zR_icmp_le_f (tgt := 15) dX12_feed_10 (by decide) c1 ?_
    refine zR_iconst (x := (-1 : Int32)) dX12_feed_13 (by decide) ?_
    have h := Option.some.inj h
    subst h
    exact zR_iret (x := (-1 : Int32)) dX12_feed_14 rfl rfl
set_option maxRecDepth 100000 in
set_option maxHeartbeats 4000000 in
theorem mX12_back {w : zW} (F : Nat) (V0 V1 V2 V3 V4 V5 V6 V7 : zV) (x1 : Int32) (res : Int32 × zV) (h : fX12_back F V7 x1 = some res) : zMet w kX12_back 0 0 0 [.ref (w.1 + 88), .int x1] (zE zds w [V0, V1, V2, V3, V4, V5, V6, V7]) (some (.int res.1)) (zE zds w [V0, V1, V2, V3, V4, V5, V6, res.2]) := by
  refine zMet_of (by decide) (Nat.le_of_ble_eq_true rfl) (Nat.le_refl 0) fun _ => ?_
  show zR w kX12_back 0 0 0 (some (.int res.1)) (zE zds w [V0, V1, V2, V3, V4, V5, V6, res.2]) 0 [(0, .ref (w.1 + 88)), (1, .int x1)] [] (zE zds w [V0, V1, V2, V3, V4, V5, V6, V7])
  unfold fX12_back at h
  refine zR_iload_n dX12_back_0 1 rfl ?_
  by_cases c1 : x1 < 0
  · have h := zif_t h c1
    refine zR_if_lt_t (tgt := 12) dX12_back_1 (by decide) c1 ?_
    refine zR_iconst (x := (-1 : Int32)) dX12_back_12 (by decide) ?_
    have h := Option.some.inj h
    subst h
    exact zR_iret (x := (-1 : Int32)) dX12_back_13 rfl rfl
  · have h := zif_f h c1
    refine zR_if_lt_f (tgt := 12) dX12_back_1 (by decide) c1 ?_
    refine zR_iload_n dX12_back_4 1 rfl ?_
    refine zR_aload_n dX12_back_5 0 rfl ?_
    refine zG_getI dX12_back_6 zf_X12_223 zd_88 rfl rfl ?_
    by_cases c2 : x1 ≤ (zI V7 0 2)
    · have h := zif_t h c2
      refine zR_icmp_le_t (tgt := 14) dX12_back_9 (by decide) c2 ?_
      refine zR_aload_n dX12_back_14 0 rfl ?_
      refine zR_dup dX12_back_15 rfl ?_
      refine zG_getI dX12_back_16 zf_X12_223 zd_88 rfl rfl ?_
      refine zR_iload_n dX12_back_19 1 rfl ?_
      refine zR_isub dX12_back_20 ?_
      obtain ⟨V7_3, e4, h⟩ := zlet_some h
      refine zG_putI zds_ok dX12_back_21 zf_X12_223 zt_X12_2 zd_88 rfl rfl e4 rfl ?_
      refine zR_aload_n dX12_back_24 0 rfl ?_
      refine zG_getI dX12_back_25 zf_X12_223 zd_88 rfl rfl ?_
      have h := Option.some.inj h
      subst h
      exact zR_iret (x := (zI V7_3 0 2)) dX12_back_28 rfl rfl
    · have h := zif_f h c2
      refine zR_icmp_le_f (tgt := 14) dX12_back_9 (by decide) c2 ?_
      refine zR_iconst (x := (-1 : Int32)) dX12_back_12 (by decide) ?_
      have h := Option.some.inj h
      subst h
      exact zR_iret (x := (-1 : Int32)) dX12_back_13 rfl rfl
set_option maxRecDepth 100000 in
set_option maxHeartbeats 4000000 in
theorem mX12_at {w : zW} (F : Nat) (V0 V1 V2 V3 V4 V5 V6 V7 : zV) (x1 : Int32) (res : Int32) (h : fX12_at F V7 x1 = some res) : zMet w kX12_at 0 0 0 [.ref (w.1 + 88), .int x1] (zE zds w [V0, V1, V2, V3, V4, V5, V6, V7]) (some (.int res)) (zE zds w [V0, V1, V2, V3, V4, V5, V6, V7]) := by
  refine zMet_of (by decide) (Nat.le_of_ble_eq_true rfl) (Nat.le_refl 0) fun _ => ?_
  show zR w kX12_at 0 0 0 (some (.int res)) (zE zds w [V0, V1, V2, V3, V4, V5, V6, V7]) 0 [(0, .ref (w.1 + 88)), (1, .int x1)] [] (zE zds w [V0, V1, V2, V3, V4, V5, V6, V7])
  unfold fX12_at at h
  refine zR_iload_n dX12_at_0 1 rfl ?_
  refine zR_aload_n dX12_at_1 0 rfl ?_
  refine zG_getI dX12_at_2 zf_X12_230 zd_88 rfl rfl ?_
  by_cases c1 : (zI V7 0 4) ≤ x1
  · have h := zif_t h c1
    refine zR_icmp_ge_t (tgt := 21) dX12_at_5 (by decide) c1 ?_
    refine zR_iconst (x := (0 : Int32)) dX12_at_21 rfl ?_
    have h := Option.some.inj h
    subst h
    exact zR_iret (x := (0 : Int32)) dX12_at_22 rfl rfl
  · have h := zif_f h c1
    refine zR_icmp_ge_f (tgt := 21) dX12_at_5 (by decide) c1 ?_
    refine zR_aload_n dX12_at_8 0 rfl ?_
    refine zG_getR dX12_at_9 zf_X12_17 zd_88 rfl rfl ?_
    refine zR_iload_n dX12_at_12 1 rfl ?_
    obtain ⟨g2, h⟩ := zchk_some h
    refine zG_bald dX12_at_13 zd_90 rfl rfl g2 ?_
    refine zR_sipush (x := (255 : Int32)) dX12_at_14 rfl ?_
    refine zR_iand dX12_at_17 ?_
    refine zR_goto (tgt := 22) dX12_at_18 (by decide) ?_
    have h := Option.some.inj h
    subst h
    exact zR_iret (x := ((zA V7 2 (x1).toNatClampNeg) &&& (255 : Int32))) dX12_at_22 rfl rfl
set_option maxRecDepth 100000 in
set_option maxHeartbeats 4000000 in
theorem mX12_token {w : zW} (F : Nat) (V0 V1 V2 V3 V4 V5 V6 V7 : zV) (x1 : Int32) (x2 : Int32) (x3 : Int32) (x4 : Int64) (res : zV) (h : fX12_token F V7 x1 x2 x3 x4 = some res) : zMet w kX12_token 0 0 0 [.ref (w.1 + 88), .int x1, .int x2, .int x3, .long x4] (zE zds w [V0, V1, V2, V3, V4, V5, V6, V7]) none (zE zds w [V0, V1, V2, V3, V4, V5, V6, res]) := by
  refine zMet_of (by decide) (Nat.le_of_ble_eq_true rfl) (Nat.le_refl 0) fun _ => ?_
  show zR w kX12_token 0 0 0 none (zE zds w [V0, V1, V2, V3, V4, V5, V6, res]) 0 [(0, .ref (w.1 + 88)), (1, .int x1), (2, .int x2), (3, .int x3), (4, .long x4)] [] (zE zds w [V0, V1, V2, V3, V4, V5, V6, V7])
  unfold fX12_token at h
  refine zR_aload_n dX12_token_0 0 rfl ?_
  refine zG_getR dX12_token_1 zf_X12_20 zd_88 rfl rfl ?_
  refine zR_aload_n dX12_token_4 0 rfl ?_
  refine zG_getI dX12_token_5 zf_X12_243 zd_88 rfl rfl ?_
  refine zR_iload_n dX12_token_8 1 rfl ?_
  obtain ⟨g1, h⟩ := zchk_some h
  obtain ⟨V7_2, e3, h⟩ := zlet_some h
  refine zG_iast zds_ok dX12_token_9 zd_91 rfl rfl g1 e3 rfl ?_
  refine zR_aload_n dX12_token_10 0 rfl ?_
  refine zG_getR dX12_token_11 zf_X12_24 zd_88 rfl rfl ?_
  refine zR_aload_n dX12_token_14 0 rfl ?_
  refine zG_getI dX12_token_15 zf_X12_243 zd_88 rfl rfl ?_
  refine zR_iload_n dX12_token_18 2 rfl ?_
  obtain ⟨g4, h⟩ := zchk_some h
  obtain ⟨V7_5, e6, h⟩ := zlet_some h
  refine zG_iast zds_ok dX12_token_19 zd_92 rfl rfl g4 e6 rfl ?_
  refine zR_aload_n dX12_token_20 0 rfl ?_
  refine zG_getR dX12_token_21 zf_X12_27 zd_88 rfl rfl ?_
  refine zR_aload_n dX12_token_24 0 rfl ?_
  refine zG_getI dX12_token_25 zf_X12_243 zd_88 rfl rfl ?_
  refine zR_iload_n dX12_token_28 3 rfl ?_
  obtain ⟨g7, h⟩ := zchk_some h
  obtain ⟨V7_8, e9, h⟩ := zlet_some h
  refine zG_iast zds_ok dX12_token_29 zd_93 rfl rfl g7 e9 rfl ?_
  refine zR_aload_n dX12_token_30 0 rfl ?_
  refine zG_getR dX12_token_31 zf_X12_30 zd_88 rfl rfl ?_
  refine zR_aload_n dX12_token_34 0 rfl ?_
  refine zG_getI dX12_token_35 zf_X12_243 zd_88 rfl rfl ?_
  refine zR_lload dX12_token_38 4 rfl ?_
  obtain ⟨g10, h⟩ := zchk_some h
  obtain ⟨V7_11, e12, h⟩ := zlet_some h
  refine zG_last zds_ok dX12_token_40 zd_94 rfl rfl g10 e12 rfl ?_
  refine zR_aload_n dX12_token_41 0 rfl ?_
  refine zR_dup dX12_token_42 rfl ?_
  refine zG_getI dX12_token_43 zf_X12_243 zd_88 rfl rfl ?_
  refine zR_iconst (x := (1 : Int32)) dX12_token_46 rfl ?_
  refine zR_iadd dX12_token_47 ?_
  obtain ⟨V7_13, e14, h⟩ := zlet_some h
  refine zG_putI zds_ok dX12_token_48 zf_X12_243 zt_X12_10 zd_88 rfl rfl e14 rfl ?_
  have h := Option.some.inj h
  subst h
  exact zR_ret dX12_token_51 rfl
set_option maxRecDepth 100000 in
set_option maxHeartbeats 4000000 in
theorem mX12_isLetter {w : zW} (F : Nat) (S : zS) (x0 : Int32) (res : Int32) (h : fX12_isLetter F x0 = some res) : zMet w kX12_isLetter 0 0 0 [.int x0] S (some (.int res)) S := by
  refine zMet_of (by decide) (Nat.le_of_ble_eq_true rfl) (Nat.le_refl 0) fun _ => ?_
  show zR w kX12_isLetter 0 0 0 (some (.int res)) S 0 [(0, .int x0)] [] S
  unfold fX12_isLetter at h
  refine zR_iload_n dX12_isLetter_0 0 rfl ?_
  refine zR_bipush (x := (97 : Int32)) dX12_isLetter_1 rfl ?_
  by_cases c1 : x0 < (97 : Int32)
  · have h := zif_t h c1
    refine zR_icmp_lt_t (tgt := 16) dX12_isLetter_3 (by decide) c1 ?_
    refine zR_iconst (x := (0 : Int32)) dX12_isLetter_16 rfl ?_
    have h := Option.some.inj h
    subst h
    exact zR_iret (x := (0 : Int32)) dX12_isLetter_17 rfl znar0
  · have h := zif_f h c1
    refine zR_icmp_lt_f (tgt := 16) dX12_isLetter_3 (by decide) c1 ?_
    refine zR_iload_n dX12_isLetter_6 0 rfl ?_
    refine zR_bipush (x := (122 : Int32)) dX12_isLetter_7 rfl ?_
    by_cases c2 : (122 : Int32) < x0
    · have h := zif_t h c2
      refine zR_icmp_gt_t (tgt := 16) dX12_isLetter_9 (by decide) c2 ?_
      refine zR_iconst (x := (0 : Int32)) dX12_isLetter_16 rfl ?_
      have h := Option.some.inj h
      subst h
      exact zR_iret (x := (0 : Int32)) dX12_isLetter_17 rfl znar0
    · have h := zif_f h c2
      refine zR_icmp_gt_f (tgt := 16) dX12_isLetter_9 (by decide) c2 ?_
      refine zR_iconst (x := (1 : Int32)) dX12_isLetter_12 rfl ?_
      refine zR_goto (tgt := 17) dX12_isLetter_13 (by decide) ?_
      have h := Option.some.inj h
      subst h
      exact zR_iret (x := (1 : Int32)) dX12_isLetter_17 rfl znar1
set_option maxRecDepth 100000 in
set_option maxHeartbeats 4000000 in
theorem mX12_isDigit {w : zW} (F : Nat) (S : zS) (x0 : Int32) (res : Int32) (h : fX12_isDigit F x0 = some res) : zMet w kX12_isDigit 0 0 0 [.int x0] S (some (.int res)) S := by
  refine zMet_of (by decide) (Nat.le_of_ble_eq_true rfl) (Nat.le_refl 0) fun _ => ?_
  show zR w kX12_isDigit 0 0 0 (some (.int res)) S 0 [(0, .int x0)] [] S
  unfold fX12_isDigit at h
  refine zR_iload_n dX12_isDigit_0 0 rfl ?_
  refine zR_bipush (x := (48 : Int32)) dX12_isDigit_1 rfl ?_
  by_cases c1 : x0 < (48 : Int32)
  · have h := zif_t h c1
    refine zR_icmp_lt_t (tgt := 16) dX12_isDigit_3 (by decide) c1 ?_
    refine zR_iconst (x := (0 : Int32)) dX12_isDigit_16 rfl ?_
    have h := Option.some.inj h
    subst h
    exact zR_iret (x := (0 : Int32)) dX12_isDigit_17 rfl znar0
  · have h := zif_f h c1
    refine zR_icmp_lt_f (tgt := 16) dX12_isDigit_3 (by decide) c1 ?_
    refine zR_iload_n dX12_isDigit_6 0 rfl ?_
    refine zR_bipush (x := (57 : Int32)) dX12_isDigit_7 rfl ?_
    by_cases c2 : (57 : Int32) < x0
    · have h := zif_t h c2
      refine zR_icmp_gt_t (tgt := 16) dX12_isDigit_9 (by decide) c2 ?_
      refine zR_iconst (x := (0 : Int32)) dX12_isDigit_16 rfl ?_
      have h := Option.some.inj h
      subst h
      exact zR_iret (x := (0 : Int32)) dX12_isDigit_17 rfl znar0
    · have h := zif_f h c2
      refine zR_icmp_gt_f (tgt := 16) dX12_isDigit_9 (by decide) c2 ?_
      refine zR_iconst (x := (1 : Int32)) dX12_isDigit_12 rfl ?_
      refine zR_goto (tgt := 17) dX12_isDigit_13 (by decide) ?_
      have h := Option.some.inj h
      subst h
      exact zR_iret (x := (1 : Int32)) dX12_isDigit_17 rfl znar1
set_option maxRecDepth 100000 in
set_option maxHeartbeats 4000000 in
theorem wX12_more_b36 {w : zW} (F : Nat) (S : zS) (s0 : Int64) (s1 : Int32) (res : Int64) (h : fX12_more_b36 F s0 s1 = some res) : zR w kX12_more 1 0 0 (some (.long res)) S 36 [] [.int s1, .long s0] S := by
  unfold fX12_more_b36 at h
  refine zR_i2l dX12_more_36 ?_
  refine zR_ladd dX12_more_37 ?_
  have h := Option.some.inj h
  subst h
  exact zR_lret dX12_more_38 rfl
set_option maxRecDepth 100000 in
set_option maxHeartbeats 4000000 in
theorem mX12_more {w : zW} (F : Nat) (S : zS) (x0 : Int64) (x2 : Int32) (res : Int64) (h : fX12_more F x0 x2 = some res) : zMet w kX12_more 1 0 0 [.long x0, .int x2] S (some (.long res)) S := by
  refine zMet_of (by decide) (Nat.le_of_ble_eq_true rfl) (Nat.le_refl 0) fun _ => ?_
  show zR w kX12_more 1 0 0 (some (.long res)) S 0 [(0, .long x0), (2, .int x2)] [] S
  unfold fX12_more at h
  refine zR_iload_n dX12_more_0 1 rfl ?_
  by_cases c1 : x2 = 0
  · have h := zif_t h c1
    refine zR_if_ne_f (tgt := 8) dX12_more_1 (by decide) c1 ?_
    refine zR_lload_n dX12_more_4 0 rfl ?_
    refine zR_goto (tgt := 38) dX12_more_5 (by decide) ?_
    have h := Option.some.inj h
    subst h
    exact zR_lret dX12_more_38 rfl
  · have h := zif_f h c1
    refine zR_if_ne_t (tgt := 8) dX12_more_1 (by decide) c1 ?_
    refine zR_ldc2 (x := (37 : Int64)) dX12_more_8 zk_X12_233 ?_
    refine zR_lload_n dX12_more_11 0 rfl ?_
    refine zR_lmul dX12_more_12 ?_
    refine zR_iload_n dX12_more_13 1 rfl ?_
    obtain ⟨q2, hq3, h⟩ := zbd_some h
    refine zR_cS (rest := [.long ((37 : Int64) * x0)]) (st1 := [.int q2, .long ((37 : Int64) * x0)]) dX12_more_14 (mX12_isDigit F S x2 _ hq3) zc_X12_235 rfl rfl (Nat.le_of_ble_eq_true rfl) (Nat.le_of_ble_eq_true rfl) rfl ?_
    by_cases c4 : q2 = 0
    · have h := zif_t h c4
      refine zR_if_eq_t (tgt := 30) dX12_more_17 (by decide) c4 ?_
      refine zR_iload_n dX12_more_30 1 rfl ?_
      refine zR_bipush (x := (97 : Int32)) dX12_more_31 rfl ?_
      refine zR_isub dX12_more_33 ?_
      refine zR_iconst (x := (1 : Int32)) dX12_more_34 rfl ?_
      refine zR_iadd dX12_more_35 ?_
      refine zR_sub (lv' := []) [] rfl ?_
      exact wX12_more_b36 F S ((37 : Int64) * x0) ((x2 - (97 : Int32)) + (1 : Int32)) _ h
    · have h := zif_f h c4
      refine zR_if_eq_f (tgt := 30) dX12_more_17 (by decide) c4 ?_
      refine zR_iload_n dX12_more_20 1 rfl ?_
      refine zR_bipush (x := (48 : Int32)) dX12_more_21 rfl ?_
      refine zR_isub dX12_more_23 ?_
      refine zR_bipush (x := (27 : Int32)) dX12_more_24 rfl ?_
      refine zR_iadd dX12_more_26 ?_
      refine zR_goto (tgt := 36) dX12_more_27 (by decide) ?_
      refine zR_sub (lv' := []) [] rfl ?_
      exact wX12_more_b36 F S ((37 : Int64) * x0) ((x2 - (48 : Int32)) + (27 : Int32)) _ h
set_option maxRecDepth 100000 in
set_option maxHeartbeats 4000000 in
theorem wX12_sign_b173 {w : zW} (F : Nat) (V0 V1 V2 V3 V4 V5 V6 V7 : zV) (x1 : Int32) (x4 : Int32) (x5 : Int32) (res : Int32 × zV) (h : fX12_sign_b173 F V7 x1 x4 x5 = some res) : zR w kX12_sign 1 0 0 (some (.int res.1)) (zE zds w [V0, V1, V2, V3, V4, V5, V6, res.2]) 173 [(0, .ref (w.1 + 88)), (1, .int x1), (4, .int x4), (5, .int x5)] [] (zE zds w [V0, V1, V2, V3, V4, V5, V6, V7]) := by
  unfold fX12_sign_b173 at h
  refine zR_aload_n dX12_sign_173 0 rfl ?_
  refine zR_iload dX12_sign_174 3 rfl ?_
  refine zR_iload_n dX12_sign_176 1 rfl ?_
  refine zR_iconst (x := (0 : Int32)) dX12_sign_177 rfl ?_
  refine zR_lconst (x := (0 : Int64)) dX12_sign_178 rfl ?_
  obtain ⟨q1, hq2, h⟩ := zbd_some h
  refine zR_cV (rest := []) (st1 := []) dX12_sign_179 (mX12_token F V0 V1 V2 V3 V4 V5 V6 V7 x5 x1 (0 : Int32) (0 : Int64) _ hq2) zc_X12_250 rfl (zE_at zd_88) ⟨_, _, rfl⟩ rfl (Nat.le_of_ble_eq_true rfl) (Nat.le_of_ble_eq_true rfl) rfl ?_
  refine zR_iload dX12_sign_182 2 rfl ?_
  by_cases c3 : x4 ≤ 0
  · have h := zif_t h c3
    refine zR_if_le_t (tgt := 191) dX12_sign_184 (by decide) c3 ?_
    refine zR_iconst (x := (1 : Int32)) dX12_sign_191 rfl ?_
    have h := Option.some.inj h
    subst h
    exact zR_iret (x := (1 : Int32)) dX12_sign_192 rfl rfl
  · have h := zif_f h c3
    refine zR_if_le_f (tgt := 191) dX12_sign_184 (by decide) c3 ?_
    refine zR_iconst (x := (2 : Int32)) dX12_sign_187 rfl ?_
    refine zR_goto (tgt := 192) dX12_sign_188 (by decide) ?_
    have h := Option.some.inj h
    subst h
    exact zR_iret (x := (2 : Int32)) dX12_sign_192 rfl rfl
set_option maxRecDepth 100000 in
set_option maxHeartbeats 4000000 in
theorem wX12_sign_b44 {w : zW} (F : Nat) (V0 V1 V2 V3 V4 V5 V6 V7 : zV) (x1 : Int32) (x2 : Int32) (s0 : Int32) (res : Int32 × zV) (h : fX12_sign_b44 F V7 x1 x2 s0 = some res) : zR w kX12_sign 1 0 0 (some (.int res.1)) (zE zds w [V0, V1, V2, V3, V4, V5, V6, res.2]) 44 [(0, .ref (w.1 + 88)), (1, .int x1), (2, .int x2)] [.int s0] (zE zds w [V0, V1, V2, V3, V4, V5, V6, V7]) := by
  unfold fX12_sign_b44 at h
  refine zR_istore (lv' := [(0, .ref (w.1 + 88)), (1, .int x1), (2, .int x2), (4, .int s0)]) dX12_sign_44 (Nat.le_of_ble_eq_true rfl) rfl ?_
  refine zR_iconst (x := (3 : Int32)) dX12_sign_46 rfl ?_
  refine zR_istore (lv' := [(0, .ref (w.1 + 88)), (1, .int x1), (2, .int x2), (4, .int s0), (5, .int (3 : Int32))]) dX12_sign_47 (Nat.le_of_ble_eq_true rfl) rfl ?_
  refine zR_iload dX12_sign_49 3 rfl ?_
  by_cases c4 : s0 ≤ 0
  · have h := zif_t h c4
    refine zR_if_le_t (tgt := 61) dX12_sign_51 (by decide) c4 ?_
    refine zR_iload_n dX12_sign_61 2 rfl ?_
    refine zR_bipush (x := (59 : Int32)) dX12_sign_62 rfl ?_
    by_cases c5 : x2 = (59 : Int32)
    · have h := zif_t h c5
      refine zR_icmp_ne_f (tgt := 73) dX12_sign_64 (by decide) c5 ?_
      refine zR_iconst (x := (4 : Int32)) dX12_sign_67 rfl ?_
      refine zR_istore (lv' := [(0, .ref (w.1 + 88)), (1, .int x1), (2, .int x2), (4, .int s0), (5, .int (4 : Int32))]) dX12_sign_68 (Nat.le_of_ble_eq_true rfl) rfl ?_
      refine zR_goto (tgt := 173) dX12_sign_70 (by decide) ?_
      refine zR_sub (lv' := [(0, .ref (w.1 + 88)), (1, .int x1), (4, .int s0), (5, .int (4 : Int32))]) [0, 1, 3, 4] rfl ?_
      exact wX12_sign_b173 F V0 V1 V2 V3 V4 V5 V6 V7 x1 s0 (4 : Int32) _ h
    · have h := zif_f h c5
      refine zR_icmp_ne_t (tgt := 73) dX12_sign_64 (by decide) c5 ?_
      refine zR_iload_n dX12_sign_73 2 rfl ?_
      refine zR_bipush (x := (58 : Int32)) dX12_sign_74 rfl ?_
      by_cases c6 : x2 = (58 : Int32)
      · have h := zif_t h c6
        refine zR_icmp_ne_f (tgt := 85) dX12_sign_76 (by decide) c6 ?_
        refine zR_iconst (x := (5 : Int32)) dX12_sign_79 rfl ?_
        refine zR_istore (lv' := [(0, .ref (w.1 + 88)), (1, .int x1), (2, .int x2), (4, .int s0), (5, .int (5 : Int32))]) dX12_sign_80 (Nat.le_of_ble_eq_true rfl) rfl ?_
        refine zR_goto (tgt := 173) dX12_sign_82 (by decide) ?_
        refine zR_sub (lv' := [(0, .ref (w.1 + 88)), (1, .int x1), (4, .int s0), (5, .int (5 : Int32))]) [0, 1, 3, 4] rfl ?_
        exact wX12_sign_b173 F V0 V1 V2 V3 V4 V5 V6 V7 x1 s0 (5 : Int32) _ h
      · have h := zif_f h c6
        refine zR_icmp_ne_t (tgt := 85) dX12_sign_76 (by decide) c6 ?_
        refine zR_iload_n dX12_sign_85 2 rfl ?_
        refine zR_bipush (x := (44 : Int32)) dX12_sign_86 rfl ?_
        by_cases c7 : x2 = (44 : Int32)
        · have h := zif_t h c7
          refine zR_icmp_ne_f (tgt := 98) dX12_sign_88 (by decide) c7 ?_
          refine zR_bipush (x := (6 : Int32)) dX12_sign_91 rfl ?_
          refine zR_istore (lv' := [(0, .ref (w.1 + 88)), (1, .int x1), (2, .int x2), (4, .int s0), (5, .int (6 : Int32))]) dX12_sign_93 (Nat.le_of_ble_eq_true rfl) rfl ?_
          refine zR_goto (tgt := 173) dX12_sign_95 (by decide) ?_
          refine zR_sub (lv' := [(0, .ref (w.1 + 88)), (1, .int x1), (4, .int s0), (5, .int (6 : Int32))]) [0, 1, 3, 4] rfl ?_
          exact wX12_sign_b173 F V0 V1 V2 V3 V4 V5 V6 V7 x1 s0 (6 : Int32) _ h
        · have h := zif_f h c7
          refine zR_icmp_ne_t (tgt := 98) dX12_sign_88 (by decide) c7 ?_
          refine zR_iload_n dX12_sign_98 2 rfl ?_
          refine zR_bipush (x := (40 : Int32)) dX12_sign_99 rfl ?_
          by_cases c8 : x2 = (40 : Int32)
          · have h := zif_t h c8
            refine zR_icmp_ne_f (tgt := 111) dX12_sign_101 (by decide) c8 ?_
            refine zR_bipush (x := (7 : Int32)) dX12_sign_104 rfl ?_
            refine zR_istore (lv' := [(0, .ref (w.1 + 88)), (1, .int x1), (2, .int x2), (4, .int s0), (5, .int (7 : Int32))]) dX12_sign_106 (Nat.le_of_ble_eq_true rfl) rfl ?_
            refine zR_goto (tgt := 173) dX12_sign_108 (by decide) ?_
            refine zR_sub (lv' := [(0, .ref (w.1 + 88)), (1, .int x1), (4, .int s0), (5, .int (7 : Int32))]) [0, 1, 3, 4] rfl ?_
            exact wX12_sign_b173 F V0 V1 V2 V3 V4 V5 V6 V7 x1 s0 (7 : Int32) _ h
          · have h := zif_f h c8
            refine zR_icmp_ne_t (tgt := 111) dX12_sign_101 (by decide) c8 ?_
            refine zR_iload_n dX12_sign_111 2 rfl ?_
            refine zR_bipush (x := (41 : Int32)) dX12_sign_112 rfl ?_
            by_cases c9 : x2 = (41 : Int32)
            · have h := zif_t h c9
              refine zR_icmp_ne_f (tgt := 124) dX12_sign_114 (by decide) c9 ?_
              refine zR_bipush (x := (8 : Int32)) dX12_sign_117 rfl ?_
              refine zR_istore (lv' := [(0, .ref (w.1 + 88)), (1, .int x1), (2, .int x2), (4, .int s0), (5, .int (8 : Int32))]) dX12_sign_119 (Nat.le_of_ble_eq_true rfl) rfl ?_
              refine zR_goto (tgt := 173) dX12_sign_121 (by decide) ?_
              refine zR_sub (lv' := [(0, .ref (w.1 + 88)), (1, .int x1), (4, .int s0), (5, .int (8 : Int32))]) [0, 1, 3, 4] rfl ?_
              exact wX12_sign_b173 F V0 V1 V2 V3 V4 V5 V6 V7 x1 s0 (8 : Int32) _ h
            · have h := zif_f h c9
              refine zR_icmp_ne_t (tgt := 124) dX12_sign_114 (by decide) c9 ?_
              refine zR_iload_n dX12_sign_124 2 rfl ?_
              refine zR_bipush (x := (43 : Int32)) dX12_sign_125 rfl ?_
              by_cases c10 : x2 = (43 : Int32)
              · have h := zif_t h c10
                refine zR_icmp_ne_f (tgt := 137) dX12_sign_127 (by decide) c10 ?_
                refine zR_bipush (x := (9 : Int32)) dX12_sign_130 rfl ?_
                refine zR_istore (lv' := [(0, .ref (w.1 + 88)), (1, .int x1), (2, .int x2), (4, .int s0), (5, .int (9 : Int32))]) dX12_sign_132 (Nat.le_of_ble_eq_true rfl) rfl ?_
                refine zR_goto (tgt := 173) dX12_sign_134 (by decide) ?_
                refine zR_sub (lv' := [(0, .ref (w.1 + 88)), (1, .int x1), (4, .int s0), (5, .int (9 : Int32))]) [0, 1, 3, 4] rfl ?_
                exact wX12_sign_b173 F V0 V1 V2 V3 V4 V5 V6 V7 x1 s0 (9 : Int32) _ h
              · have h := zif_f h c10
                refine zR_icmp_ne_t (tgt := 137) dX12_sign_127 (by decide) c10 ?_
                refine zR_iload_n dX12_sign_137 2 rfl ?_
                refine zR_bipush (x := (45 : Int32)) dX12_sign_138 rfl ?_
                by_cases c11 : x2 = (45 : Int32)
                · have h := zif_t h c11
                  refine zR_icmp_ne_f (tgt := 150) dX12_sign_140 (by decide) c11 ?_
                  refine zR_bipush (x := (10 : Int32)) dX12_sign_143 rfl ?_
                  refine zR_istore (lv' := [(0, .ref (w.1 + 88)), (1, .int x1), (2, .int x2), (4, .int s0), (5, .int (10 : Int32))]) dX12_sign_145 (Nat.le_of_ble_eq_true rfl) rfl ?_
                  refine zR_goto (tgt := 173) dX12_sign_147 (by decide) ?_
                  refine zR_sub (lv' := [(0, .ref (w.1 + 88)), (1, .int x1), (4, .int s0), (5, .int (10 : Int32))]) [0, 1, 3, 4] rfl ?_
                  exact wX12_sign_b173 F V0 V1 V2 V3 V4 V5 V6 V7 x1 s0 (10 : Int32) _ h
                · have h := zif_f h c11
                  refine zR_icmp_ne_t (tgt := 150) dX12_sign_140 (by decide) c11 ?_
                  refine zR_iload_n dX12_sign_150 2 rfl ?_
                  refine zR_bipush (x := (42 : Int32)) dX12_sign_151 rfl ?_
                  by_cases c12 : x2 = (42 : Int32)
                  · have h := zif_t h c12
                    refine zR_icmp_ne_f (tgt := 163) dX12_sign_153 (by decide) c12 ?_
                    refine zR_bipush (x := (11 : Int32)) dX12_sign_156 rfl ?_
                    refine zR_istore (lv' := [(0, .ref (w.1 + 88)), (1, .int x1), (2, .int x2), (4, .int s0), (5, .int (11 : Int32))]) dX12_sign_158 (Nat.le_of_ble_eq_true rfl) rfl ?_
                    refine zR_goto (tgt := 173) dX12_sign_160 (by decide) ?_
                    refine zR_sub (lv' := [(0, .ref (w.1 + 88)), (1, .int x1), (4, .int s0), (5, .int (11 : Int32))]) [0, 1, 3, 4] rfl ?_
                    exact wX12_sign_b173 F V0 V1 V2 V3 V4 V5 V6 V7 x1 s0 (11 : Int32) _ h
                  · have h := zif_f h c12
                    refine zR_icmp_ne_t (tgt := 163) dX12_sign_153 (by decide) c12 ?_
                    refine zR_iload_n dX12_sign_163 2 rfl ?_
                    refine zR_bipush (x := (60 : Int32)) dX12_sign_164 rfl ?_
                    by_cases c13 : x2 = (60 : Int32)
                    · have h := zif_t h c13
                      refine zR_icmp_ne_f (tgt := 173) dX12_sign_166 (by decide) c13 ?_
                      refine zR_bipush (x := (14 : Int32)) dX12_sign_169 rfl ?_
                      refine zR_istore (lv' := [(0, .ref (w.1 + 88)), (1, .int x1), (2, .int x2), (4, .int s0), (5, .int (14 : Int32))]) dX12_sign_171 (Nat.le_of_ble_eq_true rfl) rfl ?_
                      refine zR_sub (lv' := [(0, .ref (w.1 + 88)), (1, .int x1), (4, .int s0), (5, .int (14 : Int32))]) [0, 1, 3, 4] rfl ?_
                      exact wX12_sign_b173 F V0 V1 V2 V3 V4 V5 V6 V7 x1 s0 (14 : Int32) _ h
                    · have h := zif_f h c13
                      refine zR_icmp_ne_t (tgt := 173) dX12_sign_166 (by decide) c13 ?_
                      refine zR_sub (lv' := [(0, .ref (w.1 + 88)), (1, .int x1), (4, .int s0), (5, .int (3 : Int32))]) [0, 1, 3, 4] rfl ?_
                      exact wX12_sign_b173 F V0 V1 V2 V3 V4 V5 V6 V7 x1 s0 (3 : Int32) _ h
  · have h := zif_f h c4
    refine zR_if_le_f (tgt := 61) dX12_sign_51 (by decide) c4 ?_
    refine zR_iload dX12_sign_54 3 rfl ?_
    refine zR_istore (lv' := [(0, .ref (w.1 + 88)), (1, .int x1), (2, .int x2), (4, .int s0), (5, .int s0)]) dX12_sign_56 (Nat.le_of_ble_eq_true rfl) rfl ?_
    refine zR_goto (tgt := 173) dX12_sign_58 (by decide) ?_
    refine zR_sub (lv' := [(0, .ref (w.1 + 88)), (1, .int x1), (4, .int s0), (5, .int s0)]) [0, 1, 3, 4] rfl ?_
    exact wX12_sign_b173 F V0 V1 V2 V3 V4 V5 V6 V7 x1 s0 s0 _ h
set_option maxRecDepth 100000 in
set_option maxHeartbeats 4000000 in
theorem mX12_sign {w : zW} (F : Nat) (V0 V1 V2 V3 V4 V5 V6 V7 : zV) (x1 : Int32) (x2 : Int32) (x3 : Int32) (res : Int32 × zV) (h : fX12_sign F V7 x1 x2 x3 = some res) : zMet w kX12_sign 1 0 0 [.ref (w.1 + 88), .int x1, .int x2, .int x3] (zE zds w [V0, V1, V2, V3, V4, V5, V6, V7]) (some (.int res.1)) (zE zds w [V0, V1, V2, V3, V4, V5, V6, res.2]) := by
  refine zMet_of (by decide) (Nat.le_of_ble_eq_true rfl) (Nat.le_refl 0) fun _ => ?_
  show zR w kX12_sign 1 0 0 (some (.int res.1)) (zE zds w [V0, V1, V2, V3, V4, V5, V6, res.2]) 0 [(0, .ref (w.1 + 88)), (1, .int x1), (2, .int x2), (3, .int x3)] [] (zE zds w [V0, V1, V2, V3, V4, V5, V6, V7])
  unfold fX12_sign at h
  refine zR_iload_n dX12_sign_0 3 rfl ?_
  refine zR_bipush (x := (61 : Int32)) dX12_sign_1 rfl ?_
  by_cases c14 : x3 = (61 : Int32)
  · have h := zif_t h c14
    refine zR_icmp_eq_t (tgt := 10) dX12_sign_3 (by decide) c14 ?_
    refine zR_iload_n dX12_sign_10 2 rfl ?_
    refine zR_bipush (x := (61 : Int32)) dX12_sign_11 rfl ?_
    by_cases c15 : x2 = (61 : Int32)
    · have h := zif_t h c15
      refine zR_icmp_ne_f (tgt := 21) dX12_sign_13 (by decide) c15 ?_
      refine zR_bipush (x := (12 : Int32)) dX12_sign_16 rfl ?_
      refine zR_goto (tgt := 44) dX12_sign_18 (by decide) ?_
      refine zR_sub (lv' := [(0, .ref (w.1 + 88)), (1, .int x1), (2, .int x2)]) [0, 1, 2] rfl ?_
      exact wX12_sign_b44 F V0 V1 V2 V3 V4 V5 V6 V7 x1 x2 (12 : Int32) _ h
    · have h := zif_f h c15
      refine zR_icmp_ne_t (tgt := 21) dX12_sign_13 (by decide) c15 ?_
      refine zR_iload_n dX12_sign_21 2 rfl ?_
      refine zR_bipush (x := (33 : Int32)) dX12_sign_22 rfl ?_
      by_cases c16 : x2 = (33 : Int32)
      · have h := zif_t h c16
        refine zR_icmp_ne_f (tgt := 32) dX12_sign_24 (by decide) c16 ?_
        refine zR_bipush (x := (13 : Int32)) dX12_sign_27 rfl ?_
        refine zR_goto (tgt := 44) dX12_sign_29 (by decide) ?_
        refine zR_sub (lv' := [(0, .ref (w.1 + 88)), (1, .int x1), (2, .int x2)]) [0, 1, 2] rfl ?_
        exact wX12_sign_b44 F V0 V1 V2 V3 V4 V5 V6 V7 x1 x2 (13 : Int32) _ h
      · have h := zif_f h c16
        refine zR_icmp_ne_t (tgt := 32) dX12_sign_24 (by decide) c16 ?_
        refine zR_iload_n dX12_sign_32 2 rfl ?_
        refine zR_bipush (x := (60 : Int32)) dX12_sign_33 rfl ?_
        by_cases c17 : x2 = (60 : Int32)
        · have h := zif_t h c17
          refine zR_icmp_ne_f (tgt := 43) dX12_sign_35 (by decide) c17 ?_
          refine zR_bipush (x := (15 : Int32)) dX12_sign_38 rfl ?_
          refine zR_goto (tgt := 44) dX12_sign_40 (by decide) ?_
          refine zR_sub (lv' := [(0, .ref (w.1 + 88)), (1, .int x1), (2, .int x2)]) [0, 1, 2] rfl ?_
          exact wX12_sign_b44 F V0 V1 V2 V3 V4 V5 V6 V7 x1 x2 (15 : Int32) _ h
        · have h := zif_f h c17
          refine zR_icmp_ne_t (tgt := 43) dX12_sign_35 (by decide) c17 ?_
          refine zR_iconst (x := (0 : Int32)) dX12_sign_43 rfl ?_
          refine zR_sub (lv' := [(0, .ref (w.1 + 88)), (1, .int x1), (2, .int x2)]) [0, 1, 2] rfl ?_
          exact wX12_sign_b44 F V0 V1 V2 V3 V4 V5 V6 V7 x1 x2 (0 : Int32) _ h
  · have h := zif_f h c14
    refine zR_icmp_eq_f (tgt := 10) dX12_sign_3 (by decide) c14 ?_
    refine zR_iconst (x := (0 : Int32)) dX12_sign_6 rfl ?_
    refine zR_goto (tgt := 44) dX12_sign_7 (by decide) ?_
    refine zR_sub (lv' := [(0, .ref (w.1 + 88)), (1, .int x1), (2, .int x2)]) [0, 1, 2] rfl ?_
    exact wX12_sign_b44 F V0 V1 V2 V3 V4 V5 V6 V7 x1 x2 (0 : Int32) _ h
set_option maxRecDepth 100000 in
set_option maxHeartbeats 4000000 in
theorem wX12_cut_b304 {w : zW} (F : Nat) (k7 : zV → Int32 → Option (zV)) (hk7 : ∀ (V0 V1 V2 V3 V4 V5 V6 V7 : zV) (x1 : Int32) (res : zV), k7 V7 x1 = some res → zR w kX12_cut 2 0 0 none (zE zds w [V0, V1, V2, V3, V4, V5, V6, res]) 7 [(0, .ref (w.1 + 88)), (1, .int x1)] [] (zE zds w [V0, V1, V2, V3, V4, V5, V6, V7])) (V0 V1 V2 V3 V4 V5 V6 V7 : zV) (x1 : Int32) (res : zV) (h : fX12_cut_b304 F k7 V7 x1 = some res) : zR w kX12_cut 2 0 0 none (zE zds w [V0, V1, V2, V3, V4, V5, V6, res]) 304 [(0, .ref (w.1 + 88)), (1, .int x1)] [] (zE zds w [V0, V1, V2, V3, V4, V5, V6, V7]) := by
  unfold fX12_cut_b304 at h
  refine zR_goto (tgt := 7) dX12_cut_304 (by decide) ?_
  exact hk7 V0 V1 V2 V3 V4 V5 V6 V7 x1 _ h
set_option maxRecDepth 100000 in
set_option maxHeartbeats 4000000 in
theorem wX12_cut_b274 {w : zW} (F : Nat) (k7 : zV → Int32 → Option (zV)) (hk7 : ∀ (V0 V1 V2 V3 V4 V5 V6 V7 : zV) (x1 : Int32) (res : zV), k7 V7 x1 = some res → zR w kX12_cut 2 0 0 none (zE zds w [V0, V1, V2, V3, V4, V5, V6, res]) 7 [(0, .ref (w.1 + 88)), (1, .int x1)] [] (zE zds w [V0, V1, V2, V3, V4, V5, V6, V7])) (V0 V1 V2 V3 V4 V5 V6 V7 : zV) (x1 : Int32) (x3 : Int32) (x4 : Int32) (s1 : Int32) (res : zV) (h : fX12_cut_b274 F k7 V7 x1 x3 x4 s1 = some res) : zR w kX12_cut 2 0 0 none (zE zds w [V0, V1, V2, V3, V4, V5, V6, res]) 274 [(0, .ref (w.1 + 88)), (1, .int x1), (3, .int x3), (4, .int x4)] [.int s1, .ref (w.1 + 88)] (zE zds w [V0, V1, V2, V3, V4, V5, V6, V7]) := by
  unfold fX12_cut_b274 at h
  refine zR_iload_n dX12_cut_274 1 rfl ?_
  refine zR_iload dX12_cut_275 3 rfl ?_
  refine zR_lconst (x := (0 : Int64)) dX12_cut_277 rfl ?_
  obtain ⟨q1, hq2, h⟩ := zbd_some h
  refine zR_cV (rest := []) (st1 := []) dX12_cut_278 (mX12_token F V0 V1 V2 V3 V4 V5 V6 V7 s1 x1 x4 (0 : Int64) _ hq2) zc_X12_250 rfl (zE_at zd_88) ⟨_, _, rfl⟩ rfl (Nat.le_of_ble_eq_true rfl) (Nat.le_of_ble_eq_true rfl) rfl ?_
  refine zR_iload_n dX12_cut_281 1 rfl ?_
  refine zR_iload_n dX12_cut_282 2 rfl ?_
  refine zR_iadd dX12_cut_283 ?_
  refine zR_istore_n (lv' := [(0, .ref (w.1 + 88)), (1, .int (x1 + x3)), (3, .int x3), (4, .int x4)]) dX12_cut_284 (Nat.le_of_ble_eq_true rfl) rfl ?_
  refine zR_goto (tgt := 304) dX12_cut_285 (by decide) ?_
  refine zR_sub (lv' := [(0, .ref (w.1 + 88)), (1, .int (x1 + x3))]) [0, 1] rfl ?_
  exact wX12_cut_b304 F k7 hk7 V0 V1 V2 V3 V4 V5 V6 q1 (x1 + x3) _ h
set_option maxRecDepth 100000 in
set_option maxHeartbeats 4000000 in
theorem wX12_cut_b257 {w : zW} (F : Nat) (k221 : zV → Int32 → Int32 → Int32 → Option (zV)) (hk221 : ∀ (V0 V1 V2 V3 V4 V5 V6 V7 : zV) (x1 : Int32) (x3 : Int32) (x4 : Int32) (res : zV), k221 V7 x1 x3 x4 = some res → zR w kX12_cut 2 0 0 none (zE zds w [V0, V1, V2, V3, V4, V5, V6, res]) 221 [(0, .ref (w.1 + 88)), (1, .int x1), (3, .int x3), (4, .int x4)] [] (zE zds w [V0, V1, V2, V3, V4, V5, V6, V7])) (V0 V1 V2 V3 V4 V5 V6 V7 : zV) (x1 : Int32) (x3 : Int32) (x4 : Int32) (res : zV) (h : fX12_cut_b257 F k221 V7 x1 x3 x4 = some res) : zR w kX12_cut 2 0 0 none (zE zds w [V0, V1, V2, V3, V4, V5, V6, res]) 257 [(0, .ref (w.1 + 88)), (1, .int x1), (3, .int x3), (4, .int x4)] [] (zE zds w [V0, V1, V2, V3, V4, V5, V6, V7]) := by
  unfold fX12_cut_b257 at h
  refine zR_iinc (u := (x3 + 1)) (lv' := [(0, .ref (w.1 + 88)), (1, .int x1), (3, .int (x3 + 1)), (4, .int x4)]) dX12_cut_257 2 rfl rfl (Nat.le_of_ble_eq_true rfl) rfl ?_
  refine zR_goto (tgt := 221) dX12_cut_260 (by decide) ?_
  exact hk221 V0 V1 V2 V3 V4 V5 V6 V7 x1 (x3 + 1) x4 _ h
set_option maxRecDepth 100000 in
set_option maxHeartbeats 4000000 in
theorem wX12_cut_l221 {w : zW} (F : Nat) (k7 : zV → Int32 → Option (zV)) (hk7 : ∀ (V0 V1 V2 V3 V4 V5 V6 V7 : zV) (x1 : Int32) (res : zV), k7 V7 x1 = some res → zR w kX12_cut 2 0 0 none (zE zds w [V0, V1, V2, V3, V4, V5, V6, res]) 7 [(0, .ref (w.1 + 88)), (1, .int x1)] [] (zE zds w [V0, V1, V2, V3, V4, V5, V6, V7])) : ∀ (n : Nat) (V0 V1 V2 V3 V4 V5 V6 V7 : zV) (x1 : Int32) (x3 : Int32) (x4 : Int32) (res : zV), fX12_cut_l221 F k7 n V7 x1 x3 x4 = some res → zR w kX12_cut 2 0 0 none (zE zds w [V0, V1, V2, V3, V4, V5, V6, res]) 221 [(0, .ref (w.1 + 88)), (1, .int x1), (3, .int x3), (4, .int x4)] [] (zE zds w [V0, V1, V2, V3, V4, V5, V6, V7]) := by
  intro n
  induction n with
  | zero =>
    intro V0 V1 V2 V3 V4 V5 V6 V7 x1 x3 x4 res h
    simp [fX12_cut_l221] at h
  | succ n ih =>
    intro V0 V1 V2 V3 V4 V5 V6 V7 x1 x3 x4 res h
    rw [fX12_cut_l221] at h
    refine zR_aload_n dX12_cut_221 0 rfl ?_
    refine zR_iload_n dX12_cut_222 1 rfl ?_
    refine zR_iload_n dX12_cut_223 2 rfl ?_
    refine zR_iadd dX12_cut_224 ?_
    obtain ⟨q3, hq4, h⟩ := zbd_some h
    refine zR_cV (rest := []) (st1 := [.int q3]) dX12_cut_225 (mX12_at F V0 V1 V2 V3 V4 V5 V6 V7 (x1 + x3) _ hq4) zc_X12_246 rfl (zE_at zd_88) ⟨_, _, rfl⟩ rfl (Nat.le_of_ble_eq_true rfl) (Nat.le_of_ble_eq_true rfl) rfl ?_
    obtain ⟨q5, hq6, h⟩ := zbd_some h
    refine zR_cS (rest := []) (st1 := [.int q5]) dX12_cut_228 (mX12_isDigit F (zE zds w [V0, V1, V2, V3, V4, V5, V6, V7]) q3 _ hq6) zc_X12_235 rfl rfl (Nat.le_of_ble_eq_true rfl) (Nat.le_of_ble_eq_true rfl) rfl ?_
    by_cases c7 : q5 = 0
    · have h := zif_t h c7
      refine zR_if_eq_t (tgt := 263) dX12_cut_231 (by decide) c7 ?_
      refine zR_aload_n dX12_cut_263 0 rfl ?_
      refine zR_iload_n dX12_cut_264 2 rfl ?_
      refine zR_iconst (x := (5 : Int32)) dX12_cut_265 rfl ?_
      by_cases c8 : x3 ≤ (5 : Int32)
      · have h := zif_t h c8
        refine zR_icmp_le_t (tgt := 273) dX12_cut_266 (by decide) c8 ?_
        refine zR_iconst (x := (2 : Int32)) dX12_cut_273 rfl ?_
        exact wX12_cut_b274 F k7 hk7 V0 V1 V2 V3 V4 V5 V6 V7 x1 x3 x4 (2 : Int32) _ h
      · have h := zif_f h c8
        refine zR_icmp_le_f (tgt := 273) dX12_cut_266 (by decide) c8 ?_
        refine zR_iconst (x := (3 : Int32)) dX12_cut_269 rfl ?_
        refine zR_goto (tgt := 274) dX12_cut_270 (by decide) ?_
        exact wX12_cut_b274 F k7 hk7 V0 V1 V2 V3 V4 V5 V6 V7 x1 x3 x4 (3 : Int32) _ h
    · have h := zif_f h c7
      refine zR_if_eq_f (tgt := 263) dX12_cut_231 (by decide) c7 ?_
      refine zR_iload_n dX12_cut_234 2 rfl ?_
      refine zR_iconst (x := (5 : Int32)) dX12_cut_235 rfl ?_
      by_cases c9 : (5 : Int32) ≤ x3
      · have h := zif_t h c9
        refine zR_icmp_ge_t (tgt := 257) dX12_cut_236 (by decide) c9 ?_
        exact wX12_cut_b257 F (fX12_cut_l221 F k7 n) ih V0 V1 V2 V3 V4 V5 V6 V7 x1 x3 x4 _ h
      · have h := zif_f h c9
        refine zR_icmp_ge_f (tgt := 257) dX12_cut_236 (by decide) c9 ?_
        refine zR_bipush (x := (10 : Int32)) dX12_cut_239 rfl ?_
        refine zR_iload dX12_cut_241 3 rfl ?_
        refine zR_imul dX12_cut_243 ?_
        refine zR_aload_n dX12_cut_244 0 rfl ?_
        refine zR_iload_n dX12_cut_245 1 rfl ?_
        refine zR_iload_n dX12_cut_246 2 rfl ?_
        refine zR_iadd dX12_cut_247 ?_
        obtain ⟨q10, hq11, h⟩ := zbd_some h
        refine zR_cV (rest := [.int ((10 : Int32) * x4)]) (st1 := [.int q10, .int ((10 : Int32) * x4)]) dX12_cut_248 (mX12_at F V0 V1 V2 V3 V4 V5 V6 V7 (x1 + x3) _ hq11) zc_X12_246 rfl (zE_at zd_88) ⟨_, _, rfl⟩ rfl (Nat.le_of_ble_eq_true rfl) (Nat.le_of_ble_eq_true rfl) rfl ?_
        refine zR_iadd dX12_cut_251 ?_
        refine zR_bipush (x := (48 : Int32)) dX12_cut_252 rfl ?_
        refine zR_isub dX12_cut_254 ?_
        obtain ⟨y12, e13, h⟩ := zlet_some h
        refine zR_nmI e13 ?_
        refine zR_istore (lv' := [(0, .ref (w.1 + 88)), (1, .int x1), (3, .int x3), (4, .int y12)]) dX12_cut_255 (Nat.le_of_ble_eq_true rfl) rfl ?_
        exact wX12_cut_b257 F (fX12_cut_l221 F k7 n) ih V0 V1 V2 V3 V4 V5 V6 V7 x1 x3 y12 _ h
set_option maxRecDepth 100000 in
set_option maxHeartbeats 4000000 in
theorem wX12_cut_b192 {w : zW} (F : Nat) (k7 : zV → Int32 → Option (zV)) (hk7 : ∀ (V0 V1 V2 V3 V4 V5 V6 V7 : zV) (x1 : Int32) (res : zV), k7 V7 x1 = some res → zR w kX12_cut 2 0 0 none (zE zds w [V0, V1, V2, V3, V4, V5, V6, res]) 7 [(0, .ref (w.1 + 88)), (1, .int x1)] [] (zE zds w [V0, V1, V2, V3, V4, V5, V6, V7])) (V0 V1 V2 V3 V4 V5 V6 V7 : zV) (x1 : Int32) (x3 : Int32) (x4 : Int64) (x6 : Int32) (res : zV) (h : fX12_cut_b192 F k7 V7 x1 x3 x4 x6 = some res) : zR w kX12_cut 2 0 0 none (zE zds w [V0, V1, V2, V3, V4, V5, V6, res]) 192 [(0, .ref (w.1 + 88)), (1, .int x1), (3, .int x3), (4, .long x4), (6, .int x6)] [] (zE zds w [V0, V1, V2, V3, V4, V5, V6, V7]) := by
  unfold fX12_cut_b192 at h
  refine zR_aload_n dX12_cut_192 0 rfl ?_
  refine zR_iload dX12_cut_193 4 rfl ?_
  refine zR_iload_n dX12_cut_195 1 rfl ?_
  refine zR_iconst (x := (0 : Int32)) dX12_cut_196 rfl ?_
  refine zR_lload dX12_cut_197 3 rfl ?_
  obtain ⟨q14, hq15, h⟩ := zbd_some h
  refine zR_cV (rest := []) (st1 := []) dX12_cut_199 (mX12_token F V0 V1 V2 V3 V4 V5 V6 V7 x6 x1 (0 : Int32) x4 _ hq15) zc_X12_250 rfl (zE_at zd_88) ⟨_, _, rfl⟩ rfl (Nat.le_of_ble_eq_true rfl) (Nat.le_of_ble_eq_true rfl) rfl ?_
  refine zR_iload_n dX12_cut_202 1 rfl ?_
  refine zR_iload_n dX12_cut_203 2 rfl ?_
  refine zR_iadd dX12_cut_204 ?_
  refine zR_istore_n (lv' := [(0, .ref (w.1 + 88)), (1, .int (x1 + x3)), (3, .int x3), (4, .long x4), (6, .int x6)]) dX12_cut_205 (Nat.le_of_ble_eq_true rfl) rfl ?_
  refine zR_goto (tgt := 304) dX12_cut_206 (by decide) ?_
  refine zR_sub (lv' := [(0, .ref (w.1 + 88)), (1, .int (x1 + x3))]) [0, 1] rfl ?_
  exact wX12_cut_b304 F k7 hk7 V0 V1 V2 V3 V4 V5 V6 q14 (x1 + x3) _ h
set_option maxRecDepth 100000 in
set_option maxHeartbeats 4000000 in
theorem wX12_cut_b186 {w : zW} (F : Nat) (k159 : zV → Int32 → Int32 → Int64 → Int32 → Int32 → Option (zV)) (hk159 : ∀ (V0 V1 V2 V3 V4 V5 V6 V7 : zV) (x1 : Int32) (x3 : Int32) (x4 : Int64) (x6 : Int32) (x7 : Int32) (res : zV), k159 V7 x1 x3 x4 x6 x7 = some res → zR w kX12_cut 2 0 0 none (zE zds w [V0, V1, V2, V3, V4, V5, V6, res]) 159 [(0, .ref (w.1 + 88)), (1, .int x1), (3, .int x3), (4, .long x4), (6, .int x6), (7, .int x7)] [] (zE zds w [V0, V1, V2, V3, V4, V5, V6, V7])) (V0 V1 V2 V3 V4 V5 V6 V7 : zV) (x1 : Int32) (x3 : Int32) (x4 : Int64) (x6 : Int32) (x7 : Int32) (res : zV) (h : fX12_cut_b186 F k159 V7 x1 x3 x4 x6 x7 = some res) : zR w kX12_cut 2 0 0 none (zE zds w [V0, V1, V2, V3, V4, V5, V6, res]) 186 [(0, .ref (w.1 + 88)), (1, .int x1), (3, .int x3), (4, .long x4), (6, .int x6), (7, .int x7)] [] (zE zds w [V0, V1, V2, V3, V4, V5, V6, V7]) := by
  unfold fX12_cut_b186 at h
  refine zR_iinc (u := (x7 + 1)) (lv' := [(0, .ref (w.1 + 88)), (1, .int x1), (3, .int x3), (4, .long x4), (6, .int x6), (7, .int (x7 + 1))]) dX12_cut_186 5 rfl rfl (Nat.le_of_ble_eq_true rfl) rfl ?_
  refine zR_goto (tgt := 159) dX12_cut_189 (by decide) ?_
  exact hk159 V0 V1 V2 V3 V4 V5 V6 V7 x1 x3 x4 x6 (x7 + 1) _ h
set_option maxRecDepth 100000 in
set_option maxHeartbeats 4000000 in
theorem wX12_cut_l159 {w : zW} (F : Nat) (k7 : zV → Int32 → Option (zV)) (hk7 : ∀ (V0 V1 V2 V3 V4 V5 V6 V7 : zV) (x1 : Int32) (res : zV), k7 V7 x1 = some res → zR w kX12_cut 2 0 0 none (zE zds w [V0, V1, V2, V3, V4, V5, V6, res]) 7 [(0, .ref (w.1 + 88)), (1, .int x1)] [] (zE zds w [V0, V1, V2, V3, V4, V5, V6, V7])) : ∀ (n : Nat) (V0 V1 V2 V3 V4 V5 V6 V7 : zV) (x1 : Int32) (x3 : Int32) (x4 : Int64) (x6 : Int32) (x7 : Int32) (res : zV), fX12_cut_l159 F k7 n V7 x1 x3 x4 x6 x7 = some res → zR w kX12_cut 2 0 0 none (zE zds w [V0, V1, V2, V3, V4, V5, V6, res]) 159 [(0, .ref (w.1 + 88)), (1, .int x1), (3, .int x3), (4, .long x4), (6, .int x6), (7, .int x7)] [] (zE zds w [V0, V1, V2, V3, V4, V5, V6, V7]) := by
  intro n
  induction n with
  | zero =>
    intro V0 V1 V2 V3 V4 V5 V6 V7 x1 x3 x4 x6 x7 res h
    simp [fX12_cut_l159] at h
  | succ n ih =>
    intro V0 V1 V2 V3 V4 V5 V6 V7 x1 x3 x4 x6 x7 res h
    rw [fX12_cut_l159] at h
    refine zR_iload dX12_cut_159 5 rfl ?_
    refine zR_bipush (x := (27 : Int32)) dX12_cut_161 rfl ?_
    by_cases c16 : (27 : Int32) ≤ x7
    · have h := zif_t h c16
      refine zR_icmp_ge_t (tgt := 192) dX12_cut_163 (by decide) c16 ?_
      refine zR_sub (lv' := [(0, .ref (w.1 + 88)), (1, .int x1), (3, .int x3), (4, .long x4), (6, .int x6)]) [0, 1, 2, 3, 4] rfl ?_
      exact wX12_cut_b192 F k7 hk7 V0 V1 V2 V3 V4 V5 V6 V7 x1 x3 x4 x6 _ h
    · have h := zif_f h c16
      refine zR_icmp_ge_f (tgt := 192) dX12_cut_163 (by decide) c16 ?_
      refine zR_aload_n dX12_cut_166 0 rfl ?_
      refine zG_getR dX12_cut_167 zf_X12_34 zd_88 rfl rfl ?_
      refine zR_iload dX12_cut_170 5 rfl ?_
      obtain ⟨g17, h⟩ := zchk_some h
      refine zG_lald dX12_cut_172 zd_95 rfl rfl g17 ?_
      refine zR_lload dX12_cut_173 3 rfl ?_
      refine zR_lcmp dX12_cut_175 ?_
      by_cases c18 : (lg_cmp (zB V7 7 (x7).toNatClampNeg) x4) = 0
      · have h := zif_t h c18
        refine zR_if_ne_f (tgt := 186) dX12_cut_176 (by decide) c18 ?_
        refine zR_bipush (x := (20 : Int32)) dX12_cut_179 rfl ?_
        refine zR_iload dX12_cut_181 5 rfl ?_
        refine zR_iadd dX12_cut_183 ?_
        obtain ⟨y19, e20, h⟩ := zlet_some h
        refine zR_nmI e20 ?_
        refine zR_istore (lv' := [(0, .ref (w.1 + 88)), (1, .int x1), (3, .int x3), (4, .long x4), (6, .int y19), (7, .int x7)]) dX12_cut_184 (Nat.le_of_ble_eq_true rfl) rfl ?_
        exact wX12_cut_b186 F (fX12_cut_l159 F k7 n) ih V0 V1 V2 V3 V4 V5 V6 V7 x1 x3 x4 y19 x7 _ h
      · have h := zif_f h c18
        refine zR_if_ne_t (tgt := 186) dX12_cut_176 (by decide) c18 ?_
        exact wX12_cut_b186 F (fX12_cut_l159 F k7 n) ih V0 V1 V2 V3 V4 V5 V6 V7 x1 x3 x4 x6 x7 _ h
set_option maxRecDepth 100000 in
set_option maxHeartbeats 4000000 in
theorem wX12_cut_b148 {w : zW} (F : Nat) (k7 : zV → Int32 → Option (zV)) (hk7 : ∀ (V0 V1 V2 V3 V4 V5 V6 V7 : zV) (x1 : Int32) (res : zV), k7 V7 x1 = some res → zR w kX12_cut 2 0 0 none (zE zds w [V0, V1, V2, V3, V4, V5, V6, res]) 7 [(0, .ref (w.1 + 88)), (1, .int x1)] [] (zE zds w [V0, V1, V2, V3, V4, V5, V6, V7])) (V0 V1 V2 V3 V4 V5 V6 V7 : zV) (x1 : Int32) (x3 : Int32) (x4 : Int64) (s0 : Int32) (res : zV) (h : fX12_cut_b148 F k7 V7 x1 x3 x4 s0 = some res) : zR w kX12_cut 2 0 0 none (zE zds w [V0, V1, V2, V3, V4, V5, V6, res]) 148 [(0, .ref (w.1 + 88)), (1, .int x1), (3, .int x3), (4, .long x4)] [.int s0] (zE zds w [V0, V1, V2, V3, V4, V5, V6, V7]) := by
  unfold fX12_cut_b148 at h
  refine zR_istore (lv' := [(0, .ref (w.1 + 88)), (1, .int x1), (3, .int x3), (4, .long x4), (6, .int s0)]) dX12_cut_148 (Nat.le_of_ble_eq_true rfl) rfl ?_
  refine zR_iload_n dX12_cut_150 2 rfl ?_
  refine zR_bipush (x := (6 : Int32)) dX12_cut_151 rfl ?_
  by_cases c21 : (6 : Int32) < x3
  · have h := zif_t h c21
    refine zR_icmp_gt_t (tgt := 192) dX12_cut_153 (by decide) c21 ?_
    exact wX12_cut_b192 F k7 hk7 V0 V1 V2 V3 V4 V5 V6 V7 x1 x3 x4 s0 _ h
  · have h := zif_f h c21
    refine zR_icmp_gt_f (tgt := 192) dX12_cut_153 (by decide) c21 ?_
    refine zR_iconst (x := (0 : Int32)) dX12_cut_156 rfl ?_
    refine zR_istore (lv' := [(0, .ref (w.1 + 88)), (1, .int x1), (3, .int x3), (4, .long x4), (6, .int s0), (7, .int (0 : Int32))]) dX12_cut_157 (Nat.le_of_ble_eq_true rfl) rfl ?_
    exact wX12_cut_l159 F k7 hk7 F V0 V1 V2 V3 V4 V5 V6 V7 x1 x3 x4 s0 (0 : Int32) _ h
set_option maxRecDepth 100000 in
set_option maxHeartbeats 4000000 in
theorem wX12_cut_b131 {w : zW} (F : Nat) (k85 : zV → Int32 → Int32 → Int64 → Option (zV)) (hk85 : ∀ (V0 V1 V2 V3 V4 V5 V6 V7 : zV) (x1 : Int32) (x3 : Int32) (x4 : Int64) (res : zV), k85 V7 x1 x3 x4 = some res → zR w kX12_cut 2 0 0 none (zE zds w [V0, V1, V2, V3, V4, V5, V6, res]) 85 [(0, .ref (w.1 + 88)), (1, .int x1), (3, .int x3), (4, .long x4)] [] (zE zds w [V0, V1, V2, V3, V4, V5, V6, V7])) (V0 V1 V2 V3 V4 V5 V6 V7 : zV) (x1 : Int32) (x3 : Int32) (x4 : Int64) (res : zV) (h : fX12_cut_b131 F k85 V7 x1 x3 x4 = some res) : zR w kX12_cut 2 0 0 none (zE zds w [V0, V1, V2, V3, V4, V5, V6, res]) 131 [(0, .ref (w.1 + 88)), (1, .int x1), (3, .int x3), (4, .long x4)] [] (zE zds w [V0, V1, V2, V3, V4, V5, V6, V7]) := by
  unfold fX12_cut_b131 at h
  refine zR_iinc (u := (x3 + 1)) (lv' := [(0, .ref (w.1 + 88)), (1, .int x1), (3, .int (x3 + 1)), (4, .long x4)]) dX12_cut_131 2 rfl rfl (Nat.le_of_ble_eq_true rfl) rfl ?_
  refine zR_goto (tgt := 85) dX12_cut_134 (by decide) ?_
  exact hk85 V0 V1 V2 V3 V4 V5 V6 V7 x1 (x3 + 1) x4 _ h
set_option maxRecDepth 100000 in
set_option maxHeartbeats 4000000 in
theorem wX12_cut_b111 {w : zW} (F : Nat) (k85 : zV → Int32 → Int32 → Int64 → Option (zV)) (hk85 : ∀ (V0 V1 V2 V3 V4 V5 V6 V7 : zV) (x1 : Int32) (x3 : Int32) (x4 : Int64) (res : zV), k85 V7 x1 x3 x4 = some res → zR w kX12_cut 2 0 0 none (zE zds w [V0, V1, V2, V3, V4, V5, V6, res]) 85 [(0, .ref (w.1 + 88)), (1, .int x1), (3, .int x3), (4, .long x4)] [] (zE zds w [V0, V1, V2, V3, V4, V5, V6, V7])) (V0 V1 V2 V3 V4 V5 V6 V7 : zV) (x1 : Int32) (x3 : Int32) (x4 : Int64) (res : zV) (h : fX12_cut_b111 F k85 V7 x1 x3 x4 = some res) : zR w kX12_cut 2 0 0 none (zE zds w [V0, V1, V2, V3, V4, V5, V6, res]) 111 [(0, .ref (w.1 + 88)), (1, .int x1), (3, .int x3), (4, .long x4)] [] (zE zds w [V0, V1, V2, V3, V4, V5, V6, V7]) := by
  unfold fX12_cut_b111 at h
  refine zR_iload_n dX12_cut_111 2 rfl ?_
  refine zR_bipush (x := (8 : Int32)) dX12_cut_112 rfl ?_
  by_cases c22 : (8 : Int32) ≤ x3
  · have h := zif_t h c22
    refine zR_icmp_ge_t (tgt := 131) dX12_cut_114 (by decide) c22 ?_
    exact wX12_cut_b131 F k85 hk85 V0 V1 V2 V3 V4 V5 V6 V7 x1 x3 x4 _ h
  · have h := zif_f h c22
    refine zR_icmp_ge_f (tgt := 131) dX12_cut_114 (by decide) c22 ?_
    refine zR_lload dX12_cut_117 3 rfl ?_
    refine zR_aload_n dX12_cut_119 0 rfl ?_
    refine zR_iload_n dX12_cut_120 1 rfl ?_
    refine zR_iload_n dX12_cut_121 2 rfl ?_
    refine zR_iadd dX12_cut_122 ?_
    obtain ⟨q23, hq24, h⟩ := zbd_some h
    refine zR_cV (rest := [.long x4]) (st1 := [.int q23, .long x4]) dX12_cut_123 (mX12_at F V0 V1 V2 V3 V4 V5 V6 V7 (x1 + x3) _ hq24) zc_X12_246 rfl (zE_at zd_88) ⟨_, _, rfl⟩ rfl (Nat.le_of_ble_eq_true rfl) (Nat.le_of_ble_eq_true rfl) rfl ?_
    obtain ⟨q25, hq26, h⟩ := zbd_some h
    refine zR_cS (rest := []) (st1 := [.long q25]) dX12_cut_126 (mX12_more F (zE zds w [V0, V1, V2, V3, V4, V5, V6, V7]) x4 q23 _ hq26) zc_X12_239 rfl rfl (Nat.le_of_ble_eq_true rfl) (Nat.le_of_ble_eq_true rfl) rfl ?_
    refine zR_lstore (lv' := [(0, .ref (w.1 + 88)), (1, .int x1), (3, .int x3), (4, .long q25)]) dX12_cut_129 (Nat.le_of_ble_eq_true rfl) rfl ?_
    exact wX12_cut_b131 F k85 hk85 V0 V1 V2 V3 V4 V5 V6 V7 x1 x3 q25 _ h
set_option maxRecDepth 100000 in
set_option maxHeartbeats 4000000 in
theorem wX12_cut_l85 {w : zW} (F : Nat) (k7 : zV → Int32 → Option (zV)) (hk7 : ∀ (V0 V1 V2 V3 V4 V5 V6 V7 : zV) (x1 : Int32) (res : zV), k7 V7 x1 = some res → zR w kX12_cut 2 0 0 none (zE zds w [V0, V1, V2, V3, V4, V5, V6, res]) 7 [(0, .ref (w.1 + 88)), (1, .int x1)] [] (zE zds w [V0, V1, V2, V3, V4, V5, V6, V7])) : ∀ (n : Nat) (V0 V1 V2 V3 V4 V5 V6 V7 : zV) (x1 : Int32) (x3 : Int32) (x4 : Int64) (res : zV), fX12_cut_l85 F k7 n V7 x1 x3 x4 = some res → zR w kX12_cut 2 0 0 none (zE zds w [V0, V1, V2, V3, V4, V5, V6, res]) 85 [(0, .ref (w.1 + 88)), (1, .int x1), (3, .int x3), (4, .long x4)] [] (zE zds w [V0, V1, V2, V3, V4, V5, V6, V7]) := by
  intro n
  induction n with
  | zero =>
    intro V0 V1 V2 V3 V4 V5 V6 V7 x1 x3 x4 res h
    simp [fX12_cut_l85] at h
  | succ n ih =>
    intro V0 V1 V2 V3 V4 V5 V6 V7 x1 x3 x4 res h
    rw [fX12_cut_l85] at h
    refine zR_aload_n dX12_cut_85 0 rfl ?_
    refine zR_iload_n dX12_cut_86 1 rfl ?_
    refine zR_iload_n dX12_cut_87 2 rfl ?_
    refine zR_iadd dX12_cut_88 ?_
    obtain ⟨q27, hq28, h⟩ := zbd_some h
    refine zR_cV (rest := []) (st1 := [.int q27]) dX12_cut_89 (mX12_at F V0 V1 V2 V3 V4 V5 V6 V7 (x1 + x3) _ hq28) zc_X12_246 rfl (zE_at zd_88) ⟨_, _, rfl⟩ rfl (Nat.le_of_ble_eq_true rfl) (Nat.le_of_ble_eq_true rfl) rfl ?_
    obtain ⟨q29, hq30, h⟩ := zbd_some h
    refine zR_cS (rest := []) (st1 := [.int q29]) dX12_cut_92 (mX12_isLetter F (zE zds w [V0, V1, V2, V3, V4, V5, V6, V7]) q27 _ hq30) zc_X12_254 rfl rfl (Nat.le_of_ble_eq_true rfl) (Nat.le_of_ble_eq_true rfl) rfl ?_
    by_cases c31 : q29 = 0
    · have h := zif_t h c31
      refine zR_if_ne_f (tgt := 111) dX12_cut_95 (by decide) c31 ?_
      refine zR_aload_n dX12_cut_98 0 rfl ?_
      refine zR_iload_n dX12_cut_99 1 rfl ?_
      refine zR_iload_n dX12_cut_100 2 rfl ?_
      refine zR_iadd dX12_cut_101 ?_
      obtain ⟨q32, hq33, h⟩ := zbd_some h
      refine zR_cV (rest := []) (st1 := [.int q32]) dX12_cut_102 (mX12_at F V0 V1 V2 V3 V4 V5 V6 V7 (x1 + x3) _ hq33) zc_X12_246 rfl (zE_at zd_88) ⟨_, _, rfl⟩ rfl (Nat.le_of_ble_eq_true rfl) (Nat.le_of_ble_eq_true rfl) rfl ?_
      obtain ⟨q34, hq35, h⟩ := zbd_some h
      refine zR_cS (rest := []) (st1 := [.int q34]) dX12_cut_105 (mX12_isDigit F (zE zds w [V0, V1, V2, V3, V4, V5, V6, V7]) q32 _ hq35) zc_X12_235 rfl rfl (Nat.le_of_ble_eq_true rfl) (Nat.le_of_ble_eq_true rfl) rfl ?_
      by_cases c36 : q34 = 0
      · have h := zif_t h c36
        refine zR_if_eq_t (tgt := 137) dX12_cut_108 (by decide) c36 ?_
        refine zR_iload_n dX12_cut_137 2 rfl ?_
        refine zR_bipush (x := (8 : Int32)) dX12_cut_138 rfl ?_
        by_cases c37 : x3 ≤ (8 : Int32)
        · have h := zif_t h c37
          refine zR_icmp_le_t (tgt := 147) dX12_cut_140 (by decide) c37 ?_
          refine zR_iconst (x := (1 : Int32)) dX12_cut_147 rfl ?_
          exact wX12_cut_b148 F k7 hk7 V0 V1 V2 V3 V4 V5 V6 V7 x1 x3 x4 (1 : Int32) _ h
        · have h := zif_f h c37
          refine zR_icmp_le_f (tgt := 147) dX12_cut_140 (by decide) c37 ?_
          refine zR_iconst (x := (3 : Int32)) dX12_cut_143 rfl ?_
          refine zR_goto (tgt := 148) dX12_cut_144 (by decide) ?_
          exact wX12_cut_b148 F k7 hk7 V0 V1 V2 V3 V4 V5 V6 V7 x1 x3 x4 (3 : Int32) _ h
      · have h := zif_f h c36
        refine zR_if_eq_f (tgt := 137) dX12_cut_108 (by decide) c36 ?_
        exact wX12_cut_b111 F (fX12_cut_l85 F k7 n) ih V0 V1 V2 V3 V4 V5 V6 V7 x1 x3 x4 _ h
    · have h := zif_f h c31
      refine zR_if_ne_t (tgt := 111) dX12_cut_95 (by decide) c31 ?_
      exact wX12_cut_b111 F (fX12_cut_l85 F k7 n) ih V0 V1 V2 V3 V4 V5 V6 V7 x1 x3 x4 _ h
set_option maxRecDepth 100000 in
set_option maxHeartbeats 4000000 in
theorem wX12_cut_b67 {w : zW} (F : Nat) (k7 : zV → Int32 → Option (zV)) (hk7 : ∀ (V0 V1 V2 V3 V4 V5 V6 V7 : zV) (x1 : Int32) (res : zV), k7 V7 x1 = some res → zR w kX12_cut 2 0 0 none (zE zds w [V0, V1, V2, V3, V4, V5, V6, res]) 7 [(0, .ref (w.1 + 88)), (1, .int x1)] [] (zE zds w [V0, V1, V2, V3, V4, V5, V6, V7])) (V0 V1 V2 V3 V4 V5 V6 V7 : zV) (x1 : Int32) (res : zV) (h : fX12_cut_b67 F k7 V7 x1 = some res) : zR w kX12_cut 2 0 0 none (zE zds w [V0, V1, V2, V3, V4, V5, V6, res]) 67 [(0, .ref (w.1 + 88)), (1, .int x1)] [] (zE zds w [V0, V1, V2, V3, V4, V5, V6, V7]) := by
  unfold fX12_cut_b67 at h
  refine zR_iinc (u := (x1 + 1)) (lv' := [(0, .ref (w.1 + 88)), (1, .int (x1 + 1))]) dX12_cut_67 1 rfl rfl (Nat.le_of_ble_eq_true rfl) rfl ?_
  refine zR_goto (tgt := 304) dX12_cut_70 (by decide) ?_
  exact wX12_cut_b304 F k7 hk7 V0 V1 V2 V3 V4 V5 V6 V7 (x1 + 1) _ h
set_option maxRecDepth 100000 in
set_option maxHeartbeats 4000000 in
theorem wX12_cut_l7 {w : zW} (F : Nat) : ∀ (n : Nat) (V0 V1 V2 V3 V4 V5 V6 V7 : zV) (x1 : Int32) (res : zV), fX12_cut_l7 F n V7 x1 = some res → zR w kX12_cut 2 0 0 none (zE zds w [V0, V1, V2, V3, V4, V5, V6, res]) 7 [(0, .ref (w.1 + 88)), (1, .int x1)] [] (zE zds w [V0, V1, V2, V3, V4, V5, V6, V7]) := by
  intro n
  induction n with
  | zero =>
    intro V0 V1 V2 V3 V4 V5 V6 V7 x1 res h
    simp [fX12_cut_l7] at h
  | succ n ih =>
    intro V0 V1 V2 V3 V4 V5 V6 V7 x1 res h
    rw [fX12_cut_l7] at h
    refine zR_aload_n dX12_cut_7 0 rfl ?_
    refine zG_getI dX12_cut_8 zf_X12_243 zd_88 rfl rfl ?_
    refine zR_sipush (x := (1000 : Int32)) dX12_cut_11 rfl ?_
    by_cases c38 : (1000 : Int32) < (zI V7 0 10)
    · have h := zif_t h c38
      refine zR_icmp_gt_t (tgt := 307) dX12_cut_14 (by decide) c38 ?_
      have h := Option.some.inj h
      subst h
      exact zR_ret dX12_cut_307 rfl
    · have h := zif_f h c38
      refine zR_icmp_gt_f (tgt := 307) dX12_cut_14 (by decide) c38 ?_
      refine zR_aload_n dX12_cut_17 0 rfl ?_
      refine zR_iload_n dX12_cut_18 1 rfl ?_
      obtain ⟨q39, hq40, h⟩ := zbd_some h
      refine zR_cV (rest := []) (st1 := [.int q39]) dX12_cut_19 (mX12_at F V0 V1 V2 V3 V4 V5 V6 V7 x1 _ hq40) zc_X12_246 rfl (zE_at zd_88) ⟨_, _, rfl⟩ rfl (Nat.le_of_ble_eq_true rfl) (Nat.le_of_ble_eq_true rfl) rfl ?_
      refine zR_istore_n (lv' := [(0, .ref (w.1 + 88)), (1, .int x1), (2, .int q39)]) dX12_cut_22 (Nat.le_of_ble_eq_true rfl) rfl ?_
      refine zR_iload_n dX12_cut_23 1 rfl ?_
      refine zR_aload_n dX12_cut_24 0 rfl ?_
      refine zG_getI dX12_cut_25 zf_X12_230 zd_88 rfl rfl ?_
      by_cases c41 : x1 < (zI V7 0 4)
      · have h := zif_t h c41
        refine zR_icmp_lt_t (tgt := 43) dX12_cut_28 (by decide) c41 ?_
        refine zR_iload_n dX12_cut_43 2 rfl ?_
        refine zR_bipush (x := (9 : Int32)) dX12_cut_44 rfl ?_
        by_cases c42 : q39 = (9 : Int32)
        · have h := zif_t h c42
          refine zR_icmp_eq_t (tgt := 67) dX12_cut_46 (by decide) c42 ?_
          refine zR_sub (lv' := [(0, .ref (w.1 + 88)), (1, .int x1)]) [0, 1] rfl ?_
          exact wX12_cut_b67 F (fX12_cut_l7 F n) ih V0 V1 V2 V3 V4 V5 V6 V7 x1 _ h
        · have h := zif_f h c42
          refine zR_icmp_eq_f (tgt := 67) dX12_cut_46 (by decide) c42 ?_
          refine zR_iload_n dX12_cut_49 2 rfl ?_
          refine zR_bipush (x := (10 : Int32)) dX12_cut_50 rfl ?_
          by_cases c43 : q39 = (10 : Int32)
          · have h := zif_t h c43
            refine zR_icmp_eq_t (tgt := 67) dX12_cut_52 (by decide) c43 ?_
            refine zR_sub (lv' := [(0, .ref (w.1 + 88)), (1, .int x1)]) [0, 1] rfl ?_
            exact wX12_cut_b67 F (fX12_cut_l7 F n) ih V0 V1 V2 V3 V4 V5 V6 V7 x1 _ h
          · have h := zif_f h c43
            refine zR_icmp_eq_f (tgt := 67) dX12_cut_52 (by decide) c43 ?_
            refine zR_iload_n dX12_cut_55 2 rfl ?_
            refine zR_bipush (x := (13 : Int32)) dX12_cut_56 rfl ?_
            by_cases c44 : q39 = (13 : Int32)
            · have h := zif_t h c44
              refine zR_icmp_eq_t (tgt := 67) dX12_cut_58 (by decide) c44 ?_
              refine zR_sub (lv' := [(0, .ref (w.1 + 88)), (1, .int x1)]) [0, 1] rfl ?_
              exact wX12_cut_b67 F (fX12_cut_l7 F n) ih V0 V1 V2 V3 V4 V5 V6 V7 x1 _ h
            · have h := zif_f h c44
              refine zR_icmp_eq_f (tgt := 67) dX12_cut_58 (by decide) c44 ?_
              refine zR_iload_n dX12_cut_61 2 rfl ?_
              refine zR_bipush (x := (32 : Int32)) dX12_cut_62 rfl ?_
              by_cases c45 : q39 = (32 : Int32)
              · have h := zif_t h c45
                refine zR_icmp_ne_f (tgt := 73) dX12_cut_64 (by decide) c45 ?_
                refine zR_sub (lv' := [(0, .ref (w.1 + 88)), (1, .int x1)]) [0, 1] rfl ?_
                exact wX12_cut_b67 F (fX12_cut_l7 F n) ih V0 V1 V2 V3 V4 V5 V6 V7 x1 _ h
              · have h := zif_f h c45
                refine zR_icmp_ne_t (tgt := 73) dX12_cut_64 (by decide) c45 ?_
                refine zR_iload_n dX12_cut_73 2 rfl ?_
                obtain ⟨q46, hq47, h⟩ := zbd_some h
                refine zR_cS (rest := []) (st1 := [.int q46]) dX12_cut_74 (mX12_isLetter F (zE zds w [V0, V1, V2, V3, V4, V5, V6, V7]) q39 _ hq47) zc_X12_254 rfl rfl (Nat.le_of_ble_eq_true rfl) (Nat.le_of_ble_eq_true rfl) rfl ?_
                by_cases c48 : q46 = 0
                · have h := zif_t h c48
                  refine zR_if_eq_t (tgt := 209) dX12_cut_77 (by decide) c48 ?_
                  refine zR_iload_n dX12_cut_209 2 rfl ?_
                  obtain ⟨q49, hq50, h⟩ := zbd_some h
                  refine zR_cS (rest := []) (st1 := [.int q49]) dX12_cut_210 (mX12_isDigit F (zE zds w [V0, V1, V2, V3, V4, V5, V6, V7]) q39 _ hq50) zc_X12_235 rfl rfl (Nat.le_of_ble_eq_true rfl) (Nat.le_of_ble_eq_true rfl) rfl ?_
                  by_cases c51 : q49 = 0
                  · have h := zif_t h c51
                    refine zR_if_eq_t (tgt := 288) dX12_cut_213 (by decide) c51 ?_
                    refine zR_iload_n dX12_cut_288 1 rfl ?_
                    refine zR_aload_n dX12_cut_289 0 rfl ?_
                    refine zR_iload_n dX12_cut_290 1 rfl ?_
                    refine zR_iload_n dX12_cut_291 2 rfl ?_
                    refine zR_aload_n dX12_cut_292 0 rfl ?_
                    refine zR_iload_n dX12_cut_293 1 rfl ?_
                    refine zR_iconst (x := (1 : Int32)) dX12_cut_294 rfl ?_
                    refine zR_iadd dX12_cut_295 ?_
                    obtain ⟨q52, hq53, h⟩ := zbd_some h
                    refine zR_cV (rest := [.int q39, .int x1, .ref (w.1 + 88), .int x1]) (st1 := [.int q52, .int q39, .int x1, .ref (w.1 + 88), .int x1]) dX12_cut_296 (mX12_at F V0 V1 V2 V3 V4 V5 V6 V7 (x1 + (1 : Int32)) _ hq53) zc_X12_246 rfl (zE_at zd_88) ⟨_, _, rfl⟩ rfl (Nat.le_of_ble_eq_true rfl) (Nat.le_of_ble_eq_true rfl) rfl ?_
                    obtain ⟨q54, hq55, h⟩ := zbd_some h
                    refine zR_cV (rest := [.int x1]) (st1 := [.int q54.1, .int x1]) dX12_cut_299 (mX12_sign F V0 V1 V2 V3 V4 V5 V6 V7 x1 q39 q52 _ hq55) zc_X12_257 rfl (zE_at zd_88) ⟨_, _, rfl⟩ rfl (Nat.le_of_ble_eq_true rfl) (Nat.le_of_ble_eq_true rfl) rfl ?_
                    refine zR_iadd dX12_cut_302 ?_
                    refine zR_istore_n (lv' := [(0, .ref (w.1 + 88)), (1, .int (x1 + q54.1)), (2, .int q39)]) dX12_cut_303 (Nat.le_of_ble_eq_true rfl) rfl ?_
                    refine zR_sub (lv' := [(0, .ref (w.1 + 88)), (1, .int (x1 + q54.1))]) [0, 1] rfl ?_
                    exact wX12_cut_b304 F (fX12_cut_l7 F n) ih V0 V1 V2 V3 V4 V5 V6 q54.2 (x1 + q54.1) _ h
                  · have h := zif_f h c51
                    refine zR_if_eq_f (tgt := 288) dX12_cut_213 (by decide) c51 ?_
                    refine zR_iconst (x := (0 : Int32)) dX12_cut_216 rfl ?_
                    refine zR_istore_n (lv' := [(0, .ref (w.1 + 88)), (1, .int x1), (2, .int q39), (3, .int (0 : Int32))]) dX12_cut_217 (Nat.le_of_ble_eq_true rfl) rfl ?_
                    refine zR_iconst (x := (0 : Int32)) dX12_cut_218 rfl ?_
                    refine zR_istore (lv' := [(0, .ref (w.1 + 88)), (1, .int x1), (2, .int q39), (3, .int (0 : Int32)), (4, .int (0 : Int32))]) dX12_cut_219 (Nat.le_of_ble_eq_true rfl) rfl ?_
                    refine zR_sub (lv' := [(0, .ref (w.1 + 88)), (1, .int x1), (3, .int (0 : Int32)), (4, .int (0 : Int32))]) [0, 1, 3, 4] rfl ?_
                    exact wX12_cut_l221 F (fX12_cut_l7 F n) ih F V0 V1 V2 V3 V4 V5 V6 V7 x1 (0 : Int32) (0 : Int32) _ h
                · have h := zif_f h c48
                  refine zR_if_eq_f (tgt := 209) dX12_cut_77 (by decide) c48 ?_
                  refine zR_iconst (x := (0 : Int32)) dX12_cut_80 rfl ?_
                  refine zR_istore_n (lv' := [(0, .ref (w.1 + 88)), (1, .int x1), (2, .int q39), (3, .int (0 : Int32))]) dX12_cut_81 (Nat.le_of_ble_eq_true rfl) rfl ?_
                  refine zR_lconst (x := (0 : Int64)) dX12_cut_82 rfl ?_
                  refine zR_lstore (lv' := [(0, .ref (w.1 + 88)), (1, .int x1), (2, .int q39), (3, .int (0 : Int32)), (4, .long (0 : Int64))]) dX12_cut_83 (Nat.le_of_ble_eq_true rfl) rfl ?_
                  refine zR_sub (lv' := [(0, .ref (w.1 + 88)), (1, .int x1), (3, .int (0 : Int32)), (4, .long (0 : Int64))]) [0, 1, 3, 4] rfl ?_
                  exact wX12_cut_l85 F (fX12_cut_l7 F n) ih F V0 V1 V2 V3 V4 V5 V6 V7 x1 (0 : Int32) (0 : Int64) _ h
      · have h := zif_f h c41
        refine zR_icmp_lt_f (tgt := 43) dX12_cut_28 (by decide) c41 ?_
        refine zR_aload_n dX12_cut_31 0 rfl ?_
        refine zR_iconst (x := (0 : Int32)) dX12_cut_32 rfl ?_
        refine zR_aload_n dX12_cut_33 0 rfl ?_
        refine zG_getI dX12_cut_34 zf_X12_230 zd_88 rfl rfl ?_
        refine zR_iconst (x := (0 : Int32)) dX12_cut_37 rfl ?_
        refine zR_lconst (x := (0 : Int64)) dX12_cut_38 rfl ?_
        obtain ⟨q56, hq57, h⟩ := zbd_some h
        refine zR_cV (rest := []) (st1 := []) dX12_cut_39 (mX12_token F V0 V1 V2 V3 V4 V5 V6 V7 (0 : Int32) (zI V7 0 4) (0 : Int32) (0 : Int64) _ hq57) zc_X12_250 rfl (zE_at zd_88) ⟨_, _, rfl⟩ rfl (Nat.le_of_ble_eq_true rfl) (Nat.le_of_ble_eq_true rfl) rfl ?_
        have h := Option.some.inj h
        subst h
        exact zR_ret dX12_cut_42 rfl
set_option maxRecDepth 100000 in
set_option maxHeartbeats 4000000 in
theorem mX12_cut {w : zW} (F : Nat) (V0 V1 V2 V3 V4 V5 V6 V7 : zV) (res : zV) (h : fX12_cut F V7 = some res) : zMet w kX12_cut 2 0 0 [.ref (w.1 + 88)] (zE zds w [V0, V1, V2, V3, V4, V5, V6, V7]) none (zE zds w [V0, V1, V2, V3, V4, V5, V6, res]) := by
  refine zMet_of (by decide) (Nat.le_of_ble_eq_true rfl) (Nat.le_refl 0) fun _ => ?_
  show zR w kX12_cut 2 0 0 none (zE zds w [V0, V1, V2, V3, V4, V5, V6, res]) 0 [(0, .ref (w.1 + 88))] [] (zE zds w [V0, V1, V2, V3, V4, V5, V6, V7])
  unfold fX12_cut at h
  refine zR_aload_n dX12_cut_0 0 rfl ?_
  refine zR_iconst (x := (0 : Int32)) dX12_cut_1 rfl ?_
  obtain ⟨V7_58, e59, h⟩ := zlet_some h
  refine zG_putI zds_ok dX12_cut_2 zf_X12_243 zt_X12_10 zd_88 rfl rfl e59 rfl ?_
  refine zR_iconst (x := (0 : Int32)) dX12_cut_5 rfl ?_
  refine zR_istore_n (lv' := [(0, .ref (w.1 + 88)), (1, .int (0 : Int32))]) dX12_cut_6 (Nat.le_of_ble_eq_true rfl) rfl ?_
  exact wX12_cut_l7 F F V0 V1 V2 V3 V4 V5 V6 V7_58 (0 : Int32) _ h
