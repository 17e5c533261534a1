set_option maxRecDepth 100000 in
set_option maxHeartbeats 4000000 in
theorem wX11_putBytes_b42 {w : zW} (F : Nat) (k3 : zV → Int32 → Int32 → Option (zV)) (hk3 : ∀ (V0 V1 V2 V3 V4 V5 V6 V7 : zV) (x1 : Int32) (x2 : Int32) (res : zV), k3 V0 x1 x2 = some res → zR w kX11_putBytes 0 0 0 none (zE zds w [res, V1, V2, V3, V4, V5, V6, V7]) 3 [(0, .ref (w.1 + 0)), (1, .int x1), (2, .int x2)] [] (zE zds w [V0, V1, V2, V3, V4, V5, V6, V7])) (V0 V1 V2 V3 V4 V5 V6 V7 : zV) (x1 : Int32) (x2 : Int32) (res : zV) (h : fX11_putBytes_b42 F k3 V0 x1 x2 = some res) : zR w kX11_putBytes 0 0 0 none (zE zds w [res, V1, V2, V3, V4, V5, V6, V7]) 42 [(0, .ref (w.1 + 0)), (1, .int x1), (2, .int x2)] [] (zE zds w [V0, V1, V2, V3, V4, V5, V6, V7]) := by
  unfold fX11_putBytes_b42 at h
  refine zR_iinc (u := (x2 + (-8))) (lv' := [(0, .ref (w.1 + 0)), (1, .int x1), (2, .int (x2 + (-8)))]) dX11_putBytes_42 2 rfl (by rw [show Int32.ofInt (-8) = (-8 : Int32) from by decide]) (Nat.le_of_ble_eq_true rfl) rfl ?_
  refine zR_goto (tgt := 3) dX11_putBytes_45 (by decide) ?_
  exact hk3 V0 V1 V2 V3 V4 V5 V6 V7 x1 (x2 + (-8)) _ h
set_option maxRecDepth 100000 in
set_option maxHeartbeats 4000000 in
theorem wX11_putBytes_l3 {w : zW} (F : Nat) : ∀ (n : Nat) (V0 V1 V2 V3 V4 V5 V6 V7 : zV) (x1 : Int32) (x2 : Int32) (res : zV), fX11_putBytes_l3 F n V0 x1 x2 = some res → zR w kX11_putBytes 0 0 0 none (zE zds w [res, V1, V2, V3, V4, V5, V6, V7]) 3 [(0, .ref (w.1 + 0)), (1, .int x1), (2, .int x2)] [] (zE zds w [V0, V1, V2, V3, V4, V5, V6, V7]) := by
  intro n
  induction n with
  | zero =>
    intro V0 V1 V2 V3 V4 V5 V6 V7 x1 x2 res h
    simp [fX11_putBytes_l3] at h
  | succ n ih =>
    intro V0 V1 V2 V3 V4 V5 V6 V7 x1 x2 res h
    rw [fX11_putBytes_l3] at h
    refine zR_iload_n dX11_putBytes_3 2 rfl ?_
    by_cases c1 : x2 < 0
    · have h := zif_t h c1
      refine zR_if_lt_t (tgt := 48) dX11_putBytes_4 (by decide) c1 ?_
      have h := Option.some.inj h
      subst h
      exact zR_ret dX11_putBytes_48 rfl
    · have h := zif_f h c1
      refine zR_if_lt_f (tgt := 48) dX11_putBytes_4 (by decide) c1 ?_
      refine zR_aload_n dX11_putBytes_7 0 rfl ?_
      refine zG_getI dX11_putBytes_8 zf_X11_13 zd_0 rfl rfl ?_
      refine zR_aload_n dX11_putBytes_11 0 rfl ?_
      refine zG_getR dX11_putBytes_12 zf_X11_9 zd_0 rfl rfl ?_
      refine zG_alen (u := (4000 : Int32)) dX11_putBytes_15 zd_1 (Nat.le_of_ble_eq_true rfl) rfl rfl rfl ?_
      by_cases c2 : (4000 : Int32) ≤ (zI V0 0 1)
      · have h := zif_t h c2
        refine zR_icmp_ge_t (tgt := 42) dX11_putBytes_16 (by decide) c2 ?_
        exact wX11_putBytes_b42 F (fX11_putBytes_l3 F n) ih V0 V1 V2 V3 V4 V5 V6 V7 x1 x2 _ h
      · have h := zif_f h c2
        refine zR_icmp_ge_f (tgt := 42) dX11_putBytes_16 (by decide) c2 ?_
        refine zR_aload_n dX11_putBytes_19 0 rfl ?_
        refine zG_getR dX11_putBytes_20 zf_X11_9 zd_0 rfl rfl ?_
        refine zR_aload_n dX11_putBytes_23 0 rfl ?_
        refine zG_getI dX11_putBytes_24 zf_X11_13 zd_0 rfl rfl ?_
        refine zR_iload_n dX11_putBytes_27 1 rfl ?_
        refine zR_iload_n dX11_putBytes_28 2 rfl ?_
        refine zR_ishr dX11_putBytes_29 ?_
        refine zR_i2b dX11_putBytes_30 ?_
        obtain ⟨g3, h⟩ := zchk_some h
        obtain ⟨V0_4, e5, h⟩ := zlet_some h
        refine zG_bast zds_ok dX11_putBytes_31 zd_1 rfl rfl g3 e5 rfl ?_
        refine zR_aload_n dX11_putBytes_32 0 rfl ?_
        refine zR_dup dX11_putBytes_33 rfl ?_
        refine zG_getI dX11_putBytes_34 zf_X11_13 zd_0 rfl rfl ?_
        refine zR_iconst (x := (1 : Int32)) dX11_putBytes_37 rfl ?_
        refine zR_iadd dX11_putBytes_38 ?_
        obtain ⟨V0_6, e7, h⟩ := zlet_some h
        refine zG_putI zds_ok dX11_putBytes_39 zf_X11_13 zt_X11_1 zd_0 rfl rfl e7 rfl ?_
        exact wX11_putBytes_b42 F (fX11_putBytes_l3 F n) ih V0_6 V1 V2 V3 V4 V5 V6 V7 x1 x2 _ h
set_option maxRecDepth 100000 in
set_option maxHeartbeats 4000000 in
theorem mX11_putBytes {w : zW} (F : Nat) (V0 V1 V2 V3 V4 V5 V6 V7 : zV) (x1 : Int32) (res : zV) (h : fX11_putBytes F V0 x1 = some res) : zMet w kX11_putBytes 0 0 0 [.ref (w.1 + 0), .int x1] (zE zds w [V0, V1, V2, V3, V4, V5, V6, V7]) none (zE zds w [res, V1, V2, V3, V4, V5, V6, V7]) := by
  refine zMet_of (by decide) (Nat.le_of_ble_eq_true rfl) (Nat.le_refl 0) fun _ => ?_
  show zR w kX11_putBytes 0 0 0 none (zE zds w [res, V1, V2, V3, V4, V5, V6, V7]) 0 [(0, .ref (w.1 + 0)), (1, .int x1)] [] (zE zds w [V0, V1, V2, V3, V4, V5, V6, V7])
  unfold fX11_putBytes at h
  refine zR_bipush (x := (24 : Int32)) dX11_putBytes_0 rfl ?_
  refine zR_istore_n (lv' := [(0, .ref (w.1 + 0)), (1, .int x1), (2, .int (24 : Int32))]) dX11_putBytes_2 (Nat.le_of_ble_eq_true rfl) rfl ?_
  exact wX11_putBytes_l3 F F V0 V1 V2 V3 V4 V5 V6 V7 x1 (24 : Int32) _ h
set_option maxRecDepth 100000 in
set_option maxHeartbeats 4000000 in
theorem mX11_feed {w : zW} (F : Nat) (V0 V1 V2 V3 V4 V5 V6 V7 : zV) (x1 : Int32) (x2 : Int32) (x3 : Int32) (x4 : Int32) (x5 : Int32) (res : Int32 × zV) (h : fX11_feed F V0 x1 x2 x3 x4 x5 = some res) : zMet w kX11_feed 1 0 0 [.ref (w.1 + 0), .int x1, .int x2, .int x3, .int x4, .int x5] (zE zds w [V0, V1, V2, V3, V4, V5, V6, V7]) (some (.int res.1)) (zE zds w [res.2, V1, V2, V3, V4, V5, V6, V7]) := by
  refine zMet_of (by decide) (Nat.le_of_ble_eq_true rfl) (Nat.le_refl 0) fun _ => ?_
  show zR w kX11_feed 1 0 0 (some (.int res.1)) (zE zds w [res.2, V1, V2, V3, V4, V5, V6, V7]) 0 [(0, .ref (w.1 + 0)), (1, .int x1), (2, .int x2), (3, .int x3), (4, .int x4), (5, .int x5)] [] (zE zds w [V0, V1, V2, V3, V4, V5, V6, V7])
  unfold fX11_feed at h
  refine zR_aload_n dX11_feed_0 0 rfl ?_
  refine zG_getI dX11_feed_1 zf_X11_13 zd_0 rfl rfl ?_
  refine zR_bipush (x := (20 : Int32)) dX11_feed_4 rfl ?_
  refine zR_iadd dX11_feed_6 ?_
  refine zR_sipush (x := (4000 : Int32)) dX11_feed_7 rfl ?_
  by_cases c1 : ((zI V0 0 1) + (20 : Int32)) ≤ (4000 : Int32)
  · have h := zif_t h c1
    refine zR_icmp_le_t (tgt := 15) dX11_feed_10 (by decide) c1 ?_
    refine zR_aload_n dX11_feed_15 0 rfl ?_
    refine zR_iload_n dX11_feed_16 1 rfl ?_
    obtain ⟨q2, hq3, h⟩ := zbd_some h
    refine zR_cV (rest := []) (st1 := []) dX11_feed_17 (mX11_putBytes F V0 V1 V2 V3 V4 V5 V6 V7 x1 _ hq3) zc_X11_79 rfl (zE_at zd_0) ⟨_, _, rfl⟩ rfl (Nat.le_of_ble_eq_true rfl) (Nat.le_of_ble_eq_true rfl) rfl ?_
    refine zR_aload_n dX11_feed_20 0 rfl ?_
    refine zR_iload_n dX11_feed_21 2 rfl ?_
    obtain ⟨q4, hq5, h⟩ := zbd_some h
    refine zR_cV (rest := []) (st1 := []) dX11_feed_22 (mX11_putBytes F q2 V1 V2 V3 V4 V5 V6 V7 x2 _ hq5) zc_X11_79 rfl (zE_at zd_0) ⟨_, _, rfl⟩ rfl (Nat.le_of_ble_eq_true rfl) (Nat.le_of_ble_eq_true rfl) rfl ?_
    refine zR_aload_n dX11_feed_25 0 rfl ?_
    refine zR_iload_n dX11_feed_26 3 rfl ?_
    obtain ⟨q6, hq7, h⟩ := zbd_some h
    refine zR_cV (rest := []) (st1 := []) dX11_feed_27 (mX11_putBytes F q4 V1 V2 V3 V4 V5 V6 V7 x3 _ hq7) zc_X11_79 rfl (zE_at zd_0) ⟨_, _, rfl⟩ rfl (Nat.le_of_ble_eq_true rfl) (Nat.le_of_ble_eq_true rfl) rfl ?_
    refine zR_aload_n dX11_feed_30 0 rfl ?_
    refine zR_iload dX11_feed_31 4 rfl ?_
    obtain ⟨q8, hq9, h⟩ := zbd_some h
    refine zR_cV (rest := []) (st1 := []) dX11_feed_33 (mX11_putBytes F q6 V1 V2 V3 V4 V5 V6 V7 x4 _ hq9) zc_X11_79 rfl (zE_at zd_0) ⟨_, _, rfl⟩ rfl (Nat.le_of_ble_eq_true rfl) (Nat.le_of_ble_eq_true rfl) rfl ?_
    refine zR_aload_n dX11_feed_36 0 rfl ?_
    refine zR_iload dX11_feed_37 5 rfl ?_
    obtain ⟨q10, hq11, h⟩ := zbd_some h
    refine zR_cV (rest := []) (st1 := []) dX11_feed_39 (mX11_putBytes F q8 V1 V2 V3 V4 V5 V6 V7 x5 _ hq11) zc_X11_79 rfl (zE_at zd_0) ⟨_, _, rfl⟩ rfl (Nat.le_of_ble_eq_true rfl) (Nat.le_of_ble_eq_true rfl) rfl ?_
    refine zR_aload_n dX11_feed_42 0 rfl ?_
    refine zG_getI dX11_feed_43 zf_X11_13 zd_0 rfl rfl ?_
    have h := Option.some.inj h
    subst h
    exact zR_iret (x := (zI q10 0 1)) dX11_feed_46 rfl rfl
  · have h := zif_f h c1
    refine zR_icmp_le_f (tgt := 15) dX11_feed_10 (by decide) c1 ?_
    refine zR_iconst (x := (-1 : Int32)) dX11_feed_13 (by decide) ?_
    have h := Option.some.inj h
    subst h
    exact zR_iret (x := (-1 : Int32)) dX11_feed_14 rfl rfl
set_option maxRecDepth 100000 in
set_option maxHeartbeats 4000000 in
theorem mX11_back {w : zW} (F : Nat) (V0 V1 V2 V3 V4 V5 V6 V7 : zV) (x1 : Int32) (res : Int32 × zV) (h : fX11_back F V0 x1 = some res) : zMet w kX11_back 0 0 0 [.ref (w.1 + 0), .int x1] (zE zds w [V0, V1, V2, V3, V4, V5, V6, V7]) (some (.int res.1)) (zE zds w [res.2, V1, V2, V3, V4, V5, V6, V7]) := by
  refine zMet_of (by decide) (Nat.le_of_ble_eq_true rfl) (Nat.le_refl 0) fun _ => ?_
  show zR w kX11_back 0 0 0 (some (.int res.1)) (zE zds w [res.2, V1, V2, V3, V4, V5, V6, V7]) 0 [(0, .ref (w.1 + 0)), (1, .int x1)] [] (zE zds w [V0, V1, V2, V3, V4, V5, V6, V7])
  unfold fX11_back at h
  refine zR_iload_n dX11_back_0 1 rfl ?_
  by_cases c1 : x1 < 0
  · have h := zif_t h c1
    refine zR_if_lt_t (tgt := 12) dX11_back_1 (by decide) c1 ?_
    refine zR_iconst (x := (-1 : Int32)) dX11_back_12 (by decide) ?_
    have h := Option.some.inj h
    subst h
    exact zR_iret (x := (-1 : Int32)) dX11_back_13 rfl rfl
  · have h := zif_f h c1
    refine zR_if_lt_f (tgt := 12) dX11_back_1 (by decide) c1 ?_
    refine zR_iload_n dX11_back_4 1 rfl ?_
    refine zR_aload_n dX11_back_5 0 rfl ?_
    refine zG_getI dX11_back_6 zf_X11_13 zd_0 rfl rfl ?_
    by_cases c2 : x1 ≤ (zI V0 0 1)
    · have h := zif_t h c2
      refine zR_icmp_le_t (tgt := 14) dX11_back_9 (by decide) c2 ?_
      refine zR_aload_n dX11_back_14 0 rfl ?_
      refine zR_dup dX11_back_15 rfl ?_
      refine zG_getI dX11_back_16 zf_X11_13 zd_0 rfl rfl ?_
      refine zR_iload_n dX11_back_19 1 rfl ?_
      refine zR_isub dX11_back_20 ?_
      obtain ⟨V0_3, e4, h⟩ := zlet_some h
      refine zG_putI zds_ok dX11_back_21 zf_X11_13 zt_X11_1 zd_0 rfl rfl e4 rfl ?_
      refine zR_aload_n dX11_back_24 0 rfl ?_
      refine zG_getI dX11_back_25 zf_X11_13 zd_0 rfl rfl ?_
      have h := Option.some.inj h
      subst h
      exact zR_iret (x := (zI V0_3 0 1)) dX11_back_28 rfl rfl
    · have h := zif_f h c2
      refine zR_icmp_le_f (tgt := 14) dX11_back_9 (by decide) c2 ?_
      refine zR_iconst (x := (-1 : Int32)) dX11_back_12 (by decide) ?_
      have h := Option.some.inj h
      subst h
      exact zR_iret (x := (-1 : Int32)) dX11_back_13 rfl rfl
set_option maxRecDepth 100000 in
set_option maxHeartbeats 4000000 in
theorem wX10_isBlank_b24 {w : zW} (F : Nat) (S : zS) (res : Int32) (h : fX10_isBlank_b24 F  = some res) : zR w kX10_isBlank 0 0 0 (some (.int res)) S 24 [] [] S := by
  unfold fX10_isBlank_b24 at h
  refine zR_iconst (x := (1 : Int32)) dX10_isBlank_24 rfl ?_
  refine zR_goto (tgt := 29) dX10_isBlank_25 (by decide) ?_
  have h := Option.some.inj h
  subst h
  exact zR_iret (x := (1 : Int32)) dX10_isBlank_29 rfl znar1
set_option maxRecDepth 100000 in
set_option maxHeartbeats 4000000 in
theorem mX10_isBlank {w : zW} (F : Nat) (S : zS) (x0 : Int32) (res : Int32) (h : fX10_isBlank F x0 = some res) : zMet w kX10_isBlank 0 0 0 [.int x0] S (some (.int res)) S := by
  refine zMet_of (by decide) (Nat.le_of_ble_eq_true rfl) (Nat.le_refl 0) fun _ => ?_
  show zR w kX10_isBlank 0 0 0 (some (.int res)) S 0 [(0, .int x0)] [] S
  unfold fX10_isBlank at h
  refine zR_iload_n dX10_isBlank_0 0 rfl ?_
  refine zR_bipush (x := (9 : Int32)) dX10_isBlank_1 rfl ?_
  by_cases c1 : x0 = (9 : Int32)
  · have h := zif_t h c1
    refine zR_icmp_eq_t (tgt := 24) dX10_isBlank_3 (by decide) c1 ?_
    refine zR_sub (lv' := []) [] rfl ?_
    exact wX10_isBlank_b24 F S _ h
  · have h := zif_f h c1
    refine zR_icmp_eq_f (tgt := 24) dX10_isBlank_3 (by decide) c1 ?_
    refine zR_iload_n dX10_isBlank_6 0 rfl ?_
    refine zR_bipush (x := (10 : Int32)) dX10_isBlank_7 rfl ?_
    by_cases c2 : x0 = (10 : Int32)
    · have h := zif_t h c2
      refine zR_icmp_eq_t (tgt := 24) dX10_isBlank_9 (by decide) c2 ?_
      refine zR_sub (lv' := []) [] rfl ?_
      exact wX10_isBlank_b24 F S _ h
    · have h := zif_f h c2
      refine zR_icmp_eq_f (tgt := 24) dX10_isBlank_9 (by decide) c2 ?_
      refine zR_iload_n dX10_isBlank_12 0 rfl ?_
      refine zR_bipush (x := (13 : Int32)) dX10_isBlank_13 rfl ?_
      by_cases c3 : x0 = (13 : Int32)
      · have h := zif_t h c3
        refine zR_icmp_eq_t (tgt := 24) dX10_isBlank_15 (by decide) c3 ?_
        refine zR_sub (lv' := []) [] rfl ?_
        exact wX10_isBlank_b24 F S _ h
      · have h := zif_f h c3
        refine zR_icmp_eq_f (tgt := 24) dX10_isBlank_15 (by decide) c3 ?_
        refine zR_iload_n dX10_isBlank_18 0 rfl ?_
        refine zR_bipush (x := (32 : Int32)) dX10_isBlank_19 rfl ?_
        by_cases c4 : x0 = (32 : Int32)
        · have h := zif_t h c4
          refine zR_icmp_ne_f (tgt := 28) dX10_isBlank_21 (by decide) c4 ?_
          refine zR_sub (lv' := []) [] rfl ?_
          exact wX10_isBlank_b24 F S _ h
        · have h := zif_f h c4
          refine zR_icmp_ne_t (tgt := 28) dX10_isBlank_21 (by decide) c4 ?_
          refine zR_iconst (x := (0 : Int32)) dX10_isBlank_28 rfl ?_
          have h := Option.some.inj h
          subst h
          exact zR_iret (x := (0 : Int32)) dX10_isBlank_29 rfl znar0
set_option maxRecDepth 100000 in
set_option maxHeartbeats 4000000 in
theorem wX10_behindBlanks_b22 {w : zW} (F : Nat) (V0 V1 V2 V3 V4 V5 V6 V7 : zV) (x3 : Int32) (res : Int32) (h : fX10_behindBlanks_b22 F V0 x3 = some res) : zR w kX10_behindBlanks 1 0 0 (some (.int res)) (zE zds w [V0, V1, V2, V3, V4, V5, V6, V7]) 22 [(3, .int x3)] [] (zE zds w [V0, V1, V2, V3, V4, V5, V6, V7]) := by
  unfold fX10_behindBlanks_b22 at h
  refine zR_iload_n dX10_behindBlanks_22 0 rfl ?_
  have h := Option.some.inj h
  subst h
  exact zR_iret (x := x3) dX10_behindBlanks_23 rfl rfl
set_option maxRecDepth 100000 in
set_option maxHeartbeats 4000000 in
theorem wX10_behindBlanks_l2 {w : zW} (F : Nat) : ∀ (n : Nat) (V0 V1 V2 V3 V4 V5 V6 V7 : zV) (x2 : Int32) (x3 : Int32) (res : Int32), fX10_behindBlanks_l2 F n V0 x2 x3 = some res → zR w kX10_behindBlanks 1 0 0 (some (.int res)) (zE zds w [V0, V1, V2, V3, V4, V5, V6, V7]) 2 [(0, .ref (w.1 + 1)), (2, .int x2), (3, .int x3)] [] (zE zds w [V0, V1, V2, V3, V4, V5, V6, V7]) := by
  intro n
  induction n with
  | zero =>
    intro V0 V1 V2 V3 V4 V5 V6 V7 x2 x3 res h
    simp [fX10_behindBlanks_l2] at h
  | succ n ih =>
    intro V0 V1 V2 V3 V4 V5 V6 V7 x2 x3 res h
    rw [fX10_behindBlanks_l2] at h
    refine zR_iload_n dX10_behindBlanks_2 2 rfl ?_
    refine zR_iload_n dX10_behindBlanks_3 1 rfl ?_
    by_cases c1 : x2 ≤ x3
    · have h := zif_t h c1
      refine zR_icmp_ge_t (tgt := 22) dX10_behindBlanks_4 (by decide) c1 ?_
      refine zR_sub (lv' := [(3, .int x3)]) [2] rfl ?_
      exact wX10_behindBlanks_b22 F V0 V1 V2 V3 V4 V5 V6 V7 x3 _ h
    · have h := zif_f h c1
      refine zR_icmp_ge_f (tgt := 22) dX10_behindBlanks_4 (by decide) c1 ?_
      refine zR_aload_n dX10_behindBlanks_7 0 rfl ?_
      refine zR_iload_n dX10_behindBlanks_8 2 rfl ?_
      obtain ⟨g2, h⟩ := zchk_some h
      refine zG_bald dX10_behindBlanks_9 zd_1 rfl rfl g2 ?_
      obtain ⟨q3, hq4, h⟩ := zbd_some h
      refine zR_cS (rest := []) (st1 := [.int q3]) dX10_behindBlanks_10 (mX10_isBlank F (zE zds w [V0, V1, V2, V3, V4, V5, V6, V7]) (zA V0 1 (x3).toNatClampNeg) _ hq4) zc_X10_68 rfl rfl (Nat.le_of_ble_eq_true rfl) (Nat.le_of_ble_eq_true rfl) rfl ?_
      by_cases c5 : q3 = 0
      · have h := zif_t h c5
        refine zR_if_eq_t (tgt := 22) dX10_behindBlanks_13 (by decide) c5 ?_
        refine zR_sub (lv' := [(3, .int x3)]) [2] rfl ?_
        exact wX10_behindBlanks_b22 F V0 V1 V2 V3 V4 V5 V6 V7 x3 _ h
      · have h := zif_f h c5
        refine zR_if_eq_f (tgt := 22) dX10_behindBlanks_13 (by decide) c5 ?_
        refine zR_iinc (u := (x3 + 1)) (lv' := [(0, .ref (w.1 + 1)), (2, .int x2), (3, .int (x3 + 1))]) dX10_behindBlanks_16 2 rfl rfl (Nat.le_of_ble_eq_true rfl) rfl ?_
        refine zR_goto (tgt := 2) dX10_behindBlanks_19 (by decide) ?_
        exact ih V0 V1 V2 V3 V4 V5 V6 V7 x2 (x3 + 1) _ h
set_option maxRecDepth 100000 in
set_option maxHeartbeats 4000000 in
theorem mX10_behindBlanks {w : zW} (F : Nat) (V0 V1 V2 V3 V4 V5 V6 V7 : zV) (x1 : Int32) (x2 : Int32) (res : Int32) (h : fX10_behindBlanks F V0 x1 x2 = some res) : zMet w kX10_behindBlanks 1 0 0 [.ref (w.1 + 1), .int x1, .int x2] (zE zds w [V0, V1, V2, V3, V4, V5, V6, V7]) (some (.int res)) (zE zds w [V0, V1, V2, V3, V4, V5, V6, V7]) := by
  refine zMet_of (by decide) (Nat.le_of_ble_eq_true rfl) (Nat.le_refl 0) fun _ => ?_
  show zR w kX10_behindBlanks 1 0 0 (some (.int res)) (zE zds w [V0, V1, V2, V3, V4, V5, V6, V7]) 0 [(0, .ref (w.1 + 1)), (1, .int x1), (2, .int x2)] [] (zE zds w [V0, V1, V2, V3, V4, V5, V6, V7])
  unfold fX10_behindBlanks at h
  refine zR_iload_n dX10_behindBlanks_0 1 rfl ?_
  refine zR_istore_n (lv' := [(0, .ref (w.1 + 1)), (1, .int x1), (2, .int x2), (3, .int x1)]) dX10_behindBlanks_1 (Nat.le_of_ble_eq_true rfl) rfl ?_
  refine zR_sub (lv' := [(0, .ref (w.1 + 1)), (2, .int x2), (3, .int x1)]) [0, 2, 3] rfl ?_
  exact wX10_behindBlanks_l2 F F V0 V1 V2 V3 V4 V5 V6 V7 x2 x1 _ h
set_option maxRecDepth 100000 in
set_option maxHeartbeats 4000000 in
theorem mX10_isLetter {w : zW} (F : Nat) (S : zS) (x0 : Int32) (res : Int32) (h : fX10_isLetter F x0 = some res) : zMet w kX10_isLetter 0 0 0 [.int x0] S (some (.int res)) S := by
  refine zMet_of (by decide) (Nat.le_of_ble_eq_true rfl) (Nat.le_refl 0) fun _ => ?_
  show zR w kX10_isLetter 0 0 0 (some (.int res)) S 0 [(0, .int x0)] [] S
  unfold fX10_isLetter at h
  refine zR_iload_n dX10_isLetter_0 0 rfl ?_
  refine zR_bipush (x := (97 : Int32)) dX10_isLetter_1 rfl ?_
  by_cases c1 : x0 < (97 : Int32)
  · have h := zif_t h c1
    refine zR_icmp_lt_t (tgt := 16) dX10_isLetter_3 (by decide) c1 ?_
    refine zR_iconst (x := (0 : Int32)) dX10_isLetter_16 rfl ?_
    have h := Option.some.inj h
    subst h
    exact zR_iret (x := (0 : Int32)) dX10_isLetter_17 rfl znar0
  · have h := zif_f h c1
    refine zR_icmp_lt_f (tgt := 16) dX10_isLetter_3 (by decide) c1 ?_
    refine zR_iload_n dX10_isLetter_6 0 rfl ?_
    refine zR_bipush (x := (122 : Int32)) dX10_isLetter_7 rfl ?_
    by_cases c2 : (122 : Int32) < x0
    · have h := zif_t h c2
      refine zR_icmp_gt_t (tgt := 16) dX10_isLetter_9 (by decide) c2 ?_
      refine zR_iconst (x := (0 : Int32)) dX10_isLetter_16 rfl ?_
      have h := Option.some.inj h
      subst h
      exact zR_iret (x := (0 : Int32)) dX10_isLetter_17 rfl znar0
    · have h := zif_f h c2
      refine zR_icmp_gt_f (tgt := 16) dX10_isLetter_9 (by decide) c2 ?_
      refine zR_iconst (x := (1 : Int32)) dX10_isLetter_12 rfl ?_
      refine zR_goto (tgt := 17) dX10_isLetter_13 (by decide) ?_
      have h := Option.some.inj h
      subst h
      exact zR_iret (x := (1 : Int32)) dX10_isLetter_17 rfl znar1
set_option maxRecDepth 100000 in
set_option maxHeartbeats 4000000 in
theorem mX10_isDigit {w : zW} (F : Nat) (S : zS) (x0 : Int32) (res : Int32) (h : fX10_isDigit F x0 = some res) : zMet w kX10_isDigit 0 0 0 [.int x0] S (some (.int res)) S := by
  refine zMet_of (by decide) (Nat.le_of_ble_eq_true rfl) (Nat.le_refl 0) fun _ => ?_
  show zR w kX10_isDigit 0 0 0 (some (.int res)) S 0 [(0, .int x0)] [] S
  unfold fX10_isDigit at h
  refine zR_iload_n dX10_isDigit_0 0 rfl ?_
  refine zR_bipush (x := (48 : Int32)) dX10_isDigit_1 rfl ?_
  by_cases c1 : x0 < (48 : Int32)
  · have h := zif_t h c1
    refine zR_icmp_lt_t (tgt := 16) dX10_isDigit_3 (by decide) c1 ?_
    refine zR_iconst (x := (0 : Int32)) dX10_isDigit_16 rfl ?_
    have h := Option.some.inj h
    subst h
    exact zR_iret (x := (0 : Int32)) dX10_isDigit_17 rfl znar0
  · have h := zif_f h c1
    refine zR_icmp_lt_f (tgt := 16) dX10_isDigit_3 (by decide) c1 ?_
    refine zR_iload_n dX10_isDigit_6 0 rfl ?_
    refine zR_bipush (x := (57 : Int32)) dX10_isDigit_7 rfl ?_
    by_cases c2 : (57 : Int32) < x0
    · have h := zif_t h c2
      refine zR_icmp_gt_t (tgt := 16) dX10_isDigit_9 (by decide) c2 ?_
      refine zR_iconst (x := (0 : Int32)) dX10_isDigit_16 rfl ?_
      have h := Option.some.inj h
      subst h
      exact zR_iret (x := (0 : Int32)) dX10_isDigit_17 rfl znar0
    · have h := zif_f h c2
      refine zR_icmp_gt_f (tgt := 16) dX10_isDigit_9 (by decide) c2 ?_
      refine zR_iconst (x := (1 : Int32)) dX10_isDigit_12 rfl ?_
      refine zR_goto (tgt := 17) dX10_isDigit_13 (by decide) ?_
      have h := Option.some.inj h
      subst h
      exact zR_iret (x := (1 : Int32)) dX10_isDigit_17 rfl znar1
set_option maxRecDepth 100000 in
set_option maxHeartbeats 4000000 in
theorem wX10_tokenEnd_b124 {w : zW} (F : Nat) (V0 V1 V2 V3 V4 V5 V6 V7 : zV) (x4 : Int32) (res : Int32) (h : fX10_tokenEnd_b124 F V0 x4 = some res) : zR w kX10_tokenEnd 1 0 0 (some (.int res)) (zE zds w [V0, V1, V2, V3, V4, V5, V6, V7]) 124 [(4, .int x4)] [] (zE zds w [V0, V1, V2, V3, V4, V5, V6, V7]) := by
  unfold fX10_tokenEnd_b124 at h
  refine zR_iload dX10_tokenEnd_124 0 rfl ?_
  have h := Option.some.inj h
  subst h
  exact zR_iret (x := x4) dX10_tokenEnd_126 rfl rfl
set_option maxRecDepth 100000 in
set_option maxHeartbeats 4000000 in
theorem wX10_tokenEnd_b106 {w : zW} (F : Nat) (V0 V1 V2 V3 V4 V5 V6 V7 : zV) (x2 : Int32) (x4 : Int32) (res : Int32) (h : fX10_tokenEnd_b106 F V0 x2 x4 = some res) : zR w kX10_tokenEnd 1 0 0 (some (.int res)) (zE zds w [V0, V1, V2, V3, V4, V5, V6, V7]) 106 [(0, .ref (w.1 + 1)), (2, .int x2), (4, .int x4)] [] (zE zds w [V0, V1, V2, V3, V4, V5, V6, V7]) := by
  unfold fX10_tokenEnd_b106 at h
  refine zR_iload dX10_tokenEnd_106 2 rfl ?_
  refine zR_iload_n dX10_tokenEnd_108 1 rfl ?_
  by_cases c1 : x2 ≤ x4
  · have h := zif_t h c1
    refine zR_icmp_ge_t (tgt := 124) dX10_tokenEnd_109 (by decide) c1 ?_
    refine zR_sub (lv' := [(4, .int x4)]) [2] rfl ?_
    exact wX10_tokenEnd_b124 F V0 V1 V2 V3 V4 V5 V6 V7 x4 _ h
  · have h := zif_f h c1
    refine zR_icmp_ge_f (tgt := 124) dX10_tokenEnd_109 (by decide) c1 ?_
    refine zR_aload_n dX10_tokenEnd_112 0 rfl ?_
    refine zR_iload dX10_tokenEnd_113 2 rfl ?_
    obtain ⟨g2, h⟩ := zchk_some h
    refine zG_bald dX10_tokenEnd_115 zd_1 rfl rfl g2 ?_
    refine zR_bipush (x := (61 : Int32)) dX10_tokenEnd_116 rfl ?_
    by_cases c3 : (zA V0 1 (x4).toNatClampNeg) = (61 : Int32)
    · have h := zif_t h c3
      refine zR_icmp_ne_f (tgt := 124) dX10_tokenEnd_118 (by decide) c3 ?_
      refine zR_iinc (u := (x4 + 1)) (lv' := [(0, .ref (w.1 + 1)), (2, .int x2), (4, .int (x4 + 1))]) dX10_tokenEnd_121 2 rfl rfl (Nat.le_of_ble_eq_true rfl) rfl ?_
      refine zR_sub (lv' := [(4, .int (x4 + 1))]) [2] rfl ?_
      exact wX10_tokenEnd_b124 F V0 V1 V2 V3 V4 V5 V6 V7 (x4 + 1) _ h
    · have h := zif_f h c3
      refine zR_icmp_ne_t (tgt := 124) dX10_tokenEnd_118 (by decide) c3 ?_
      refine zR_sub (lv' := [(4, .int x4)]) [2] rfl ?_
      exact wX10_tokenEnd_b124 F V0 V1 V2 V3 V4 V5 V6 V7 x4 _ h
set_option maxRecDepth 100000 in
set_option maxHeartbeats 4000000 in
theorem wX10_tokenEnd_l66 {w : zW} (F : Nat) : ∀ (n : Nat) (V0 V1 V2 V3 V4 V5 V6 V7 : zV) (x2 : Int32) (x4 : Int32) (res : Int32), fX10_tokenEnd_l66 F n V0 x2 x4 = some res → zR w kX10_tokenEnd 1 0 0 (some (.int res)) (zE zds w [V0, V1, V2, V3, V4, V5, V6, V7]) 66 [(0, .ref (w.1 + 1)), (2, .int x2), (4, .int x4)] [] (zE zds w [V0, V1, V2, V3, V4, V5, V6, V7]) := by
  intro n
  induction n with
  | zero =>
    intro V0 V1 V2 V3 V4 V5 V6 V7 x2 x4 res h
    simp [fX10_tokenEnd_l66] at h
  | succ n ih =>
    intro V0 V1 V2 V3 V4 V5 V6 V7 x2 x4 res h
    rw [fX10_tokenEnd_l66] at h
    refine zR_iload dX10_tokenEnd_66 2 rfl ?_
    refine zR_iload_n dX10_tokenEnd_68 1 rfl ?_
    by_cases c4 : x2 ≤ x4
    · have h := zif_t h c4
      refine zR_icmp_ge_t (tgt := 124) dX10_tokenEnd_69 (by decide) c4 ?_
      refine zR_sub (lv' := [(4, .int x4)]) [2] rfl ?_
      exact wX10_tokenEnd_b124 F V0 V1 V2 V3 V4 V5 V6 V7 x4 _ h
    · have h := zif_f h c4
      refine zR_icmp_ge_f (tgt := 124) dX10_tokenEnd_69 (by decide) c4 ?_
      refine zR_aload_n dX10_tokenEnd_72 0 rfl ?_
      refine zR_iload dX10_tokenEnd_73 2 rfl ?_
      obtain ⟨g5, h⟩ := zchk_some h
      refine zG_bald dX10_tokenEnd_75 zd_1 rfl rfl g5 ?_
      obtain ⟨q6, hq7, h⟩ := zbd_some h
      refine zR_cS (rest := []) (st1 := [.int q6]) dX10_tokenEnd_76 (mX10_isDigit F (zE zds w [V0, V1, V2, V3, V4, V5, V6, V7]) (zA V0 1 (x4).toNatClampNeg) _ hq7) zc_X10_75 rfl rfl (Nat.le_of_ble_eq_true rfl) (Nat.le_of_ble_eq_true rfl) rfl ?_
      by_cases c8 : q6 = 0
      · have h := zif_t h c8
        refine zR_if_eq_t (tgt := 124) dX10_tokenEnd_79 (by decide) c8 ?_
        refine zR_sub (lv' := [(4, .int x4)]) [2] rfl ?_
        exact wX10_tokenEnd_b124 F V0 V1 V2 V3 V4 V5 V6 V7 x4 _ h
      · have h := zif_f h c8
        refine zR_if_eq_f (tgt := 124) dX10_tokenEnd_79 (by decide) c8 ?_
        refine zR_iinc (u := (x4 + 1)) (lv' := [(0, .ref (w.1 + 1)), (2, .int x2), (4, .int (x4 + 1))]) dX10_tokenEnd_82 2 rfl rfl (Nat.le_of_ble_eq_true rfl) rfl ?_
        refine zR_goto (tgt := 66) dX10_tokenEnd_85 (by decide) ?_
        exact ih V0 V1 V2 V3 V4 V5 V6 V7 x2 (x4 + 1) _ h
set_option maxRecDepth 100000 in
set_option maxHeartbeats 4000000 in
theorem wX10_tokenEnd_b53 {w : zW} (F : Nat) (k27 : zV → Int32 → Int32 → Option (Int32)) (hk27 : ∀ (V0 V1 V2 V3 V4 V5 V6 V7 : zV) (x2 : Int32) (x4 : Int32) (res : Int32), k27 V0 x2 x4 = some res → zR w kX10_tokenEnd 1 0 0 (some (.int res)) (zE zds w [V0, V1, V2, V3, V4, V5, V6, V7]) 27 [(0, .ref (w.1 + 1)), (2, .int x2), (4, .int x4)] [] (zE zds w [V0, V1, V2, V3, V4, V5, V6, V7])) (V0 V1 V2 V3 V4 V5 V6 V7 : zV) (x2 : Int32) (x4 : Int32) (res : Int32) (h : fX10_tokenEnd_b53 F k27 V0 x2 x4 = some res) : zR w kX10_tokenEnd 1 0 0 (some (.int res)) (zE zds w [V0, V1, V2, V3, V4, V5, V6, V7]) 53 [(0, .ref (w.1 + 1)), (2, .int x2), (4, .int x4)] [] (zE zds w [V0, V1, V2, V3, V4, V5, V6, V7]) := by
  unfold fX10_tokenEnd_b53 at h
  refine zR_iinc (u := (x4 + 1)) (lv' := [(0, .ref (w.1 + 1)), (2, .int x2), (4, .int (x4 + 1))]) dX10_tokenEnd_53 2 rfl rfl (Nat.le_of_ble_eq_true rfl) rfl ?_
  refine zR_goto (tgt := 27) dX10_tokenEnd_56 (by decide) ?_
  exact hk27 V0 V1 V2 V3 V4 V5 V6 V7 x2 (x4 + 1) _ h
set_option maxRecDepth 100000 in
set_option maxHeartbeats 4000000 in
theorem wX10_tokenEnd_l27 {w : zW} (F : Nat) : ∀ (n : Nat) (V0 V1 V2 V3 V4 V5 V6 V7 : zV) (x2 : Int32) (x4 : Int32) (res : Int32), fX10_tokenEnd_l27 F n V0 x2 x4 = some res → zR w kX10_tokenEnd 1 0 0 (some (.int res)) (zE zds w [V0, V1, V2, V3, V4, V5, V6, V7]) 27 [(0, .ref (w.1 + 1)), (2, .int x2), (4, .int x4)] [] (zE zds w [V0, V1, V2, V3, V4, V5, V6, V7]) := by
  intro n
  induction n with
  | zero =>
    intro V0 V1 V2 V3 V4 V5 V6 V7 x2 x4 res h
    simp [fX10_tokenEnd_l27] at h
  | succ n ih =>
    intro V0 V1 V2 V3 V4 V5 V6 V7 x2 x4 res h
    rw [fX10_tokenEnd_l27] at h
    refine zR_iload dX10_tokenEnd_27 2 rfl ?_
    refine zR_iload_n dX10_tokenEnd_29 1 rfl ?_
    by_cases c9 : x2 ≤ x4
    · have h := zif_t h c9
      refine zR_icmp_ge_t (tgt := 124) dX10_tokenEnd_30 (by decide) c9 ?_
      refine zR_sub (lv' := [(4, .int x4)]) [2] rfl ?_
      exact wX10_tokenEnd_b124 F V0 V1 V2 V3 V4 V5 V6 V7 x4 _ h
    · have h := zif_f h c9
      refine zR_icmp_ge_f (tgt := 124) dX10_tokenEnd_30 (by decide) c9 ?_
      refine zR_aload_n dX10_tokenEnd_33 0 rfl ?_
      refine zR_iload dX10_tokenEnd_34 2 rfl ?_
      obtain ⟨g10, h⟩ := zchk_some h
      refine zG_bald dX10_tokenEnd_36 zd_1 rfl rfl g10 ?_
      obtain ⟨q11, hq12, h⟩ := zbd_some h
      refine zR_cS (rest := []) (st1 := [.int q11]) dX10_tokenEnd_37 (mX10_isLetter F (zE zds w [V0, V1, V2, V3, V4, V5, V6, V7]) (zA V0 1 (x4).toNatClampNeg) _ hq12) zc_X10_72 rfl rfl (Nat.le_of_ble_eq_true rfl) (Nat.le_of_ble_eq_true rfl) rfl ?_
      by_cases c13 : q11 = 0
      · have h := zif_t h c13
        refine zR_if_ne_f (tgt := 53) dX10_tokenEnd_40 (by decide) c13 ?_
        refine zR_aload_n dX10_tokenEnd_43 0 rfl ?_
        refine zR_iload dX10_tokenEnd_44 2 rfl ?_
        obtain ⟨g14, h⟩ := zchk_some h
        refine zG_bald dX10_tokenEnd_46 zd_1 rfl rfl g14 ?_
        obtain ⟨q15, hq16, h⟩ := zbd_some h
        refine zR_cS (rest := []) (st1 := [.int q15]) dX10_tokenEnd_47 (mX10_isDigit F (zE zds w [V0, V1, V2, V3, V4, V5, V6, V7]) (zA V0 1 (x4).toNatClampNeg) _ hq16) zc_X10_75 rfl rfl (Nat.le_of_ble_eq_true rfl) (Nat.le_of_ble_eq_true rfl) rfl ?_
        by_cases c17 : q15 = 0
        · have h := zif_t h c17
          refine zR_if_eq_t (tgt := 124) dX10_tokenEnd_50 (by decide) c17 ?_
          refine zR_sub (lv' := [(4, .int x4)]) [2] rfl ?_
          exact wX10_tokenEnd_b124 F V0 V1 V2 V3 V4 V5 V6 V7 x4 _ h
        · have h := zif_f h c17
          refine zR_if_eq_f (tgt := 124) dX10_tokenEnd_50 (by decide) c17 ?_
          exact wX10_tokenEnd_b53 F (fX10_tokenEnd_l27 F n) ih V0 V1 V2 V3 V4 V5 V6 V7 x2 x4 _ h
      · have h := zif_f h c13
        refine zR_if_ne_t (tgt := 53) dX10_tokenEnd_40 (by decide) c13 ?_
        exact wX10_tokenEnd_b53 F (fX10_tokenEnd_l27 F n) ih V0 V1 V2 V3 V4 V5 V6 V7 x2 x4 _ h
set_option maxRecDepth 100000 in
set_option maxHeartbeats 4000000 in
theorem wX10_tokenEnd_b9 {w : zW} (F : Nat) (V0 V1 V2 V3 V4 V5 V6 V7 : zV) (x2 : Int32) (res : Int32) (h : fX10_tokenEnd_b9 F V0 x2 = some res) : zR w kX10_tokenEnd 1 0 0 (some (.int res)) (zE zds w [V0, V1, V2, V3, V4, V5, V6, V7]) 9 [(2, .int x2)] [] (zE zds w [V0, V1, V2, V3, V4, V5, V6, V7]) := by
  unfold fX10_tokenEnd_b9 at h
  refine zR_iload_n dX10_tokenEnd_9 0 rfl ?_
  have h := Option.some.inj h
  subst h
  exact zR_iret (x := x2) dX10_tokenEnd_10 rfl rfl
set_option maxRecDepth 100000 in
set_option maxHeartbeats 4000000 in
theorem mX10_tokenEnd {w : zW} (F : Nat) (V0 V1 V2 V3 V4 V5 V6 V7 : zV) (x1 : Int32) (x2 : Int32) (res : Int32) (h : fX10_tokenEnd F V0 x1 x2 = some res) : zMet w kX10_tokenEnd 1 0 0 [.ref (w.1 + 1), .int x1, .int x2] (zE zds w [V0, V1, V2, V3, V4, V5, V6, V7]) (some (.int res)) (zE zds w [V0, V1, V2, V3, V4, V5, V6, V7]) := by
  refine zMet_of (by decide) (Nat.le_of_ble_eq_true rfl) (Nat.le_refl 0) fun _ => ?_
  show zR w kX10_tokenEnd 1 0 0 (some (.int res)) (zE zds w [V0, V1, V2, V3, V4, V5, V6, V7]) 0 [(0, .ref (w.1 + 1)), (1, .int x1), (2, .int x2)] [] (zE zds w [V0, V1, V2, V3, V4, V5, V6, V7])
  unfold fX10_tokenEnd at h
  refine zR_iload_n dX10_tokenEnd_0 1 rfl ?_
  by_cases c18 : x1 < 0
  · have h := zif_t h c18
    refine zR_if_lt_t (tgt := 9) dX10_tokenEnd_1 (by decide) c18 ?_
    refine zR_sub (lv' := [(2, .int x2)]) [2] rfl ?_
    exact wX10_tokenEnd_b9 F V0 V1 V2 V3 V4 V5 V6 V7 x2 _ h
  · have h := zif_f h c18
    refine zR_if_lt_f (tgt := 9) dX10_tokenEnd_1 (by decide) c18 ?_
    refine zR_iload_n dX10_tokenEnd_4 1 rfl ?_
    refine zR_iload_n dX10_tokenEnd_5 2 rfl ?_
    by_cases c19 : x1 < x2
    · have h := zif_t h c19
      refine zR_icmp_lt_t (tgt := 11) dX10_tokenEnd_6 (by decide) c19 ?_
      refine zR_aload_n dX10_tokenEnd_11 0 rfl ?_
      refine zR_iload_n dX10_tokenEnd_12 1 rfl ?_
      obtain ⟨g20, h⟩ := zchk_some h
      refine zG_bald dX10_tokenEnd_13 zd_1 rfl rfl g20 ?_
      obtain ⟨y21, e22, h⟩ := zlet_some h
      refine zR_nmI e22 ?_
      refine zR_istore_n (lv' := [(0, .ref (w.1 + 1)), (1, .int x1), (2, .int x2), (3, .int y21)]) dX10_tokenEnd_14 (Nat.le_of_ble_eq_true rfl) rfl ?_
      refine zR_iload_n dX10_tokenEnd_15 1 rfl ?_
      refine zR_iconst (x := (1 : Int32)) dX10_tokenEnd_16 rfl ?_
      refine zR_iadd dX10_tokenEnd_17 ?_
      refine zR_istore (lv' := [(0, .ref (w.1 + 1)), (1, .int x1), (2, .int x2), (3, .int y21), (4, .int (x1 + (1 : Int32)))]) dX10_tokenEnd_18 (Nat.le_of_ble_eq_true rfl) rfl ?_
      refine zR_iload_n dX10_tokenEnd_20 3 rfl ?_
      obtain ⟨q23, hq24, h⟩ := zbd_some h
      refine zR_cS (rest := []) (st1 := [.int q23]) dX10_tokenEnd_21 (mX10_isLetter F (zE zds w [V0, V1, V2, V3, V4, V5, V6, V7]) y21 _ hq24) zc_X10_72 rfl rfl (Nat.le_of_ble_eq_true rfl) (Nat.le_of_ble_eq_true rfl) rfl ?_
      by_cases c25 : q23 = 0
      · have h := zif_t h c25
        refine zR_if_eq_t (tgt := 59) dX10_tokenEnd_24 (by decide) c25 ?_
        refine zR_iload_n dX10_tokenEnd_59 3 rfl ?_
        obtain ⟨q26, hq27, h⟩ := zbd_some h
        refine zR_cS (rest := []) (st1 := [.int q26]) dX10_tokenEnd_60 (mX10_isDigit F (zE zds w [V0, V1, V2, V3, V4, V5, V6, V7]) y21 _ hq27) zc_X10_75 rfl rfl (Nat.le_of_ble_eq_true rfl) (Nat.le_of_ble_eq_true rfl) rfl ?_
        by_cases c28 : q26 = 0
        · have h := zif_t h c28
          refine zR_if_eq_t (tgt := 88) dX10_tokenEnd_63 (by decide) c28 ?_
          refine zR_iload_n dX10_tokenEnd_88 3 rfl ?_
          refine zR_bipush (x := (61 : Int32)) dX10_tokenEnd_89 rfl ?_
          by_cases c29 : y21 = (61 : Int32)
          · have h := zif_t h c29
            refine zR_icmp_eq_t (tgt := 106) dX10_tokenEnd_91 (by decide) c29 ?_
            refine zR_sub (lv' := [(0, .ref (w.1 + 1)), (2, .int x2), (4, .int (x1 + (1 : Int32)))]) [0, 2, 4] rfl ?_
            exact wX10_tokenEnd_b106 F V0 V1 V2 V3 V4 V5 V6 V7 x2 (x1 + (1 : Int32)) _ h
          · have h := zif_f h c29
            refine zR_icmp_eq_f (tgt := 106) dX10_tokenEnd_91 (by decide) c29 ?_
            refine zR_iload_n dX10_tokenEnd_94 3 rfl ?_
            refine zR_bipush (x := (33 : Int32)) dX10_tokenEnd_95 rfl ?_
            by_cases c30 : y21 = (33 : Int32)
            · have h := zif_t h c30
              refine zR_icmp_eq_t (tgt := 106) dX10_tokenEnd_97 (by decide) c30 ?_
              refine zR_sub (lv' := [(0, .ref (w.1 + 1)), (2, .int x2), (4, .int (x1 + (1 : Int32)))]) [0, 2, 4] rfl ?_
              exact wX10_tokenEnd_b106 F V0 V1 V2 V3 V4 V5 V6 V7 x2 (x1 + (1 : Int32)) _ h
            · have h := zif_f h c30
              refine zR_icmp_eq_f (tgt := 106) dX10_tokenEnd_97 (by decide) c30 ?_
              refine zR_iload_n dX10_tokenEnd_100 3 rfl ?_
              refine zR_bipush (x := (60 : Int32)) dX10_tokenEnd_101 rfl ?_
              by_cases c31 : y21 = (60 : Int32)
              · have h := zif_t h c31
                refine zR_icmp_ne_f (tgt := 124) dX10_tokenEnd_103 (by decide) c31 ?_
                refine zR_sub (lv' := [(0, .ref (w.1 + 1)), (2, .int x2), (4, .int (x1 + (1 : Int32)))]) [0, 2, 4] rfl ?_
                exact wX10_tokenEnd_b106 F V0 V1 V2 V3 V4 V5 V6 V7 x2 (x1 + (1 : Int32)) _ h
              · have h := zif_f h c31
                refine zR_icmp_ne_t (tgt := 124) dX10_tokenEnd_103 (by decide) c31 ?_
                refine zR_sub (lv' := [(4, .int (x1 + (1 : Int32)))]) [4] rfl ?_
                exact wX10_tokenEnd_b124 F V0 V1 V2 V3 V4 V5 V6 V7 (x1 + (1 : Int32)) _ h
        · have h := zif_f h c28
          refine zR_if_eq_f (tgt := 88) dX10_tokenEnd_63 (by decide) c28 ?_
          refine zR_sub (lv' := [(0, .ref (w.1 + 1)), (2, .int x2), (4, .int (x1 + (1 : Int32)))]) [0, 2, 4] rfl ?_
          exact wX10_tokenEnd_l66 F F V0 V1 V2 V3 V4 V5 V6 V7 x2 (x1 + (1 : Int32)) _ h
      · have h := zif_f h c25
        refine zR_if_eq_f (tgt := 59) dX10_tokenEnd_24 (by decide) c25 ?_
        refine zR_sub (lv' := [(0, .ref (w.1 + 1)), (2, .int x2), (4, .int (x1 + (1 : Int32)))]) [0, 2, 4] rfl ?_
        exact wX10_tokenEnd_l27 F F V0 V1 V2 V3 V4 V5 V6 V7 x2 (x1 + (1 : Int32)) _ h
    · have h := zif_f h c19
      refine zR_icmp_lt_f (tgt := 11) dX10_tokenEnd_6 (by decide) c19 ?_
      refine zR_sub (lv' := [(2, .int x2)]) [2] rfl ?_
      exact wX10_tokenEnd_b9 F V0 V1 V2 V3 V4 V5 V6 V7 x2 _ h
set_option maxRecDepth 100000 in
set_option maxHeartbeats 4000000 in
theorem wX10_valueOf_b66 {w : zW} (F : Nat) (V0 V1 V2 V3 V4 V5 V6 V7 : zV) (x4 : Int64) (res : Int64) (h : fX10_valueOf_b66 F V0 x4 = some res) : zR w kX10_valueOf 1 0 0 (some (.long res)) (zE zds w [V0, V1, V2, V3, V4, V5, V6, V7]) 66 [(4, .long x4)] [] (zE zds w [V0, V1, V2, V3, V4, V5, V6, V7]) := by
  unfold fX10_valueOf_b66 at h
  refine zR_lload dX10_valueOf_66 0 rfl ?_
  have h := Option.some.inj h
  subst h
  exact zR_lret dX10_valueOf_68 rfl
set_option maxRecDepth 100000 in
set_option maxHeartbeats 4000000 in
theorem wX10_valueOf_b58 {w : zW} (F : Nat) (k10 : zV → Int32 → Int32 → Int64 → Int32 → Option (Int64)) (hk10 : ∀ (V0 V1 V2 V3 V4 V5 V6 V7 : zV) (x2 : Int32) (x3 : Int32) (x4 : Int64) (x6 : Int32) (res : Int64), k10 V0 x2 x3 x4 x6 = some res → zR w kX10_valueOf 1 0 0 (some (.long res)) (zE zds w [V0, V1, V2, V3, V4, V5, V6, V7]) 10 [(0, .ref (w.1 + 1)), (2, .int x2), (3, .int x3), (4, .long x4), (6, .int x6)] [] (zE zds w [V0, V1, V2, V3, V4, V5, V6, V7])) (V0 V1 V2 V3 V4 V5 V6 V7 : zV) (x2 : Int32) (x3 : Int32) (x6 : Int32) (s0 : Int64) (res : Int64) (h : fX10_valueOf_b58 F k10 V0 x2 x3 x6 s0 = some res) : zR w kX10_valueOf 1 0 0 (some (.long res)) (zE zds w [V0, V1, V2, V3, V4, V5, V6, V7]) 58 [(0, .ref (w.1 + 1)), (2, .int x2), (3, .int x3), (6, .int x6)] [.long s0] (zE zds w [V0, V1, V2, V3, V4, V5, V6, V7]) := by
  unfold fX10_valueOf_b58 at h
  refine zR_lstore (lv' := [(0, .ref (w.1 + 1)), (2, .int x2), (3, .int x3), (6, .int x6), (4, .long s0)]) dX10_valueOf_58 (Nat.le_of_ble_eq_true rfl) rfl ?_
  refine zR_iinc (u := (x6 + 1)) (lv' := [(0, .ref (w.1 + 1)), (2, .int x2), (3, .int x3), (6, .int (x6 + 1)), (4, .long s0)]) dX10_valueOf_60 3 rfl rfl (Nat.le_of_ble_eq_true rfl) rfl ?_
  refine zR_goto (tgt := 10) dX10_valueOf_63 (by decide) ?_
  refine zR_sub (lv' := [(0, .ref (w.1 + 1)), (2, .int x2), (3, .int x3), (4, .long s0), (6, .int (x6 + 1))]) [0, 1, 2, 4, 3] rfl ?_
  exact hk10 V0 V1 V2 V3 V4 V5 V6 V7 x2 x3 s0 (x6 + 1) _ h
set_option maxRecDepth 100000 in
set_option maxHeartbeats 4000000 in
theorem wX10_valueOf_l10 {w : zW} (F : Nat) : ∀ (n : Nat) (V0 V1 V2 V3 V4 V5 V6 V7 : zV) (x2 : Int32) (x3 : Int32) (x4 : Int64) (x6 : Int32) (res : Int64), fX10_valueOf_l10 F n V0 x2 x3 x4 x6 = some res → zR w kX10_valueOf 1 0 0 (some (.long res)) (zE zds w [V0, V1, V2, V3, V4, V5, V6, V7]) 10 [(0, .ref (w.1 + 1)), (2, .int x2), (3, .int x3), (4, .long x4), (6, .int x6)] [] (zE zds w [V0, V1, V2, V3, V4, V5, V6, V7]) := by
  intro n
  induction n with
  | zero =>
    intro V0 V1 V2 V3 V4 V5 V6 V7 x2 x3 x4 x6 res h
    simp [fX10_valueOf_l10] at h
  | succ n ih =>
    intro V0 V1 V2 V3 V4 V5 V6 V7 x2 x3 x4 x6 res h
    rw [fX10_valueOf_l10] at h
    refine zR_iload dX10_valueOf_10 4 rfl ?_
    refine zR_iload_n dX10_valueOf_12 1 rfl ?_
    by_cases c1 : x2 ≤ x6
    · have h := zif_t h c1
      refine zR_icmp_ge_t (tgt := 66) dX10_valueOf_13 (by decide) c1 ?_
      refine zR_sub (lv' := [(4, .long x4)]) [3] rfl ?_
      exact wX10_valueOf_b66 F V0 V1 V2 V3 V4 V5 V6 V7 x4 _ h
    · have h := zif_f h c1
      refine zR_icmp_ge_f (tgt := 66) dX10_valueOf_13 (by decide) c1 ?_
      refine zR_iload dX10_valueOf_16 4 rfl ?_
      refine zR_aload_n dX10_valueOf_18 0 rfl ?_
      refine zG_alen (u := (4000 : Int32)) dX10_valueOf_19 zd_1 (Nat.le_of_ble_eq_true rfl) rfl rfl rfl ?_
      by_cases c2 : (4000 : Int32) ≤ x6
      · have h := zif_t h c2
        refine zR_icmp_ge_t (tgt := 66) dX10_valueOf_20 (by decide) c2 ?_
        refine zR_sub (lv' := [(4, .long x4)]) [3] rfl ?_
        exact wX10_valueOf_b66 F V0 V1 V2 V3 V4 V5 V6 V7 x4 _ h
      · have h := zif_f h c2
        refine zR_icmp_ge_f (tgt := 66) dX10_valueOf_20 (by decide) c2 ?_
        refine zR_iload_n dX10_valueOf_23 2 rfl ?_
        refine zR_bipush (x := (28 : Int32)) dX10_valueOf_24 rfl ?_
        by_cases c3 : x3 = (28 : Int32)
        · have h := zif_t h c3
          refine zR_icmp_ne_f (tgt := 47) dX10_valueOf_26 (by decide) c3 ?_
          refine zR_lload dX10_valueOf_29 3 rfl ?_
          refine zR_ldc2 (x := (10 : Int64)) dX10_valueOf_31 zk_X10_92 ?_
          refine zR_lmul dX10_valueOf_34 ?_
          refine zR_aload_n dX10_valueOf_35 0 rfl ?_
          refine zR_iload dX10_valueOf_36 4 rfl ?_
          obtain ⟨g5, h⟩ := zchk_some h
          refine zG_bald dX10_valueOf_38 zd_1 rfl rfl g5 ?_
          refine zR_bipush (x := (48 : Int32)) dX10_valueOf_39 rfl ?_
          refine zR_isub dX10_valueOf_41 ?_
          refine zR_i2l dX10_valueOf_42 ?_
          refine zR_ladd dX10_valueOf_43 ?_
          refine zR_goto (tgt := 58) dX10_valueOf_44 (by decide) ?_
          refine zR_sub (lv' := [(0, .ref (w.1 + 1)), (2, .int x2), (3, .int x3), (6, .int x6)]) [0, 1, 2, 4] rfl ?_
          exact wX10_valueOf_b58 F (fX10_valueOf_l10 F n) ih V0 V1 V2 V3 V4 V5 V6 V7 x2 x3 x6 ((x4 * (10 : Int64)) + (((zA V0 1 (x6).toNatClampNeg) - (48 : Int32))).toInt64) _ h
        · have h := zif_f h c3
          refine zR_icmp_ne_t (tgt := 47) dX10_valueOf_26 (by decide) c3 ?_
          refine zR_lload dX10_valueOf_47 3 rfl ?_
          refine zR_bipush (x := (8 : Int32)) dX10_valueOf_49 rfl ?_
          refine zR_lshl dX10_valueOf_51 ?_
          refine zR_aload_n dX10_valueOf_52 0 rfl ?_
          refine zR_iload dX10_valueOf_53 4 rfl ?_
          obtain ⟨g4, h⟩ := zchk_some h
          refine zG_bald dX10_valueOf_55 zd_1 rfl rfl g4 ?_
          refine zR_i2l dX10_valueOf_56 ?_
          refine zR_lor dX10_valueOf_57 ?_
          refine zR_sub (lv' := [(0, .ref (w.1 + 1)), (2, .int x2), (3, .int x3), (6, .int x6)]) [0, 1, 2, 4] rfl ?_
          exact wX10_valueOf_b58 F (fX10_valueOf_l10 F n) ih V0 V1 V2 V3 V4 V5 V6 V7 x2 x3 x6 ((x4 <<< (((8 : Int32)).toInt64 &&& 63)) ||| ((zA V0 1 (x6).toNatClampNeg)).toInt64) _ h
set_option maxRecDepth 100000 in
set_option maxHeartbeats 4000000 in
theorem mX10_valueOf {w : zW} (F : Nat) (V0 V1 V2 V3 V4 V5 V6 V7 : zV) (x1 : Int32) (x2 : Int32) (x3 : Int32) (res : Int64) (h : fX10_valueOf F V0 x1 x2 x3 = some res) : zMet w kX10_valueOf 1 0 0 [.ref (w.1 + 1), .int x1, .int x2, .int x3] (zE zds w [V0, V1, V2, V3, V4, V5, V6, V7]) (some (.long res)) (zE zds w [V0, V1, V2, V3, V4, V5, V6, V7]) := by
  refine zMet_of (by decide) (Nat.le_of_ble_eq_true rfl) (Nat.le_refl 0) fun _ => ?_
  show zR w kX10_valueOf 1 0 0 (some (.long res)) (zE zds w [V0, V1, V2, V3, V4, V5, V6, V7]) 0 [(0, .ref (w.1 + 1)), (1, .int x1), (2, .int x2), (3, .int x3)] [] (zE zds w [V0, V1, V2, V3, V4, V5, V6, V7])
  unfold fX10_valueOf at h
  refine zR_lconst (x := (0 : Int64)) dX10_valueOf_0 rfl ?_
  refine zR_lstore (lv' := [(0, .ref (w.1 + 1)), (1, .int x1), (2, .int x2), (3, .int x3), (4, .long (0 : Int64))]) dX10_valueOf_1 (Nat.le_of_ble_eq_true rfl) rfl ?_
  refine zR_iconst (x := (0 : Int32)) dX10_valueOf_3 rfl ?_
  refine zR_iload_n dX10_valueOf_4 1 rfl ?_
  refine zR_mmax dX10_valueOf_5 zmw_X10_89 (Nat.le_of_ble_eq_true rfl) (Nat.le_of_ble_eq_true rfl) ?_
  obtain ⟨y6, e7, h⟩ := zlet_some h
  refine zR_nmI e7 ?_
  refine zR_istore (lv' := [(0, .ref (w.1 + 1)), (1, .int x1), (2, .int x2), (3, .int x3), (4, .long (0 : Int64)), (6, .int y6)]) dX10_valueOf_8 (Nat.le_of_ble_eq_true rfl) rfl ?_
  refine zR_sub (lv' := [(0, .ref (w.1 + 1)), (2, .int x2), (3, .int x3), (4, .long (0 : Int64)), (6, .int y6)]) [0, 2, 3, 4, 5] rfl ?_
  exact wX10_valueOf_l10 F F V0 V1 V2 V3 V4 V5 V6 V7 x2 x3 (0 : Int64) y6 _ h
set_option maxRecDepth 100000 in
set_option maxHeartbeats 4000000 in
theorem wX10_wordOrName_l2 {w : zW} (F : Nat) : ∀ (n : Nat) (V0 V1 V2 V3 V4 V5 V6 V7 : zV) (x1 : Int64) (x3 : Int32) (res : Int32), fX10_wordOrName_l2 F n V1 x1 x3 = some res → zR w kX10_wordOrName 0 0 0 (some (.int res)) (zE zds w [V0, V1, V2, V3, V4, V5, V6, V7]) 2 [(0, .ref (w.1 + 2)), (1, .long x1), (3, .int x3)] [] (zE zds w [V0, V1, V2, V3, V4, V5, V6, V7]) := by
  intro n
  induction n with
  | zero =>
    intro V0 V1 V2 V3 V4 V5 V6 V7 x1 x3 res h
    simp [fX10_wordOrName_l2] at h
  | succ n ih =>
    intro V0 V1 V2 V3 V4 V5 V6 V7 x1 x3 res h
    rw [fX10_wordOrName_l2] at h
    refine zR_iload_n dX10_wordOrName_2 2 rfl ?_
    refine zR_aload_n dX10_wordOrName_3 0 rfl ?_
    refine zG_getR dX10_wordOrName_4 zf_X10_9 zd_2 rfl rfl ?_
    refine zG_alen (u := (27 : Int32)) dX10_wordOrName_7 zd_3 (Nat.le_of_ble_eq_true rfl) rfl rfl rfl ?_
    by_cases c1 : (27 : Int32) ≤ x3
    · have h := zif_t h c1
      refine zR_icmp_ge_t (tgt := 30) dX10_wordOrName_8 (by decide) c1 ?_
      refine zR_bipush (x := (27 : Int32)) dX10_wordOrName_30 rfl ?_
      have h := Option.some.inj h
      subst h
      exact zR_iret (x := (27 : Int32)) dX10_wordOrName_32 rfl rfl
    · have h := zif_f h c1
      refine zR_icmp_ge_f (tgt := 30) dX10_wordOrName_8 (by decide) c1 ?_
      refine zR_aload_n dX10_wordOrName_11 0 rfl ?_
      refine zG_getR dX10_wordOrName_12 zf_X10_9 zd_2 rfl rfl ?_
      refine zR_iload_n dX10_wordOrName_15 2 rfl ?_
      obtain ⟨g2, h⟩ := zchk_some h
      refine zG_lald dX10_wordOrName_16 zd_3 rfl rfl g2 ?_
      refine zR_lload_n dX10_wordOrName_17 1 rfl ?_
      refine zR_lcmp dX10_wordOrName_18 ?_
      by_cases c3 : (lg_cmp (zB V1 1 (x3).toNatClampNeg) x1) = 0
      · have h := zif_t h c3
        refine zR_if_ne_f (tgt := 24) dX10_wordOrName_19 (by decide) c3 ?_
        refine zR_iload_n dX10_wordOrName_22 2 rfl ?_
        have h := Option.some.inj h
        subst h
        exact zR_iret (x := x3) dX10_wordOrName_23 rfl rfl
      · have h := zif_f h c3
        refine zR_if_ne_t (tgt := 24) dX10_wordOrName_19 (by decide) c3 ?_
        refine zR_iinc (u := (x3 + 1)) (lv' := [(0, .ref (w.1 + 2)), (1, .long x1), (3, .int (x3 + 1))]) dX10_wordOrName_24 2 rfl rfl (Nat.le_of_ble_eq_true rfl) rfl ?_
        refine zR_goto (tgt := 2) dX10_wordOrName_27 (by decide) ?_
        exact ih V0 V1 V2 V3 V4 V5 V6 V7 x1 (x3 + 1) _ h
set_option maxRecDepth 100000 in
set_option maxHeartbeats 4000000 in
theorem mX10_wordOrName {w : zW} (F : Nat) (V0 V1 V2 V3 V4 V5 V6 V7 : zV) (x1 : Int64) (res : Int32) (h : fX10_wordOrName F V1 x1 = some res) : zMet w kX10_wordOrName 0 0 0 [.ref (w.1 + 2), .long x1] (zE zds w [V0, V1, V2, V3, V4, V5, V6, V7]) (some (.int res)) (zE zds w [V0, V1, V2, V3, V4, V5, V6, V7]) := by
  refine zMet_of (by decide) (Nat.le_of_ble_eq_true rfl) (Nat.le_refl 0) fun _ => ?_
  show zR w kX10_wordOrName 0 0 0 (some (.int res)) (zE zds w [V0, V1, V2, V3, V4, V5, V6, V7]) 0 [(0, .ref (w.1 + 2)), (1, .long x1)] [] (zE zds w [V0, V1, V2, V3, V4, V5, V6, V7])
  unfold fX10_wordOrName at h
  refine zR_iconst (x := (0 : Int32)) dX10_wordOrName_0 rfl ?_
  refine zR_istore_n (lv' := [(0, .ref (w.1 + 2)), (1, .long x1), (3, .int (0 : Int32))]) dX10_wordOrName_1 (Nat.le_of_ble_eq_true rfl) rfl ?_
  exact wX10_wordOrName_l2 F F V0 V1 V2 V3 V4 V5 V6 V7 x1 (0 : Int32) _ h
set_option maxRecDepth 100000 in
set_option maxHeartbeats 4000000 in
theorem mX10_longSign {w : zW} (F : Nat) (S : zS) (x0 : Int32) (res : Int32) (h : fX10_longSign F x0 = some res) : zMet w kX10_longSign 0 0 0 [.int x0] S (some (.int res)) S := by
  refine zMet_of (by decide) (Nat.le_of_ble_eq_true rfl) (Nat.le_refl 0) fun _ => ?_
  show zR w kX10_longSign 0 0 0 (some (.int res)) S 0 [(0, .int x0)] [] S
  unfold fX10_longSign at h
  refine zR_iload_n dX10_longSign_0 0 rfl ?_
  by_cases c1 : x0 = (33 : Int32)
  · have h := zif_t h c1
    refine zR_lookc (tgt := 31) dX10_longSign_1 c1 rfl (by decide) ?_
    refine zR_bipush (x := (38 : Int32)) dX10_longSign_31 rfl ?_
    have h := Option.some.inj h
    subst h
    exact zR_iret (x := (38 : Int32)) dX10_longSign_33 rfl rfl
  · have h := zif_f h c1
    by_cases c2 : x0 = (61 : Int32)
    · have h := zif_t h c2
      refine zR_lookc (tgt := 28) dX10_longSign_1 c2 rfl (by decide) ?_
      refine zR_bipush (x := (37 : Int32)) dX10_longSign_28 rfl ?_
      have h := Option.some.inj h
      subst h
      exact zR_iret (x := (37 : Int32)) dX10_longSign_30 rfl rfl
    · have h := zif_f h c2
      refine zR_looko (tgt := 34) dX10_longSign_1 rfl (by simp [Op.lookupswitch.offset, Ne.symm (zne c1 (n := 33) rfl), Ne.symm (zne c2 (n := 61) rfl)]) (by decide) ?_
      refine zR_bipush (x := (40 : Int32)) dX10_longSign_34 rfl ?_
      have h := Option.some.inj h
      subst h
      exact zR_iret (x := (40 : Int32)) dX10_longSign_36 rfl rfl
set_option maxRecDepth 100000 in
set_option maxHeartbeats 4000000 in
theorem mX10_shortSign {w : zW} (F : Nat) (S : zS) (x0 : Int32) (res : Int32) (h : fX10_shortSign F x0 = some res) : zMet w kX10_shortSign 0 0 0 [.int x0] S (some (.int res)) S := by
  refine zMet_of (by decide) (Nat.le_of_ble_eq_true rfl) (Nat.le_refl 0) fun _ => ?_
  show zR w kX10_shortSign 0 0 0 (some (.int res)) S 0 [(0, .int x0)] [] S
  unfold fX10_shortSign at h
  refine zR_iload_n dX10_shortSign_0 0 rfl ?_
  by_cases c1 : x0 = (40 : Int32)
  · have h := zif_t h c1
    refine zR_tabc (tgt := 109) dX10_shortSign_1 c1 rfl (by decide) ?_
    refine zR_bipush (x := (32 : Int32)) dX10_shortSign_109 rfl ?_
    have h := Option.some.inj h
    subst h
    exact zR_iret (x := (32 : Int32)) dX10_shortSign_111 rfl rfl
  · have h := zif_f h c1
    by_cases c2 : x0 = (41 : Int32)
    · have h := zif_t h c2
      refine zR_tabc (tgt := 112) dX10_shortSign_1 c2 rfl (by decide) ?_
      refine zR_bipush (x := (33 : Int32)) dX10_shortSign_112 rfl ?_
      have h := Option.some.inj h
      subst h
      exact zR_iret (x := (33 : Int32)) dX10_shortSign_114 rfl rfl
    · have h := zif_f h c2
      by_cases c3 : x0 = (42 : Int32)
      · have h := zif_t h c3
        refine zR_tabc (tgt := 121) dX10_shortSign_1 c3 rfl (by decide) ?_
        refine zR_bipush (x := (36 : Int32)) dX10_shortSign_121 rfl ?_
        have h := Option.some.inj h
        subst h
        exact zR_iret (x := (36 : Int32)) dX10_shortSign_123 rfl rfl
      · have h := zif_f h c3
        by_cases c4 : x0 = (43 : Int32)
        · have h := zif_t h c4
          refine zR_tabc (tgt := 115) dX10_shortSign_1 c4 rfl (by decide) ?_
          refine zR_bipush (x := (34 : Int32)) dX10_shortSign_115 rfl ?_
          have h := Option.some.inj h
          subst h
          exact zR_iret (x := (34 : Int32)) dX10_shortSign_117 rfl rfl
        · have h := zif_f h c4
          by_cases c5 : x0 = (44 : Int32)
          · have h := zif_t h c5
            refine zR_tabc (tgt := 106) dX10_shortSign_1 c5 rfl (by decide) ?_
            refine zR_bipush (x := (31 : Int32)) dX10_shortSign_106 rfl ?_
            have h := Option.some.inj h
            subst h
            exact zR_iret (x := (31 : Int32)) dX10_shortSign_108 rfl rfl
          · have h := zif_f h c5
            by_cases c6 : x0 = (45 : Int32)
            · have h := zif_t h c6
              refine zR_tabc (tgt := 118) dX10_shortSign_1 c6 rfl (by decide) ?_
              refine zR_bipush (x := (35 : Int32)) dX10_shortSign_118 rfl ?_
              have h := Option.some.inj h
              subst h
              exact zR_iret (x := (35 : Int32)) dX10_shortSign_120 rfl rfl
            · have h := zif_f h c6
              by_cases c7 : x0 = (46 : Int32)
              · have h := zif_t h c7
                refine zR_tabc (tgt := 127) dX10_shortSign_1 c7 rfl (by decide) ?_
                refine zR_bipush (x := (42 : Int32)) dX10_shortSign_127 rfl ?_
                have h := Option.some.inj h
                subst h
                exact zR_iret (x := (42 : Int32)) dX10_shortSign_129 rfl rfl
              · have h := zif_f h c7
                by_cases c8 : x0 = (47 : Int32)
                · have h := zif_t h c8
                  refine zR_tabc (tgt := 127) dX10_shortSign_1 c8 rfl (by decide) ?_
                  refine zR_bipush (x := (42 : Int32)) dX10_shortSign_127 rfl ?_
                  have h := Option.some.inj h
                  subst h
                  exact zR_iret (x := (42 : Int32)) dX10_shortSign_129 rfl rfl
                · have h := zif_f h c8
                  by_cases c9 : x0 = (48 : Int32)
                  · have h := zif_t h c9
                    refine zR_tabc (tgt := 127) dX10_shortSign_1 c9 rfl (by decide) ?_
                    refine zR_bipush (x := (42 : Int32)) dX10_shortSign_127 rfl ?_
                    have h := Option.some.inj h
                    subst h
                    exact zR_iret (x := (42 : Int32)) dX10_shortSign_129 rfl rfl
                  · have h := zif_f h c9
                    by_cases c10 : x0 = (49 : Int32)
                    · have h := zif_t h c10
                      refine zR_tabc (tgt := 127) dX10_shortSign_1 c10 rfl (by decide) ?_
                      refine zR_bipush (x := (42 : Int32)) dX10_shortSign_127 rfl ?_
                      have h := Option.some.inj h
                      subst h
                      exact zR_iret (x := (42 : Int32)) dX10_shortSign_129 rfl rfl
                    · have h := zif_f h c10
                      by_cases c11 : x0 = (50 : Int32)
                      · have h := zif_t h c11
                        refine zR_tabc (tgt := 127) dX10_shortSign_1 c11 rfl (by decide) ?_
                        refine zR_bipush (x := (42 : Int32)) dX10_shortSign_127 rfl ?_
                        have h := Option.some.inj h
                        subst h
                        exact zR_iret (x := (42 : Int32)) dX10_shortSign_129 rfl rfl
                      · have h := zif_f h c11
                        by_cases c12 : x0 = (51 : Int32)
                        · have h := zif_t h c12
                          refine zR_tabc (tgt := 127) dX10_shortSign_1 c12 rfl (by decide) ?_
                          refine zR_bipush (x := (42 : Int32)) dX10_shortSign_127 rfl ?_
                          have h := Option.some.inj h
                          subst h
                          exact zR_iret (x := (42 : Int32)) dX10_shortSign_129 rfl rfl
                        · have h := zif_f h c12
                          by_cases c13 : x0 = (52 : Int32)
                          · have h := zif_t h c13
                            refine zR_tabc (tgt := 127) dX10_shortSign_1 c13 rfl (by decide) ?_
                            refine zR_bipush (x := (42 : Int32)) dX10_shortSign_127 rfl ?_
                            have h := Option.some.inj h
                            subst h
                            exact zR_iret (x := (42 : Int32)) dX10_shortSign_129 rfl rfl
                          · have h := zif_f h c13
                            by_cases c14 : x0 = (53 : Int32)
                            · have h := zif_t h c14
                              refine zR_tabc (tgt := 127) dX10_shortSign_1 c14 rfl (by decide) ?_
                              refine zR_bipush (x := (42 : Int32)) dX10_shortSign_127 rfl ?_
                              have h := Option.some.inj h
                              subst h
                              exact zR_iret (x := (42 : Int32)) dX10_shortSign_129 rfl rfl
                            · have h := zif_f h c14
                              by_cases c15 : x0 = (54 : Int32)
                              · have h := zif_t h c15
                                refine zR_tabc (tgt := 127) dX10_shortSign_1 c15 rfl (by decide) ?_
                                refine zR_bipush (x := (42 : Int32)) dX10_shortSign_127 rfl ?_
                                have h := Option.some.inj h
                                subst h
                                exact zR_iret (x := (42 : Int32)) dX10_shortSign_129 rfl rfl
                              · have h := zif_f h c15
                                by_cases c16 : x0 = (55 : Int32)
                                · have h := zif_t h c16
                                  refine zR_tabc (tgt := 127) dX10_shortSign_1 c16 rfl (by decide) ?_
                                  refine zR_bipush (x := (42 : Int32)) dX10_shortSign_127 rfl ?_
                                  have h := Option.some.inj h
                                  subst h
                                  exact zR_iret (x := (42 : Int32)) dX10_shortSign_129 rfl rfl
                                · have h := zif_f h c16
                                  by_cases c17 : x0 = (56 : Int32)
                                  · have h := zif_t h c17
                                    refine zR_tabc (tgt := 127) dX10_shortSign_1 c17 rfl (by decide) ?_
                                    refine zR_bipush (x := (42 : Int32)) dX10_shortSign_127 rfl ?_
                                    have h := Option.some.inj h
                                    subst h
                                    exact zR_iret (x := (42 : Int32)) dX10_shortSign_129 rfl rfl
                                  · have h := zif_f h c17
                                    by_cases c18 : x0 = (57 : Int32)
                                    · have h := zif_t h c18
                                      refine zR_tabc (tgt := 127) dX10_shortSign_1 c18 rfl (by decide) ?_
                                      refine zR_bipush (x := (42 : Int32)) dX10_shortSign_127 rfl ?_
                                      have h := Option.some.inj h
                                      subst h
                                      exact zR_iret (x := (42 : Int32)) dX10_shortSign_129 rfl rfl
                                    · have h := zif_f h c18
                                      by_cases c19 : x0 = (58 : Int32)
                                      · have h := zif_t h c19
                                        refine zR_tabc (tgt := 103) dX10_shortSign_1 c19 rfl (by decide) ?_
                                        refine zR_bipush (x := (30 : Int32)) dX10_shortSign_103 rfl ?_
                                        have h := Option.some.inj h
                                        subst h
                                        exact zR_iret (x := (30 : Int32)) dX10_shortSign_105 rfl rfl
                                      · have h := zif_f h c19
                                        by_cases c20 : x0 = (59 : Int32)
                                        · have h := zif_t h c20
                                          refine zR_tabc (tgt := 100) dX10_shortSign_1 c20 rfl (by decide) ?_
                                          refine zR_bipush (x := (29 : Int32)) dX10_shortSign_100 rfl ?_
                                          have h := Option.some.inj h
                                          subst h
                                          exact zR_iret (x := (29 : Int32)) dX10_shortSign_102 rfl rfl
                                        · have h := zif_f h c20
                                          by_cases c21 : x0 = (60 : Int32)
                                          · have h := zif_t h c21
                                            refine zR_tabc (tgt := 124) dX10_shortSign_1 c21 rfl (by decide) ?_
                                            refine zR_bipush (x := (39 : Int32)) dX10_shortSign_124 rfl ?_
                                            have h := Option.some.inj h
                                            subst h
                                            exact zR_iret (x := (39 : Int32)) dX10_shortSign_126 rfl rfl
                                          · have h := zif_f h c21
                                            refine zR_tabO (tgt := 127) dX10_shortSign_1 (by have u40 := zne c1 (n := 40) rfl; have u41 := zne c2 (n := 41) rfl; have u42 := zne c3 (n := 42) rfl; have u43 := zne c4 (n := 43) rfl; have u44 := zne c5 (n := 44) rfl; have u45 := zne c6 (n := 45) rfl; have u46 := zne c7 (n := 46) rfl; have u47 := zne c8 (n := 47) rfl; have u48 := zne c9 (n := 48) rfl; have u49 := zne c10 (n := 49) rfl; have u50 := zne c11 (n := 50) rfl; have u51 := zne c12 (n := 51) rfl; have u52 := zne c13 (n := 52) rfl; have u53 := zne c14 (n := 53) rfl; have u54 := zne c15 (n := 54) rfl; have u55 := zne c16 (n := 55) rfl; have u56 := zne c17 (n := 56) rfl; have u57 := zne c18 (n := 57) rfl; have u58 := zne c19 (n := 58) rfl; have u59 := zne c20 (n := 59) rfl; have u60 := zne c21 (n := 60) rfl; omega) (by decide) ?_
                                            refine zR_bipush (x := (42 : Int32)) dX10_shortSign_127 rfl ?_
                                            have h := Option.some.inj h
                                            subst h
                                            exact zR_iret (x := (42 : Int32)) dX10_shortSign_129 rfl rfl
set_option maxRecDepth 100000 in
set_option maxHeartbeats 4000000 in
theorem mX10_kindOf {w : zW} (F : Nat) (V0 V1 V2 V3 V4 V5 V6 V7 : zV) (x2 : Int32) (x3 : Int32) (res : Int32) (h : fX10_kindOf F V0 V1 x2 x3 = some res) : zMet w kX10_kindOf 2 0 0 [.ref (w.1 + 2), .ref (w.1 + 1), .int x2, .int x3] (zE zds w [V0, V1, V2, V3, V4, V5, V6, V7]) (some (.int res)) (zE zds w [V0, V1, V2, V3, V4, V5, V6, V7]) := by
  refine zMet_of (by decide) (Nat.le_of_ble_eq_true rfl) (Nat.le_refl 0) fun _ => ?_
  show zR w kX10_kindOf 2 0 0 (some (.int res)) (zE zds w [V0, V1, V2, V3, V4, V5, V6, V7]) 0 [(0, .ref (w.1 + 2)), (1, .ref (w.1 + 1)), (2, .int x2), (3, .int x3)] [] (zE zds w [V0, V1, V2, V3, V4, V5, V6, V7])
  unfold fX10_kindOf at h
  refine zR_iload_n dX10_kindOf_0 2 rfl ?_
  by_cases c1 : x2 < 0
  · have h := zif_t h c1
    refine zR_if_lt_t (tgt := 15) dX10_kindOf_1 (by decide) c1 ?_
    refine zR_bipush (x := (41 : Int32)) dX10_kindOf_15 rfl ?_
    have h := Option.some.inj h
    subst h
    exact zR_iret (x := (41 : Int32)) dX10_kindOf_17 rfl rfl
  · have h := zif_f h c1
    refine zR_if_lt_f (tgt := 15) dX10_kindOf_1 (by decide) c1 ?_
    refine zR_iload_n dX10_kindOf_4 2 rfl ?_
    refine zR_iload_n dX10_kindOf_5 3 rfl ?_
    by_cases c2 : x3 ≤ x2
    · have h := zif_t h c2
      refine zR_icmp_ge_t (tgt := 15) dX10_kindOf_6 (by decide) c2 ?_
      refine zR_bipush (x := (41 : Int32)) dX10_kindOf_15 rfl ?_
      have h := Option.some.inj h
      subst h
      exact zR_iret (x := (41 : Int32)) dX10_kindOf_17 rfl rfl
    · have h := zif_f h c2
      refine zR_icmp_ge_f (tgt := 15) dX10_kindOf_6 (by decide) c2 ?_
      refine zR_iload_n dX10_kindOf_9 3 rfl ?_
      refine zR_aload_n dX10_kindOf_10 1 rfl ?_
      refine zG_alen (u := (4000 : Int32)) dX10_kindOf_11 zd_1 (Nat.le_of_ble_eq_true rfl) rfl rfl rfl ?_
      by_cases c3 : x3 ≤ (4000 : Int32)
      · have h := zif_t h c3
        refine zR_icmp_le_t (tgt := 18) dX10_kindOf_12 (by decide) c3 ?_
        refine zR_aload_n dX10_kindOf_18 1 rfl ?_
        refine zR_iload_n dX10_kindOf_19 2 rfl ?_
        obtain ⟨g4, h⟩ := zchk_some h
        refine zG_bald dX10_kindOf_20 zd_1 rfl rfl g4 ?_
        obtain ⟨y5, e6, h⟩ := zlet_some h
        refine zR_nmI e6 ?_
        refine zR_istore (lv' := [(0, .ref (w.1 + 2)), (1, .ref (w.1 + 1)), (2, .int x2), (3, .int x3), (4, .int y5)]) dX10_kindOf_21 (Nat.le_of_ble_eq_true rfl) rfl ?_
        refine zR_iload dX10_kindOf_23 4 rfl ?_
        obtain ⟨q7, hq8, h⟩ := zbd_some h
        refine zR_cS (rest := []) (st1 := [.int q7]) dX10_kindOf_25 (mX10_isLetter F (zE zds w [V0, V1, V2, V3, V4, V5, V6, V7]) y5 _ hq8) zc_X10_72 rfl rfl (Nat.le_of_ble_eq_true rfl) (Nat.le_of_ble_eq_true rfl) rfl ?_
        by_cases c9 : q7 = 0
        · have h := zif_t h c9
          refine zR_if_eq_t (tgt := 57) dX10_kindOf_28 (by decide) c9 ?_
          refine zR_iload dX10_kindOf_57 4 rfl ?_
          obtain ⟨q10, hq11, h⟩ := zbd_some h
          refine zR_cS (rest := []) (st1 := [.int q10]) dX10_kindOf_59 (mX10_isDigit F (zE zds w [V0, V1, V2, V3, V4, V5, V6, V7]) y5 _ hq11) zc_X10_75 rfl rfl (Nat.le_of_ble_eq_true rfl) (Nat.le_of_ble_eq_true rfl) rfl ?_
          by_cases c12 : q10 = 0
          · have h := zif_t h c12
            refine zR_if_eq_t (tgt := 80) dX10_kindOf_62 (by decide) c12 ?_
            refine zR_iload_n dX10_kindOf_80 3 rfl ?_
            refine zR_iload_n dX10_kindOf_81 2 rfl ?_
            refine zR_isub dX10_kindOf_82 ?_
            refine zR_iconst (x := (2 : Int32)) dX10_kindOf_83 rfl ?_
            by_cases c13 : (x3 - x2) = (2 : Int32)
            · have h := zif_t h c13
              refine zR_icmp_ne_f (tgt := 95) dX10_kindOf_84 (by decide) c13 ?_
              refine zR_iload dX10_kindOf_87 4 rfl ?_
              obtain ⟨q16, hq17, h⟩ := zbd_some h
              refine zR_cS (rest := []) (st1 := [.int q16]) dX10_kindOf_89 (mX10_longSign F (zE zds w [V0, V1, V2, V3, V4, V5, V6, V7]) y5 _ hq17) zc_X10_82 rfl rfl (Nat.le_of_ble_eq_true rfl) (Nat.le_of_ble_eq_true rfl) rfl ?_
              refine zR_goto (tgt := 100) dX10_kindOf_92 (by decide) ?_
              have h := Option.some.inj h
              subst h
              exact zR_iret (x := q16) dX10_kindOf_100 rfl rfl
            · have h := zif_f h c13
              refine zR_icmp_ne_t (tgt := 95) dX10_kindOf_84 (by decide) c13 ?_
              refine zR_iload dX10_kindOf_95 4 rfl ?_
              obtain ⟨q14, hq15, h⟩ := zbd_some h
              refine zR_cS (rest := []) (st1 := [.int q14]) dX10_kindOf_97 (mX10_shortSign F (zE zds w [V0, V1, V2, V3, V4, V5, V6, V7]) y5 _ hq15) zc_X10_86 rfl rfl (Nat.le_of_ble_eq_true rfl) (Nat.le_of_ble_eq_true rfl) rfl ?_
              have h := Option.some.inj h
              subst h
              exact zR_iret (x := q14) dX10_kindOf_100 rfl rfl
          · have h := zif_f h c12
            refine zR_if_eq_f (tgt := 80) dX10_kindOf_62 (by decide) c12 ?_
            refine zR_iload_n dX10_kindOf_65 3 rfl ?_
            refine zR_iload_n dX10_kindOf_66 2 rfl ?_
            refine zR_isub dX10_kindOf_67 ?_
            refine zR_iconst (x := (5 : Int32)) dX10_kindOf_68 rfl ?_
            by_cases c18 : (x3 - x2) ≤ (5 : Int32)
            · have h := zif_t h c18
              refine zR_icmp_le_t (tgt := 77) dX10_kindOf_69 (by decide) c18 ?_
              refine zR_bipush (x := (28 : Int32)) dX10_kindOf_77 rfl ?_
              have h := Option.some.inj h
              subst h
              exact zR_iret (x := (28 : Int32)) dX10_kindOf_79 rfl rfl
            · have h := zif_f h c18
              refine zR_icmp_le_f (tgt := 77) dX10_kindOf_69 (by decide) c18 ?_
              refine zR_bipush (x := (42 : Int32)) dX10_kindOf_72 rfl ?_
              refine zR_goto (tgt := 79) dX10_kindOf_74 (by decide) ?_
              have h := Option.some.inj h
              subst h
              exact zR_iret (x := (42 : Int32)) dX10_kindOf_79 rfl rfl
        · have h := zif_f h c9
          refine zR_if_eq_f (tgt := 57) dX10_kindOf_28 (by decide) c9 ?_
          refine zR_iload_n dX10_kindOf_31 3 rfl ?_
          refine zR_iload_n dX10_kindOf_32 2 rfl ?_
          refine zR_isub dX10_kindOf_33 ?_
          refine zR_bipush (x := (8 : Int32)) dX10_kindOf_34 rfl ?_
          by_cases c19 : (x3 - x2) ≤ (8 : Int32)
          · have h := zif_t h c19
            refine zR_icmp_le_t (tgt := 44) dX10_kindOf_36 (by decide) c19 ?_
            refine zR_aload_n dX10_kindOf_44 0 rfl ?_
            refine zR_aload_n dX10_kindOf_45 1 rfl ?_
            refine zR_iload_n dX10_kindOf_46 2 rfl ?_
            refine zR_iload_n dX10_kindOf_47 3 rfl ?_
            refine zR_bipush (x := (27 : Int32)) dX10_kindOf_48 rfl ?_
            obtain ⟨q20, hq21, h⟩ := zbd_some h
            refine zR_cS (rest := [.ref (w.1 + 2)]) (st1 := [.long q20, .ref (w.1 + 2)]) dX10_kindOf_50 (mX10_valueOf F V0 V1 V2 V3 V4 V5 V6 V7 x2 x3 (27 : Int32) _ hq21) zc_X10_64 rfl rfl (Nat.le_of_ble_eq_true rfl) (Nat.le_of_ble_eq_true rfl) rfl ?_
            obtain ⟨q22, hq23, h⟩ := zbd_some h
            refine zR_cV (rest := []) (st1 := [.int q22]) dX10_kindOf_53 (mX10_wordOrName F V0 V1 V2 V3 V4 V5 V6 V7 q20 _ hq23) zc_X10_78 rfl (zE_at zd_2) ⟨_, _, rfl⟩ rfl (Nat.le_of_ble_eq_true rfl) (Nat.le_of_ble_eq_true rfl) rfl ?_
            have h := Option.some.inj h
            subst h
            exact zR_iret (x := q22) dX10_kindOf_56 rfl rfl
          · have h := zif_f h c19
            refine zR_icmp_le_f (tgt := 44) dX10_kindOf_36 (by decide) c19 ?_
            refine zR_bipush (x := (42 : Int32)) dX10_kindOf_39 rfl ?_
            refine zR_goto (tgt := 56) dX10_kindOf_41 (by decide) ?_
            have h := Option.some.inj h
            subst h
            exact zR_iret (x := (42 : Int32)) dX10_kindOf_56 rfl rfl
      · have h := zif_f h c3
        refine zR_icmp_le_f (tgt := 18) dX10_kindOf_12 (by decide) c3 ?_
        refine zR_bipush (x := (41 : Int32)) dX10_kindOf_15 rfl ?_
        have h := Option.some.inj h
        subst h
        exact zR_iret (x := (41 : Int32)) dX10_kindOf_17 rfl rfl
set_option maxRecDepth 100000 in
set_option maxHeartbeats 4000000 in
theorem wX10_cut_b141 {w : zW} (F : Nat) (k29 : zV → zV → Int32 → Int32 → Int32 → Option (zV)) (hk29 : ∀ (V0 V1 V2 V3 V4 V5 V6 V7 : zV) (x3 : Int32) (x4 : Int32) (x5 : Int32) (res : zV), k29 V0 V1 x3 x4 x5 = some res → zR w kX10_cut 3 0 0 none (zE zds w [V0, res, V2, V3, V4, V5, V6, V7]) 29 [(0, .ref (w.1 + 2)), (1, .ref (w.1 + 1)), (3, .int x3), (4, .int x4), (5, .int x5)] [] (zE zds w [V0, V1, V2, V3, V4, V5, V6, V7])) (V0 V1 V2 V3 V4 V5 V6 V7 : zV) (x3 : Int32) (x5 : Int32) (x6 : Int32) (s1 : Int32) (s2 : Int64) (res : zV) (h : fX10_cut_b141 F k29 V0 V1 x3 x5 x6 s1 s2 = some res) : zR w kX10_cut 3 0 0 none (zE zds w [V0, res, V2, V3, V4, V5, V6, V7]) 141 [(0, .ref (w.1 + 2)), (1, .ref (w.1 + 1)), (3, .int x3), (5, .int x5), (6, .int x6)] [.long s2, .int s1, .ref (w.1 + 6)] (zE zds w [V0, V1, V2, V3, V4, V5, V6, V7]) := by
  unfold fX10_cut_b141 at h
  obtain ⟨g1, h⟩ := zchk_some h
  obtain ⟨V1_2, e3, h⟩ := zlet_some h
  refine zG_last zds_ok dX10_cut_141 zd_6 rfl rfl g1 e3 rfl ?_
  refine zR_aload_n dX10_cut_142 0 rfl ?_
  refine zR_dup dX10_cut_143 rfl ?_
  refine zG_getI dX10_cut_144 zf_X10_26 zd_2 rfl rfl ?_
  refine zR_iconst (x := (1 : Int32)) dX10_cut_147 rfl ?_
  refine zR_iadd dX10_cut_148 ?_
  obtain ⟨V1_4, e5, h⟩ := zlet_some h
  refine zG_putI zds_ok dX10_cut_149 zf_X10_26 zt_X10_4 zd_2 rfl rfl e5 rfl ?_
  refine zR_iload dX10_cut_152 4 rfl ?_
  refine zR_istore (lv' := [(0, .ref (w.1 + 2)), (1, .ref (w.1 + 1)), (3, .int x3), (5, .int x5), (6, .int x6), (4, .int x6)]) dX10_cut_154 (Nat.le_of_ble_eq_true rfl) rfl ?_
  refine zR_goto (tgt := 29) dX10_cut_156 (by decide) ?_
  refine zR_sub (lv' := [(0, .ref (w.1 + 2)), (1, .ref (w.1 + 1)), (3, .int x3), (4, .int x6), (5, .int x5)]) [0, 1, 2, 5, 3] rfl ?_
  exact hk29 V0 V1_4 V2 V3 V4 V5 V6 V7 x3 x6 x5 _ h
set_option maxRecDepth 100000 in
set_option maxHeartbeats 4000000 in
theorem wX10_cut_b127 {w : zW} (F : Nat) (k29 : zV → zV → Int32 → Int32 → Int32 → Option (zV)) (hk29 : ∀ (V0 V1 V2 V3 V4 V5 V6 V7 : zV) (x3 : Int32) (x4 : Int32) (x5 : Int32) (res : zV), k29 V0 V1 x3 x4 x5 = some res → zR w kX10_cut 3 0 0 none (zE zds w [V0, res, V2, V3, V4, V5, V6, V7]) 29 [(0, .ref (w.1 + 2)), (1, .ref (w.1 + 1)), (3, .int x3), (4, .int x4), (5, .int x5)] [] (zE zds w [V0, V1, V2, V3, V4, V5, V6, V7])) (V0 V1 V2 V3 V4 V5 V6 V7 : zV) (x3 : Int32) (x4 : Int32) (x5 : Int32) (x6 : Int32) (s1 : Int32) (res : zV) (h : fX10_cut_b127 F k29 V0 V1 x3 x4 x5 x6 s1 = some res) : zR w kX10_cut 3 0 0 none (zE zds w [V0, res, V2, V3, V4, V5, V6, V7]) 127 [(0, .ref (w.1 + 2)), (1, .ref (w.1 + 1)), (3, .int x3), (4, .int x4), (5, .int x5), (6, .int x6)] [.int s1, .ref (w.1 + 6)] (zE zds w [V0, V1, V2, V3, V4, V5, V6, V7]) := by
  unfold fX10_cut_b127 at h
  refine zR_aload_n dX10_cut_127 1 rfl ?_
  refine zR_iload dX10_cut_128 3 rfl ?_
  refine zR_iload dX10_cut_130 5 rfl ?_
  refine zR_iload dX10_cut_132 4 rfl ?_
  obtain ⟨q6, hq7, h⟩ := zbd_some h
  refine zR_cS (rest := [.int s1, .ref (w.1 + 6)]) (st1 := [.long q6, .int s1, .ref (w.1 + 6)]) dX10_cut_134 (mX10_valueOf F V0 V1 V2 V3 V4 V5 V6 V7 x4 x6 x5 _ hq7) zc_X10_64 rfl rfl (Nat.le_of_ble_eq_true rfl) (Nat.le_of_ble_eq_true rfl) rfl ?_
  refine zR_goto (tgt := 141) dX10_cut_137 (by decide) ?_
  refine zR_sub (lv' := [(0, .ref (w.1 + 2)), (1, .ref (w.1 + 1)), (3, .int x3), (5, .int x5), (6, .int x6)]) [0, 1, 2, 4, 5] rfl ?_
  exact wX10_cut_b141 F k29 hk29 V0 V1 V2 V3 V4 V5 V6 V7 x3 x5 x6 s1 q6 _ h
set_option maxRecDepth 100000 in
set_option maxHeartbeats 4000000 in
theorem wX10_cut_l29 {w : zW} (F : Nat) : ∀ (n : Nat) (V0 V1 V2 V3 V4 V5 V6 V7 : zV) (x3 : Int32) (x4 : Int32) (x5 : Int32) (res : zV), fX10_cut_l29 F n V0 V1 x3 x4 x5 = some res → zR w kX10_cut 3 0 0 none (zE zds w [V0, res, V2, V3, V4, V5, V6, V7]) 29 [(0, .ref (w.1 + 2)), (1, .ref (w.1 + 1)), (3, .int x3), (4, .int x4), (5, .int x5)] [] (zE zds w [V0, V1, V2, V3, V4, V5, V6, V7]) := by
  intro n
  induction n with
  | zero =>
    intro V0 V1 V2 V3 V4 V5 V6 V7 x3 x4 x5 res h
    simp [fX10_cut_l29] at h
  | succ n ih =>
    intro V0 V1 V2 V3 V4 V5 V6 V7 x3 x4 x5 res h
    rw [fX10_cut_l29] at h
    refine zR_aload_n dX10_cut_29 0 rfl ?_
    refine zG_getI dX10_cut_30 zf_X10_26 zd_2 rfl rfl ?_
    refine zR_sipush (x := (1002 : Int32)) dX10_cut_33 rfl ?_
    by_cases c8 : (1002 : Int32) ≤ (zI V1 0 4)
    · have h := zif_t h c8
      refine zR_icmp_ge_t (tgt := 159) dX10_cut_36 (by decide) c8 ?_
      have h := Option.some.inj h
      subst h
      exact zR_ret dX10_cut_159 rfl
    · have h := zif_f h c8
      refine zR_icmp_ge_f (tgt := 159) dX10_cut_36 (by decide) c8 ?_
      refine zR_iload dX10_cut_39 4 rfl ?_
      refine zR_bipush (x := (41 : Int32)) dX10_cut_41 rfl ?_
      by_cases c9 : x5 = (41 : Int32)
      · have h := zif_t h c9
        refine zR_icmp_eq_t (tgt := 159) dX10_cut_43 (by decide) c9 ?_
        have h := Option.some.inj h
        subst h
        exact zR_ret dX10_cut_159 rfl
      · have h := zif_f h c9
        refine zR_icmp_eq_f (tgt := 159) dX10_cut_43 (by decide) c9 ?_
        refine zR_iload dX10_cut_46 4 rfl ?_
        refine zR_bipush (x := (42 : Int32)) dX10_cut_48 rfl ?_
        by_cases c10 : x5 = (42 : Int32)
        · have h := zif_t h c10
          refine zR_icmp_eq_t (tgt := 159) dX10_cut_50 (by decide) c10 ?_
          have h := Option.some.inj h
          subst h
          exact zR_ret dX10_cut_159 rfl
        · have h := zif_f h c10
          refine zR_icmp_eq_f (tgt := 159) dX10_cut_50 (by decide) c10 ?_
          refine zR_aload_n dX10_cut_53 1 rfl ?_
          refine zR_iload dX10_cut_54 3 rfl ?_
          refine zR_iload_n dX10_cut_56 2 rfl ?_
          obtain ⟨q11, hq12, h⟩ := zbd_some h
          refine zR_cS (rest := []) (st1 := [.int q11]) dX10_cut_57 (mX10_behindBlanks F V0 V1 V2 V3 V4 V5 V6 V7 x4 x3 _ hq12) zc_X10_54 rfl rfl (Nat.le_of_ble_eq_true rfl) (Nat.le_of_ble_eq_true rfl) rfl ?_
          refine zR_istore (lv' := [(0, .ref (w.1 + 2)), (1, .ref (w.1 + 1)), (3, .int x3), (4, .int q11), (5, .int x5)]) dX10_cut_60 (Nat.le_of_ble_eq_true rfl) rfl ?_
          refine zR_aload_n dX10_cut_62 1 rfl ?_
          refine zR_iload dX10_cut_63 3 rfl ?_
          refine zR_iload_n dX10_cut_65 2 rfl ?_
          obtain ⟨q13, hq14, h⟩ := zbd_some h
          refine zR_cS (rest := []) (st1 := [.int q13]) dX10_cut_66 (mX10_tokenEnd F V0 V1 V2 V3 V4 V5 V6 V7 q11 x3 _ hq14) zc_X10_58 rfl rfl (Nat.le_of_ble_eq_true rfl) (Nat.le_of_ble_eq_true rfl) rfl ?_
          refine zR_istore (lv' := [(0, .ref (w.1 + 2)), (1, .ref (w.1 + 1)), (3, .int x3), (4, .int q11), (5, .int x5), (6, .int q13)]) dX10_cut_69 (Nat.le_of_ble_eq_true rfl) rfl ?_
          refine zR_aload_n dX10_cut_71 0 rfl ?_
          refine zR_aload_n dX10_cut_72 1 rfl ?_
          refine zR_iload dX10_cut_73 3 rfl ?_
          refine zR_iload dX10_cut_75 5 rfl ?_
          obtain ⟨q15, hq16, h⟩ := zbd_some h
          refine zR_cV (rest := []) (st1 := [.int q15]) dX10_cut_77 (mX10_kindOf F V0 V1 V2 V3 V4 V5 V6 V7 q11 q13 _ hq16) zc_X10_61 rfl (zE_at zd_2) ⟨_, _, rfl⟩ rfl (Nat.le_of_ble_eq_true rfl) (Nat.le_of_ble_eq_true rfl) rfl ?_
          refine zR_istore (lv' := [(0, .ref (w.1 + 2)), (1, .ref (w.1 + 1)), (3, .int x3), (4, .int q11), (5, .int q15), (6, .int q13)]) dX10_cut_80 (Nat.le_of_ble_eq_true rfl) rfl ?_
          refine zR_aload_n dX10_cut_82 0 rfl ?_
          refine zG_getR dX10_cut_83 zf_X10_15 zd_2 rfl rfl ?_
          refine zR_aload_n dX10_cut_86 0 rfl ?_
          refine zG_getI dX10_cut_87 zf_X10_26 zd_2 rfl rfl ?_
          refine zR_iload dX10_cut_90 4 rfl ?_
          refine zR_i2b dX10_cut_92 ?_
          obtain ⟨g17, h⟩ := zchk_some h
          obtain ⟨V1_18, e19, h⟩ := zlet_some h
          refine zG_bast zds_ok dX10_cut_93 zd_4 rfl rfl g17 e19 rfl ?_
          refine zR_aload_n dX10_cut_94 0 rfl ?_
          refine zG_getR dX10_cut_95 zf_X10_19 zd_2 rfl rfl ?_
          refine zR_aload_n dX10_cut_98 0 rfl ?_
          refine zG_getI dX10_cut_99 zf_X10_26 zd_2 rfl rfl ?_
          refine zR_iload dX10_cut_102 3 rfl ?_
          obtain ⟨g20, h⟩ := zchk_some h
          obtain ⟨V1_21, e22, h⟩ := zlet_some h
          refine zG_iast zds_ok dX10_cut_104 zd_5 rfl rfl g20 e22 rfl ?_
          refine zR_aload_n dX10_cut_105 0 rfl ?_
          refine zG_getR dX10_cut_106 zf_X10_23 zd_2 rfl rfl ?_
          refine zR_aload_n dX10_cut_109 0 rfl ?_
          refine zG_getI dX10_cut_110 zf_X10_26 zd_2 rfl rfl ?_
          refine zR_iload dX10_cut_113 4 rfl ?_
          refine zR_bipush (x := (27 : Int32)) dX10_cut_115 rfl ?_
          by_cases c23 : q15 = (27 : Int32)
          · have h := zif_t h c23
            refine zR_icmp_eq_t (tgt := 127) dX10_cut_117 (by decide) c23 ?_
            exact wX10_cut_b127 F (fX10_cut_l29 F n) ih V0 V1_21 V2 V3 V4 V5 V6 V7 x3 q11 q15 q13 (zI V1_21 0 4) _ h
          · have h := zif_f h c23
            refine zR_icmp_eq_f (tgt := 127) dX10_cut_117 (by decide) c23 ?_
            refine zR_iload dX10_cut_120 4 rfl ?_
            refine zR_bipush (x := (28 : Int32)) dX10_cut_122 rfl ?_
            by_cases c24 : q15 = (28 : Int32)
            · have h := zif_t h c24
              refine zR_icmp_ne_f (tgt := 140) dX10_cut_124 (by decide) c24 ?_
              exact wX10_cut_b127 F (fX10_cut_l29 F n) ih V0 V1_21 V2 V3 V4 V5 V6 V7 x3 q11 q15 q13 (zI V1_21 0 4) _ h
            · have h := zif_f h c24
              refine zR_icmp_ne_t (tgt := 140) dX10_cut_124 (by decide) c24 ?_
              refine zR_lconst (x := (0 : Int64)) dX10_cut_140 rfl ?_
              refine zR_sub (lv' := [(0, .ref (w.1 + 2)), (1, .ref (w.1 + 1)), (3, .int x3), (5, .int q15), (6, .int q13)]) [0, 1, 2, 4, 5] rfl ?_
              exact wX10_cut_b141 F (fX10_cut_l29 F n) ih V0 V1_21 V2 V3 V4 V5 V6 V7 x3 q15 q13 (zI V1_21 0 4) (0 : Int64) _ h
set_option maxRecDepth 100000 in
set_option maxHeartbeats 4000000 in
theorem mX10_cut {w : zW} (F : Nat) (V0 V1 V2 V3 V4 V5 V6 V7 : zV) (x2 : Int32) (res : zV) (h : fX10_cut F V0 V1 x2 = some res) : zMet w kX10_cut 3 0 0 [.ref (w.1 + 2), .ref (w.1 + 1), .int x2] (zE zds w [V0, V1, V2, V3, V4, V5, V6, V7]) none (zE zds w [V0, res, V2, V3, V4, V5, V6, V7]) := by
  refine zMet_of (by decide) (Nat.le_of_ble_eq_true rfl) (Nat.le_refl 0) fun _ => ?_
  show zR w kX10_cut 3 0 0 none (zE zds w [V0, res, V2, V3, V4, V5, V6, V7]) 0 [(0, .ref (w.1 + 2)), (1, .ref (w.1 + 1)), (2, .int x2)] [] (zE zds w [V0, V1, V2, V3, V4, V5, V6, V7])
  unfold fX10_cut at h
  refine zR_iload_n dX10_cut_0 2 rfl ?_
  refine zR_aload_n dX10_cut_1 1 rfl ?_
  refine zG_alen (u := (4000 : Int32)) dX10_cut_2 zd_1 (Nat.le_of_ble_eq_true rfl) rfl rfl rfl ?_
  refine zR_mmin dX10_cut_3 zmw_X10_48 (Nat.le_of_ble_eq_true rfl) (Nat.le_of_ble_eq_true rfl) ?_
  obtain ⟨y25, e26, h⟩ := zlet_some h
  refine zR_nmI e26 ?_
  refine zR_istore_n (lv' := [(0, .ref (w.1 + 2)), (1, .ref (w.1 + 1)), (2, .int x2), (3, .int y25)]) dX10_cut_6 (Nat.le_of_ble_eq_true rfl) rfl ?_
  refine zR_aload_n dX10_cut_7 0 rfl ?_
  refine zR_iconst (x := (0 : Int32)) dX10_cut_8 rfl ?_
  obtain ⟨V1_27, e28, h⟩ := zlet_some h
  refine zG_putI zds_ok dX10_cut_9 zf_X10_26 zt_X10_4 zd_2 rfl rfl e28 rfl ?_
  refine zR_aload_n dX10_cut_12 0 rfl ?_
  refine zR_iconst (x := (0 : Int32)) dX10_cut_13 rfl ?_
  obtain ⟨V1_29, e30, h⟩ := zlet_some h
  refine zG_putI zds_ok dX10_cut_14 zf_X10_30 zt_X10_5 zd_2 rfl rfl e30 rfl ?_
  refine zR_aload_n dX10_cut_17 0 rfl ?_
  refine zR_iconst (x := (-1 : Int32)) dX10_cut_18 (by decide) ?_
  obtain ⟨V1_31, e32, h⟩ := zlet_some h
  refine zG_putI zds_ok dX10_cut_19 zf_X10_33 zt_X10_6 zd_2 rfl rfl e32 rfl ?_
  refine zR_iconst (x := (0 : Int32)) dX10_cut_22 rfl ?_
  refine zR_istore (lv' := [(0, .ref (w.1 + 2)), (1, .ref (w.1 + 1)), (2, .int x2), (3, .int y25), (4, .int (0 : Int32))]) dX10_cut_23 (Nat.le_of_ble_eq_true rfl) rfl ?_
  refine zR_bipush (x := (29 : Int32)) dX10_cut_25 rfl ?_
  refine zR_istore (lv' := [(0, .ref (w.1 + 2)), (1, .ref (w.1 + 1)), (2, .int x2), (3, .int y25), (4, .int (0 : Int32)), (5, .int (29 : Int32))]) dX10_cut_27 (Nat.le_of_ble_eq_true rfl) rfl ?_
  refine zR_sub (lv' := [(0, .ref (w.1 + 2)), (1, .ref (w.1 + 1)), (3, .int y25), (4, .int (0 : Int32)), (5, .int (29 : Int32))]) [0, 1, 3, 4, 5] rfl ?_
  exact wX10_cut_l29 F F V0 V1_31 V2 V3 V4 V5 V6 V7 y25 (0 : Int32) (29 : Int32) _ h
set_option maxRecDepth 100000 in
set_option maxHeartbeats 4000000 in
theorem mX10_kindAt {w : zW} (F : Nat) (V0 V1 V2 V3 V4 V5 V6 V7 : zV) (x1 : Int32) (res : Int32) (h : fX10_kindAt F V1 x1 = some res) : zMet w kX10_kindAt 0 0 0 [.ref (w.1 + 2), .int x1] (zE zds w [V0, V1, V2, V3, V4, V5, V6, V7]) (some (.int res)) (zE zds w [V0, V1, V2, V3, V4, V5, V6, V7]) := by
  refine zMet_of (by decide) (Nat.le_of_ble_eq_true rfl) (Nat.le_refl 0) fun _ => ?_
  show zR w kX10_kindAt 0 0 0 (some (.int res)) (zE zds w [V0, V1, V2, V3, V4, V5, V6, V7]) 0 [(0, .ref (w.1 + 2)), (1, .int x1)] [] (zE zds w [V0, V1, V2, V3, V4, V5, V6, V7])
  unfold fX10_kindAt at h
  refine zR_iload_n dX10_kindAt_0 1 rfl ?_
  by_cases c1 : x1 < 0
  · have h := zif_t h c1
    refine zR_if_lt_t (tgt := 21) dX10_kindAt_1 (by decide) c1 ?_
    refine zR_bipush (x := (41 : Int32)) dX10_kindAt_21 rfl ?_
    have h := Option.some.inj h
    subst h
    exact zR_iret (x := (41 : Int32)) dX10_kindAt_23 rfl rfl
  · have h := zif_f h c1
    refine zR_if_lt_f (tgt := 21) dX10_kindAt_1 (by decide) c1 ?_
    refine zR_iload_n dX10_kindAt_4 1 rfl ?_
    refine zR_aload_n dX10_kindAt_5 0 rfl ?_
    refine zG_getI dX10_kindAt_6 zf_X10_26 zd_2 rfl rfl ?_
    by_cases c2 : (zI V1 0 4) ≤ x1
    · have h := zif_t h c2
      refine zR_icmp_ge_t (tgt := 21) dX10_kindAt_9 (by decide) c2 ?_
      refine zR_bipush (x := (41 : Int32)) dX10_kindAt_21 rfl ?_
      have h := Option.some.inj h
      subst h
      exact zR_iret (x := (41 : Int32)) dX10_kindAt_23 rfl rfl
    · have h := zif_f h c2
      refine zR_icmp_ge_f (tgt := 21) dX10_kindAt_9 (by decide) c2 ?_
      refine zR_aload_n dX10_kindAt_12 0 rfl ?_
      refine zG_getR dX10_kindAt_13 zf_X10_15 zd_2 rfl rfl ?_
      refine zR_iload_n dX10_kindAt_16 1 rfl ?_
      obtain ⟨g3, h⟩ := zchk_some h
      refine zG_bald dX10_kindAt_17 zd_4 rfl rfl g3 ?_
      refine zR_goto (tgt := 23) dX10_kindAt_18 (by decide) ?_
      have h := Option.some.inj h
      subst h
      exact zR_iret (x := (zA V1 2 (x1).toNatClampNeg)) dX10_kindAt_23 rfl rfl
set_option maxRecDepth 100000 in
set_option maxHeartbeats 4000000 in
theorem mX2_goesOnWithPart {w : zW} (F : Nat) (V0 V1 V2 V3 V4 V5 V6 V7 : zV) (res : Int32) (h : fX2_goesOnWithPart F V1 V2 = some res) : zMet w kX2_goesOnWithPart 1 0 0 [.ref (w.1 + 7)] (zE zds w [V0, V1, V2, V3, V4, V5, V6, V7]) (some (.int res)) (zE zds w [V0, V1, V2, V3, V4, V5, V6, V7]) := by
  refine zMet_of (by decide) (Nat.le_of_ble_eq_true rfl) (Nat.le_refl 0) fun _ => ?_
  show zR w kX2_goesOnWithPart 1 0 0 (some (.int res)) (zE zds w [V0, V1, V2, V3, V4, V5, V6, V7]) 0 [(0, .ref (w.1 + 7))] [] (zE zds w [V0, V1, V2, V3, V4, V5, V6, V7])
  unfold fX2_goesOnWithPart at h
  refine zR_aload_n dX2_goesOnWithPart_0 0 rfl ?_
  refine zG_getR dX2_goesOnWithPart_1 zf_X2_19 zd_7 rfl rfl ?_
  refine zG_getI dX2_goesOnWithPart_4 zf_X2_50 zd_2 rfl rfl ?_
  by_cases c1 : (zI V1 0 5) = 0
  · have h := zif_t h c1
    refine zR_if_ne_f (tgt := 30) dX2_goesOnWithPart_7 (by decide) c1 ?_
    refine zR_aload_n dX2_goesOnWithPart_10 0 rfl ?_
    refine zG_getR dX2_goesOnWithPart_11 zf_X2_19 zd_7 rfl rfl ?_
    refine zR_aload_n dX2_goesOnWithPart_14 0 rfl ?_
    refine zG_getI dX2_goesOnWithPart_15 zf_X2_9 zd_7 rfl rfl ?_
    obtain ⟨q2, hq3, h⟩ := zbd_some h
    refine zR_cV (rest := []) (st1 := [.int q2]) dX2_goesOnWithPart_18 (mX10_kindAt F V0 V1 V2 V3 V4 V5 V6 V7 (zI V2 0 1) _ hq3) zc_X2_53 rfl (zE_at zd_2) ⟨_, _, rfl⟩ rfl (Nat.le_of_ble_eq_true rfl) (Nat.le_of_ble_eq_true rfl) rfl ?_
    refine zR_bipush (x := (6 : Int32)) dX2_goesOnWithPart_21 rfl ?_
    by_cases c4 : (6 : Int32) < q2
    · have h := zif_t h c4
      refine zR_icmp_gt_t (tgt := 30) dX2_goesOnWithPart_23 (by decide) c4 ?_
      refine zR_iconst (x := (0 : Int32)) dX2_goesOnWithPart_30 rfl ?_
      have h := Option.some.inj h
      subst h
      exact zR_iret (x := (0 : Int32)) dX2_goesOnWithPart_31 rfl znar0
    · have h := zif_f h c4
      refine zR_icmp_gt_f (tgt := 30) dX2_goesOnWithPart_23 (by decide) c4 ?_
      refine zR_iconst (x := (1 : Int32)) dX2_goesOnWithPart_26 rfl ?_
      refine zR_goto (tgt := 31) dX2_goesOnWithPart_27 (by decide) ?_
      have h := Option.some.inj h
      subst h
      exact zR_iret (x := (1 : Int32)) dX2_goesOnWithPart_31 rfl znar1
  · have h := zif_f h c1
    refine zR_if_ne_t (tgt := 30) dX2_goesOnWithPart_7 (by decide) c1 ?_
    refine zR_iconst (x := (0 : Int32)) dX2_goesOnWithPart_30 rfl ?_
    have h := Option.some.inj h
    subst h
    exact zR_iret (x := (0 : Int32)) dX2_goesOnWithPart_31 rfl znar0
set_option maxRecDepth 100000 in
set_option maxHeartbeats 4000000 in
theorem mX9_roomFor {w : zW} (F : Nat) (S : zS) (x0 : Int32) (res : Int32) (h : fX9_roomFor F x0 = some res) : zMet w kX9_roomFor 0 0 0 [.int x0] S (some (.int res)) S := by
  refine zMet_of (by decide) (Nat.le_of_ble_eq_true rfl) (Nat.le_refl 0) fun _ => ?_
  show zR w kX9_roomFor 0 0 0 (some (.int res)) S 0 [(0, .int x0)] [] S
  unfold fX9_roomFor at h
  refine zR_iload_n dX9_roomFor_0 0 rfl ?_
  by_cases c1 : x0 = (0 : Int32)
  · have h := zif_t h c1
    refine zR_tabc (tgt := 44) dX9_roomFor_1 c1 rfl (by decide) ?_
    refine zR_bipush (x := (16 : Int32)) dX9_roomFor_44 rfl ?_
    have h := Option.some.inj h
    subst h
    exact zR_iret (x := (16 : Int32)) dX9_roomFor_46 rfl rfl
  · have h := zif_f h c1
    by_cases c2 : x0 = (1 : Int32)
    · have h := zif_t h c2
      refine zR_tabc (tgt := 47) dX9_roomFor_1 c2 rfl (by decide) ?_
      refine zR_bipush (x := (8 : Int32)) dX9_roomFor_47 rfl ?_
      have h := Option.some.inj h
      subst h
      exact zR_iret (x := (8 : Int32)) dX9_roomFor_49 rfl rfl
    · have h := zif_f h c2
      by_cases c3 : x0 = (2 : Int32)
      · have h := zif_t h c3
        refine zR_tabc (tgt := 50) dX9_roomFor_1 c3 rfl (by decide) ?_
        refine zR_bipush (x := (8 : Int32)) dX9_roomFor_50 rfl ?_
        have h := Option.some.inj h
        subst h
        exact zR_iret (x := (8 : Int32)) dX9_roomFor_52 rfl rfl
      · have h := zif_f h c3
        by_cases c4 : x0 = (3 : Int32)
        · have h := zif_t h c4
          refine zR_tabc (tgt := 53) dX9_roomFor_1 c4 rfl (by decide) ?_
          refine zR_bipush (x := (16 : Int32)) dX9_roomFor_53 rfl ?_
          have h := Option.some.inj h
          subst h
          exact zR_iret (x := (16 : Int32)) dX9_roomFor_55 rfl rfl
        · have h := zif_f h c4
          by_cases c5 : x0 = (4 : Int32)
          · have h := zif_t h c5
            refine zR_tabc (tgt := 56) dX9_roomFor_1 c5 rfl (by decide) ?_
            refine zR_bipush (x := (8 : Int32)) dX9_roomFor_56 rfl ?_
            have h := Option.some.inj h
            subst h
            exact zR_iret (x := (8 : Int32)) dX9_roomFor_58 rfl rfl
          · have h := zif_f h c5
            by_cases c6 : x0 = (5 : Int32)
            · have h := zif_t h c6
              refine zR_tabc (tgt := 59) dX9_roomFor_1 c6 rfl (by decide) ?_
              refine zR_bipush (x := (24 : Int32)) dX9_roomFor_59 rfl ?_
              have h := Option.some.inj h
              subst h
              exact zR_iret (x := (24 : Int32)) dX9_roomFor_61 rfl rfl
            · have h := zif_f h c6
              by_cases c7 : x0 = (6 : Int32)
              · have h := zif_t h c7
                refine zR_tabc (tgt := 62) dX9_roomFor_1 c7 rfl (by decide) ?_
                refine zR_bipush (x := (16 : Int32)) dX9_roomFor_62 rfl ?_
                have h := Option.some.inj h
                subst h
                exact zR_iret (x := (16 : Int32)) dX9_roomFor_64 rfl rfl
              · have h := zif_f h c7
                refine zR_tabO (tgt := 65) dX9_roomFor_1 (by have u0 := zne c1 (n := 0) rfl; have u1 := zne c2 (n := 1) rfl; have u2 := zne c3 (n := 2) rfl; have u3 := zne c4 (n := 3) rfl; have u4 := zne c5 (n := 4) rfl; have u5 := zne c6 (n := 5) rfl; have u6 := zne c7 (n := 6) rfl; omega) (by decide) ?_
                refine zR_bipush (x := (12 : Int32)) dX9_roomFor_65 rfl ?_
                have h := Option.some.inj h
                subst h
                exact zR_iret (x := (12 : Int32)) dX9_roomFor_67 rfl rfl
set_option maxRecDepth 100000 in
set_option maxHeartbeats 4000000 in
theorem mX10_blame {w : zW} (F : Nat) (V0 V1 V2 V3 V4 V5 V6 V7 : zV) (x1 : Int32) (x2 : Int32) (res : zV) (h : fX10_blame F V1 x1 x2 = some res) : zMet w kX10_blame 0 0 0 [.ref (w.1 + 2), .int x1, .int x2] (zE zds w [V0, V1, V2, V3, V4, V5, V6, V7]) none (zE zds w [V0, res, V2, V3, V4, V5, V6, V7]) := by
  refine zMet_of (by decide) (Nat.le_of_ble_eq_true rfl) (Nat.le_refl 0) fun _ => ?_
  show zR w kX10_blame 0 0 0 none (zE zds w [V0, res, V2, V3, V4, V5, V6, V7]) 0 [(0, .ref (w.1 + 2)), (1, .int x1), (2, .int x2)] [] (zE zds w [V0, V1, V2, V3, V4, V5, V6, V7])
  unfold fX10_blame at h
  refine zR_aload_n dX10_blame_0 0 rfl ?_
  refine zG_getI dX10_blame_1 zf_X10_30 zd_2 rfl rfl ?_
  by_cases c1 : (zI V1 0 5) = 0
  · have h := zif_t h c1
    refine zR_if_ne_f (tgt := 34) dX10_blame_4 (by decide) c1 ?_
    refine zR_iload_n dX10_blame_7 2 rfl ?_
    by_cases c2 : x2 < 0
    · have h := zif_t h c2
      refine zR_if_lt_t (tgt := 34) dX10_blame_8 (by decide) c2 ?_
      have h := Option.some.inj h
      subst h
      exact zR_ret dX10_blame_34 rfl
    · have h := zif_f h c2
      refine zR_if_lt_f (tgt := 34) dX10_blame_8 (by decide) c2 ?_
      refine zR_iload_n dX10_blame_11 2 rfl ?_
      refine zR_aload_n dX10_blame_12 0 rfl ?_
      refine zG_getI dX10_blame_13 zf_X10_26 zd_2 rfl rfl ?_
      by_cases c3 : (zI V1 0 4) ≤ x2
      · have h := zif_t h c3
        refine zR_icmp_ge_t (tgt := 34) dX10_blame_16 (by decide) c3 ?_
        have h := Option.some.inj h
        subst h
        exact zR_ret dX10_blame_34 rfl
      · have h := zif_f h c3
        refine zR_icmp_ge_f (tgt := 34) dX10_blame_16 (by decide) c3 ?_
        refine zR_aload_n dX10_blame_19 0 rfl ?_
        refine zR_iload_n dX10_blame_20 1 rfl ?_
        obtain ⟨V1_4, e5, h⟩ := zlet_some h
        refine zG_putI zds_ok dX10_blame_21 zf_X10_30 zt_X10_5 zd_2 rfl rfl e5 rfl ?_
        refine zR_aload_n dX10_blame_24 0 rfl ?_
        refine zR_aload_n dX10_blame_25 0 rfl ?_
        refine zG_getR dX10_blame_26 zf_X10_19 zd_2 rfl rfl ?_
        refine zR_iload_n dX10_blame_29 2 rfl ?_
        obtain ⟨g6, h⟩ := zchk_some h
        refine zG_iald dX10_blame_30 zd_5 rfl rfl g6 ?_
        obtain ⟨V1_7, e8, h⟩ := zlet_some h
        refine zG_putI zds_ok dX10_blame_31 zf_X10_33 zt_X10_6 zd_2 rfl rfl e8 rfl ?_
        have h := Option.some.inj h
        subst h
        exact zR_ret dX10_blame_34 rfl
  · have h := zif_f h c1
    refine zR_if_ne_t (tgt := 34) dX10_blame_4 (by decide) c1 ?_
    have h := Option.some.inj h
    subst h
    exact zR_ret dX10_blame_34 rfl
set_option maxRecDepth 100000 in
set_option maxHeartbeats 4000000 in
theorem mX2_pass {w : zW} (F : Nat) (V0 V1 V2 V3 V4 V5 V6 V7 : zV) (res : zV × zV) (h : fX2_pass F V1 V2 = some res) : zMet w kX2_pass 1 0 0 [.ref (w.1 + 7)] (zE zds w [V0, V1, V2, V3, V4, V5, V6, V7]) none (zE zds w [V0, res.1, res.2, V3, V4, V5, V6, V7]) := by
  refine zMet_of (by decide) (Nat.le_of_ble_eq_true rfl) (Nat.le_refl 0) fun _ => ?_
  show zR w kX2_pass 1 0 0 none (zE zds w [V0, res.1, res.2, V3, V4, V5, V6, V7]) 0 [(0, .ref (w.1 + 7))] [] (zE zds w [V0, V1, V2, V3, V4, V5, V6, V7])
  unfold fX2_pass at h
  refine zR_aload_n dX2_pass_0 0 rfl ?_
  refine zG_getI dX2_pass_1 zf_X2_9 zd_7 rfl rfl ?_
  refine zR_sipush (x := (1000 : Int32)) dX2_pass_4 rfl ?_
  by_cases c1 : (zI V2 0 1) < (1000 : Int32)
  · have h := zif_t h c1
    refine zR_icmp_lt_t (tgt := 25) dX2_pass_7 (by decide) c1 ?_
    refine zR_aload_n dX2_pass_25 0 rfl ?_
    refine zR_dup dX2_pass_26 rfl ?_
    refine zG_getI dX2_pass_27 zf_X2_9 zd_7 rfl rfl ?_
    refine zR_iconst (x := (1 : Int32)) dX2_pass_30 rfl ?_
    refine zR_iadd dX2_pass_31 ?_
    obtain ⟨V2_2, e3, h⟩ := zlet_some h
    refine zG_putI zds_ok dX2_pass_32 zf_X2_9 zt_X2_1 zd_7 rfl rfl e3 rfl ?_
    have h := Option.some.inj h
    subst h
    exact zR_ret dX2_pass_35 rfl
  · have h := zif_f h c1
    refine zR_icmp_lt_f (tgt := 25) dX2_pass_7 (by decide) c1 ?_
    refine zR_aload_n dX2_pass_10 0 rfl ?_
    refine zG_getR dX2_pass_11 zf_X2_19 zd_7 rfl rfl ?_
    refine zR_iconst (x := (2 : Int32)) dX2_pass_14 rfl ?_
    refine zR_aload_n dX2_pass_15 0 rfl ?_
    refine zG_getI dX2_pass_16 zf_X2_9 zd_7 rfl rfl ?_
    obtain ⟨q4, hq5, h⟩ := zbd_some h
    refine zR_cV (rest := []) (st1 := []) dX2_pass_19 (mX10_blame F V0 V1 V2 V3 V4 V5 V6 V7 (2 : Int32) (zI V2 0 1) _ hq5) zc_X2_44 rfl (zE_at zd_2) ⟨_, _, rfl⟩ rfl (Nat.le_of_ble_eq_true rfl) (Nat.le_of_ble_eq_true rfl) rfl ?_
    refine zR_goto (tgt := 35) dX2_pass_22 (by decide) ?_
    have h := Option.some.inj h
    subst h
    exact zR_ret dX2_pass_35 rfl
set_option maxRecDepth 100000 in
set_option maxHeartbeats 4000000 in
theorem wX2_passNewOne_b45 {w : zW} (F : Nat) (V0 V1 V2 V3 V4 V5 V6 V7 : zV) (res : zV × zV) (h : fX2_passNewOne_b45 F V1 V2 = some res) : zR w kX2_passNewOne 2 0 0 none (zE zds w [V0, res.1, res.2, V3, V4, V5, V6, V7]) 45 [(0, .ref (w.1 + 7))] [] (zE zds w [V0, V1, V2, V3, V4, V5, V6, V7]) := by
  unfold fX2_passNewOne_b45 at h
  refine zR_aload_n dX2_passNewOne_45 0 rfl ?_
  obtain ⟨q1, hq2, h⟩ := zbd_some h
  refine zR_cV (rest := []) (st1 := []) dX2_passNewOne_46 (mX2_pass F V0 V1 V2 V3 V4 V5 V6 V7 _ hq2) zc_X2_57 rfl (zE_at zd_7) ⟨_, _, rfl⟩ rfl (Nat.le_of_ble_eq_true rfl) (Nat.le_of_ble_eq_true rfl) rfl ?_
  have h := Option.some.inj h
  subst h
  exact zR_ret dX2_passNewOne_49 rfl
set_option maxRecDepth 100000 in
set_option maxHeartbeats 4000000 in
theorem mX2_passNewOne {w : zW} (F : Nat) (V0 V1 V2 V3 V4 V5 V6 V7 : zV) (x1 : Int32) (x2 : Int32) (res : zV × zV) (h : fX2_passNewOne F V1 V2 x1 x2 = some res) : zMet w kX2_passNewOne 2 0 0 [.ref (w.1 + 7), .int x1, .int x2] (zE zds w [V0, V1, V2, V3, V4, V5, V6, V7]) none (zE zds w [V0, res.1, res.2, V3, V4, V5, V6, V7]) := by
  refine zMet_of (by decide) (Nat.le_of_ble_eq_true rfl) (Nat.le_refl 0) fun _ => ?_
  show zR w kX2_passNewOne 2 0 0 none (zE zds w [V0, res.1, res.2, V3, V4, V5, V6, V7]) 0 [(0, .ref (w.1 + 7)), (1, .int x1), (2, .int x2)] [] (zE zds w [V0, V1, V2, V3, V4, V5, V6, V7])
  unfold fX2_passNewOne at h
  refine zR_iload_n dX2_passNewOne_0 1 rfl ?_
  by_cases c3 : x1 < 0
  · have h := zif_t h c3
    refine zR_if_lt_t (tgt := 45) dX2_passNewOne_1 (by decide) c3 ?_
    refine zR_sub (lv' := [(0, .ref (w.1 + 7))]) [0] rfl ?_
    exact wX2_passNewOne_b45 F V0 V1 V2 V3 V4 V5 V6 V7 _ h
  · have h := zif_f h c3
    refine zR_if_lt_f (tgt := 45) dX2_passNewOne_1 (by decide) c3 ?_
    refine zR_iload_n dX2_passNewOne_4 1 rfl ?_
    refine zR_aload_n dX2_passNewOne_5 0 rfl ?_
    refine zG_getR dX2_passNewOne_6 zf_X2_15 zd_7 rfl rfl ?_
    refine zG_alen (u := (27 : Int32)) dX2_passNewOne_9 zd_8 (Nat.le_of_ble_eq_true rfl) rfl rfl rfl ?_
    by_cases c4 : (27 : Int32) ≤ x1
    · have h := zif_t h c4
      refine zR_icmp_ge_t (tgt := 45) dX2_passNewOne_10 (by decide) c4 ?_
      refine zR_sub (lv' := [(0, .ref (w.1 + 7))]) [0] rfl ?_
      exact wX2_passNewOne_b45 F V0 V1 V2 V3 V4 V5 V6 V7 _ h
    · have h := zif_f h c4
      refine zR_icmp_ge_f (tgt := 45) dX2_passNewOne_10 (by decide) c4 ?_
      refine zR_aload_n dX2_passNewOne_13 0 rfl ?_
      refine zG_getR dX2_passNewOne_14 zf_X2_15 zd_7 rfl rfl ?_
      refine zR_iload_n dX2_passNewOne_17 1 rfl ?_
      refine zR_dup2 dX2_passNewOne_18 rfl rfl ?_
      obtain ⟨g5, h⟩ := zchk_some h
      refine zG_iald dX2_passNewOne_19 zd_8 rfl rfl g5 ?_
      refine zR_iconst (x := (1 : Int32)) dX2_passNewOne_20 rfl ?_
      refine zR_iadd dX2_passNewOne_21 ?_
      obtain ⟨g6, h⟩ := zchk_some h
      obtain ⟨V2_7, e8, h⟩ := zlet_some h
      refine zG_iast zds_ok dX2_passNewOne_22 zd_8 rfl rfl g6 e8 rfl ?_
      refine zR_aload_n dX2_passNewOne_23 0 rfl ?_
      refine zG_getR dX2_passNewOne_24 zf_X2_15 zd_7 rfl rfl ?_
      refine zR_iload_n dX2_passNewOne_27 1 rfl ?_
      obtain ⟨g9, h⟩ := zchk_some h
      refine zG_iald dX2_passNewOne_28 zd_8 rfl rfl g9 ?_
      refine zR_iload_n dX2_passNewOne_29 2 rfl ?_
      by_cases c10 : (zA V2_7 1 (x1).toNatClampNeg) ≤ x2
      · have h := zif_t h c10
        refine zR_icmp_le_t (tgt := 45) dX2_passNewOne_30 (by decide) c10 ?_
        refine zR_sub (lv' := [(0, .ref (w.1 + 7))]) [0] rfl ?_
        exact wX2_passNewOne_b45 F V0 V1 V2_7 V3 V4 V5 V6 V7 _ h
      · have h := zif_f h c10
        refine zR_icmp_le_f (tgt := 45) dX2_passNewOne_30 (by decide) c10 ?_
        refine zR_aload_n dX2_passNewOne_33 0 rfl ?_
        refine zG_getR dX2_passNewOne_34 zf_X2_19 zd_7 rfl rfl ?_
        refine zR_iconst (x := (2 : Int32)) dX2_passNewOne_37 rfl ?_
        refine zR_aload_n dX2_passNewOne_38 0 rfl ?_
        refine zG_getI dX2_passNewOne_39 zf_X2_9 zd_7 rfl rfl ?_
        obtain ⟨q11, hq12, h⟩ := zbd_some h
        refine zR_cV (rest := []) (st1 := []) dX2_passNewOne_42 (mX10_blame F V0 V1 V2_7 V3 V4 V5 V6 V7 (2 : Int32) (zI V2_7 0 1) _ hq12) zc_X2_44 rfl (zE_at zd_2) ⟨_, _, rfl⟩ rfl (Nat.le_of_ble_eq_true rfl) (Nat.le_of_ble_eq_true rfl) rfl ?_
        refine zR_sub (lv' := [(0, .ref (w.1 + 7))]) [0] rfl ?_
        exact wX2_passNewOne_b45 F V0 q11 V2_7 V3 V4 V5 V6 V7 _ h
set_option maxRecDepth 100000 in
set_option maxHeartbeats 4000000 in
theorem mX2_sees {w : zW} (F : Nat) (V0 V1 V2 V3 V4 V5 V6 V7 : zV) (x1 : Int32) (res : Int32) (h : fX2_sees F V1 V2 x1 = some res) : zMet w kX2_sees 1 0 0 [.ref (w.1 + 7), .int x1] (zE zds w [V0, V1, V2, V3, V4, V5, V6, V7]) (some (.int res)) (zE zds w [V0, V1, V2, V3, V4, V5, V6, V7]) := by
  refine zMet_of (by decide) (Nat.le_of_ble_eq_true rfl) (Nat.le_refl 0) fun _ => ?_
  show zR w kX2_sees 1 0 0 (some (.int res)) (zE zds w [V0, V1, V2, V3, V4, V5, V6, V7]) 0 [(0, .ref (w.1 + 7)), (1, .int x1)] [] (zE zds w [V0, V1, V2, V3, V4, V5, V6, V7])
  unfold fX2_sees at h
  refine zR_aload_n dX2_sees_0 0 rfl ?_
  refine zG_getR dX2_sees_1 zf_X2_19 zd_7 rfl rfl ?_
  refine zG_getI dX2_sees_4 zf_X2_50 zd_2 rfl rfl ?_
  by_cases c1 : (zI V1 0 5) = 0
  · have h := zif_t h c1
    refine zR_if_ne_f (tgt := 29) dX2_sees_7 (by decide) c1 ?_
    refine zR_aload_n dX2_sees_10 0 rfl ?_
    refine zG_getR dX2_sees_11 zf_X2_19 zd_7 rfl rfl ?_
    refine zR_aload_n dX2_sees_14 0 rfl ?_
    refine zG_getI dX2_sees_15 zf_X2_9 zd_7 rfl rfl ?_
    obtain ⟨q2, hq3, h⟩ := zbd_some h
    refine zR_cV (rest := []) (st1 := [.int q2]) dX2_sees_18 (mX10_kindAt F V0 V1 V2 V3 V4 V5 V6 V7 (zI V2 0 1) _ hq3) zc_X2_53 rfl (zE_at zd_2) ⟨_, _, rfl⟩ rfl (Nat.le_of_ble_eq_true rfl) (Nat.le_of_ble_eq_true rfl) rfl ?_
    refine zR_iload_n dX2_sees_21 1 rfl ?_
    by_cases c4 : q2 = x1
    · have h := zif_t h c4
      refine zR_icmp_ne_f (tgt := 29) dX2_sees_22 (by decide) c4 ?_
      refine zR_iconst (x := (1 : Int32)) dX2_sees_25 rfl ?_
      refine zR_goto (tgt := 30) dX2_sees_26 (by decide) ?_
      have h := Option.some.inj h
      subst h
      exact zR_iret (x := (1 : Int32)) dX2_sees_30 rfl znar1
    · have h := zif_f h c4
      refine zR_icmp_ne_t (tgt := 29) dX2_sees_22 (by decide) c4 ?_
      refine zR_iconst (x := (0 : Int32)) dX2_sees_29 rfl ?_
      have h := Option.some.inj h
      subst h
      exact zR_iret (x := (0 : Int32)) dX2_sees_30 rfl znar0
  · have h := zif_f h c1
    refine zR_if_ne_t (tgt := 29) dX2_sees_7 (by decide) c1 ?_
    refine zR_iconst (x := (0 : Int32)) dX2_sees_29 rfl ?_
    have h := Option.some.inj h
    subst h
    exact zR_iret (x := (0 : Int32)) dX2_sees_30 rfl znar0
set_option maxRecDepth 100000 in
set_option maxHeartbeats 4000000 in
theorem mX2_need {w : zW} (F : Nat) (V0 V1 V2 V3 V4 V5 V6 V7 : zV) (x1 : Int32) (res : zV × zV) (h : fX2_need F V1 V2 x1 = some res) : zMet w kX2_need 2 0 0 [.ref (w.1 + 7), .int x1] (zE zds w [V0, V1, V2, V3, V4, V5, V6, V7]) none (zE zds w [V0, res.1, res.2, V3, V4, V5, V6, V7]) := by
  refine zMet_of (by decide) (Nat.le_of_ble_eq_true rfl) (Nat.le_refl 0) fun _ => ?_
  show zR w kX2_need 2 0 0 none (zE zds w [V0, res.1, res.2, V3, V4, V5, V6, V7]) 0 [(0, .ref (w.1 + 7)), (1, .int x1)] [] (zE zds w [V0, V1, V2, V3, V4, V5, V6, V7])
  unfold fX2_need at h
  refine zR_aload_n dX2_need_0 0 rfl ?_
  refine zR_iload_n dX2_need_1 1 rfl ?_
  obtain ⟨q1, hq2, h⟩ := zbd_some h
  refine zR_cV (rest := []) (st1 := [.int q1]) dX2_need_2 (mX2_sees F V0 V1 V2 V3 V4 V5 V6 V7 x1 _ hq2) zc_X2_30 rfl (zE_at zd_7) ⟨_, _, rfl⟩ rfl (Nat.le_of_ble_eq_true rfl) (Nat.le_of_ble_eq_true rfl) rfl ?_
  by_cases c3 : q1 = 0
  · have h := zif_t h c3
    refine zR_if_eq_t (tgt := 15) dX2_need_5 (by decide) c3 ?_
    refine zR_aload_n dX2_need_15 0 rfl ?_
    refine zG_getR dX2_need_16 zf_X2_19 zd_7 rfl rfl ?_
    refine zR_iconst (x := (1 : Int32)) dX2_need_19 rfl ?_
    refine zR_aload_n dX2_need_20 0 rfl ?_
    refine zG_getI dX2_need_21 zf_X2_9 zd_7 rfl rfl ?_
    obtain ⟨q4, hq5, h⟩ := zbd_some h
    refine zR_cV (rest := []) (st1 := []) dX2_need_24 (mX10_blame F V0 V1 V2 V3 V4 V5 V6 V7 (1 : Int32) (zI V2 0 1) _ hq5) zc_X2_44 rfl (zE_at zd_2) ⟨_, _, rfl⟩ rfl (Nat.le_of_ble_eq_true rfl) (Nat.le_of_ble_eq_true rfl) rfl ?_
    have h := Option.some.inj h
    subst h
    exact zR_ret dX2_need_27 rfl
  · have h := zif_f h c3
    refine zR_if_eq_f (tgt := 15) dX2_need_5 (by decide) c3 ?_
    refine zR_aload_n dX2_need_8 0 rfl ?_
    obtain ⟨q6, hq7, h⟩ := zbd_some h
    refine zR_cV (rest := []) (st1 := []) dX2_need_9 (mX2_pass F V0 V1 V2 V3 V4 V5 V6 V7 _ hq7) zc_X2_57 rfl (zE_at zd_7) ⟨_, _, rfl⟩ rfl (Nat.le_of_ble_eq_true rfl) (Nat.le_of_ble_eq_true rfl) rfl ?_
    refine zR_goto (tgt := 27) dX2_need_12 (by decide) ?_
    have h := Option.some.inj h
    subst h
    exact zR_ret dX2_need_27 rfl
set_option maxRecDepth 100000 in
set_option maxHeartbeats 4000000 in
theorem wX2_checkPart_b118 {w : zW} (F : Nat) (V0 V1 V2 V3 V4 V5 V6 V7 : zV) (res : zV × zV) (h : fX2_checkPart_b118 F V1 V2 = some res) : zR w kX2_checkPart 3 0 0 none (zE zds w [V0, res.1, res.2, V3, V4, V5, V6, V7]) 118 [(0, .ref (w.1 + 7))] [] (zE zds w [V0, V1, V2, V3, V4, V5, V6, V7]) := by
  unfold fX2_checkPart_b118 at h
  refine zR_aload_n dX2_checkPart_118 0 rfl ?_
  refine zR_bipush (x := (29 : Int32)) dX2_checkPart_119 rfl ?_
  obtain ⟨q1, hq2, h⟩ := zbd_some h
  refine zR_cV (rest := []) (st1 := []) dX2_checkPart_121 (mX2_need F V0 V1 V2 V3 V4 V5 V6 V7 (29 : Int32) _ hq2) zc_X2_40 rfl (zE_at zd_7) ⟨_, _, rfl⟩ rfl (Nat.le_of_ble_eq_true rfl) (Nat.le_of_ble_eq_true rfl) rfl ?_
  have h := Option.some.inj h
  subst h
  exact zR_ret dX2_checkPart_124 rfl
set_option maxRecDepth 100000 in
set_option maxHeartbeats 4000000 in
theorem wX2_checkPart_b81 {w : zW} (F : Nat) (V0 V1 V2 V3 V4 V5 V6 V7 : zV) (res : zV × zV) (h : fX2_checkPart_b81 F V1 V2 = some res) : zR w kX2_checkPart 3 0 0 none (zE zds w [V0, res.1, res.2, V3, V4, V5, V6, V7]) 81 [(0, .ref (w.1 + 7))] [] (zE zds w [V0, V1, V2, V3, V4, V5, V6, V7]) := by
  unfold fX2_checkPart_b81 at h
  refine zR_aload_n dX2_checkPart_81 0 rfl ?_
  refine zR_bipush (x := (27 : Int32)) dX2_checkPart_82 rfl ?_
  obtain ⟨q3, hq4, h⟩ := zbd_some h
  refine zR_cV (rest := []) (st1 := []) dX2_checkPart_84 (mX2_need F V0 V1 V2 V3 V4 V5 V6 V7 (27 : Int32) _ hq4) zc_X2_40 rfl (zE_at zd_7) ⟨_, _, rfl⟩ rfl (Nat.le_of_ble_eq_true rfl) (Nat.le_of_ble_eq_true rfl) rfl ?_
  refine zR_goto (tgt := 118) dX2_checkPart_87 (by decide) ?_
  exact wX2_checkPart_b118 F V0 q3.1 q3.2 V3 V4 V5 V6 V7 _ h
set_option maxRecDepth 100000 in
set_option maxHeartbeats 4000000 in
theorem wX2_checkPart_b72 {w : zW} (F : Nat) (V0 V1 V2 V3 V4 V5 V6 V7 : zV) (res : zV × zV) (h : fX2_checkPart_b72 F V1 V2 = some res) : zR w kX2_checkPart 3 0 0 none (zE zds w [V0, res.1, res.2, V3, V4, V5, V6, V7]) 72 [(0, .ref (w.1 + 7))] [] (zE zds w [V0, V1, V2, V3, V4, V5, V6, V7]) := by
  unfold fX2_checkPart_b72 at h
  refine zR_aload_n dX2_checkPart_72 0 rfl ?_
  refine zR_bipush (x := (28 : Int32)) dX2_checkPart_73 rfl ?_
  obtain ⟨q5, hq6, h⟩ := zbd_some h
  refine zR_cV (rest := []) (st1 := []) dX2_checkPart_75 (mX2_need F V0 V1 V2 V3 V4 V5 V6 V7 (28 : Int32) _ hq6) zc_X2_40 rfl (zE_at zd_7) ⟨_, _, rfl⟩ rfl (Nat.le_of_ble_eq_true rfl) (Nat.le_of_ble_eq_true rfl) rfl ?_
  refine zR_goto (tgt := 118) dX2_checkPart_78 (by decide) ?_
  exact wX2_checkPart_b118 F V0 q5.1 q5.2 V3 V4 V5 V6 V7 _ h
set_option maxRecDepth 100000 in
set_option maxHeartbeats 4000000 in
theorem mX2_checkPart {w : zW} (F : Nat) (V0 V1 V2 V3 V4 V5 V6 V7 : zV) (res : zV × zV) (h : fX2_checkPart F V1 V2 = some res) : zMet w kX2_checkPart 3 0 0 [.ref (w.1 + 7)] (zE zds w [V0, V1, V2, V3, V4, V5, V6, V7]) none (zE zds w [V0, res.1, res.2, V3, V4, V5, V6, V7]) := by
  refine zMet_of (by decide) (Nat.le_of_ble_eq_true rfl) (Nat.le_refl 0) fun _ => ?_
  show zR w kX2_checkPart 3 0 0 none (zE zds w [V0, res.1, res.2, V3, V4, V5, V6, V7]) 0 [(0, .ref (w.1 + 7))] [] (zE zds w [V0, V1, V2, V3, V4, V5, V6, V7])
  unfold fX2_checkPart at h
  refine zR_aload_n dX2_checkPart_0 0 rfl ?_
  refine zG_getR dX2_checkPart_1 zf_X2_19 zd_7 rfl rfl ?_
  refine zR_aload_n dX2_checkPart_4 0 rfl ?_
  refine zG_getI dX2_checkPart_5 zf_X2_9 zd_7 rfl rfl ?_
  obtain ⟨q7, hq8, h⟩ := zbd_some h
  refine zR_cV (rest := []) (st1 := [.int q7]) dX2_checkPart_8 (mX10_kindAt F V0 V1 V2 V3 V4 V5 V6 V7 (zI V2 0 1) _ hq8) zc_X2_53 rfl (zE_at zd_2) ⟨_, _, rfl⟩ rfl (Nat.le_of_ble_eq_true rfl) (Nat.le_of_ble_eq_true rfl) rfl ?_
  refine zR_istore_n (lv' := [(0, .ref (w.1 + 7)), (1, .int q7)]) dX2_checkPart_11 (Nat.le_of_ble_eq_true rfl) rfl ?_
  refine zR_aload_n dX2_checkPart_12 0 rfl ?_
  refine zR_iload_n dX2_checkPart_13 1 rfl ?_
  refine zR_iload_n dX2_checkPart_14 1 rfl ?_
  obtain ⟨q9, hq10, h⟩ := zbd_some h
  refine zR_cS (rest := [.int q7, .ref (w.1 + 7)]) (st1 := [.int q9, .int q7, .ref (w.1 + 7)]) dX2_checkPart_15 (mX9_roomFor F (zE zds w [V0, V1, V2, V3, V4, V5, V6, V7]) q7 _ hq10) zc_X2_60 rfl rfl (Nat.le_of_ble_eq_true rfl) (Nat.le_of_ble_eq_true rfl) rfl ?_
  obtain ⟨q11, hq12, h⟩ := zbd_some h
  refine zR_cV (rest := []) (st1 := []) dX2_checkPart_18 (mX2_passNewOne F V0 V1 V2 V3 V4 V5 V6 V7 q7 q9 _ hq12) zc_X2_65 rfl (zE_at zd_7) ⟨_, _, rfl⟩ rfl (Nat.le_of_ble_eq_true rfl) (Nat.le_of_ble_eq_true rfl) rfl ?_
  refine zR_aload_n dX2_checkPart_21 0 rfl ?_
  refine zR_bipush (x := (27 : Int32)) dX2_checkPart_22 rfl ?_
  obtain ⟨q13, hq14, h⟩ := zbd_some h
  refine zR_cV (rest := []) (st1 := []) dX2_checkPart_24 (mX2_need F V0 q11.1 q11.2 V3 V4 V5 V6 V7 (27 : Int32) _ hq14) zc_X2_40 rfl (zE_at zd_7) ⟨_, _, rfl⟩ rfl (Nat.le_of_ble_eq_true rfl) (Nat.le_of_ble_eq_true rfl) rfl ?_
  refine zR_iload_n dX2_checkPart_27 1 rfl ?_
  by_cases c15 : q7 = (0 : Int32)
  · have h := zif_t h c15
    refine zR_tabc (tgt := 72) dX2_checkPart_28 c15 rfl (by decide) ?_
    refine zR_sub (lv' := [(0, .ref (w.1 + 7))]) [0] rfl ?_
    exact wX2_checkPart_b72 F V0 q13.1 q13.2 V3 V4 V5 V6 V7 _ h
  · have h := zif_f h c15
    by_cases c16 : q7 = (1 : Int32)
    · have h := zif_t h c16
      refine zR_tabc (tgt := 72) dX2_checkPart_28 c16 rfl (by decide) ?_
      refine zR_sub (lv' := [(0, .ref (w.1 + 7))]) [0] rfl ?_
      exact wX2_checkPart_b72 F V0 q13.1 q13.2 V3 V4 V5 V6 V7 _ h
    · have h := zif_f h c16
      by_cases c17 : q7 = (2 : Int32)
      · have h := zif_t h c17
        refine zR_tabc (tgt := 81) dX2_checkPart_28 c17 rfl (by decide) ?_
        refine zR_sub (lv' := [(0, .ref (w.1 + 7))]) [0] rfl ?_
        exact wX2_checkPart_b81 F V0 q13.1 q13.2 V3 V4 V5 V6 V7 _ h
      · have h := zif_f h c17
        by_cases c18 : q7 = (3 : Int32)
        · have h := zif_t h c18
          refine zR_tabc (tgt := 81) dX2_checkPart_28 c18 rfl (by decide) ?_
          refine zR_sub (lv' := [(0, .ref (w.1 + 7))]) [0] rfl ?_
          exact wX2_checkPart_b81 F V0 q13.1 q13.2 V3 V4 V5 V6 V7 _ h
        · have h := zif_f h c18
          by_cases c19 : q7 = (4 : Int32)
          · have h := zif_t h c19
            refine zR_tabc (tgt := 118) dX2_checkPart_28 c19 rfl (by decide) ?_
            refine zR_sub (lv' := [(0, .ref (w.1 + 7))]) [0] rfl ?_
            exact wX2_checkPart_b118 F V0 q13.1 q13.2 V3 V4 V5 V6 V7 _ h
          · have h := zif_f h c19
            by_cases c20 : q7 = (5 : Int32)
            · have h := zif_t h c20
              refine zR_tabc (tgt := 90) dX2_checkPart_28 c20 rfl (by decide) ?_
              refine zR_aload_n dX2_checkPart_90 0 rfl ?_
              refine zR_bipush (x := (27 : Int32)) dX2_checkPart_91 rfl ?_
              obtain ⟨q21, hq22, h⟩ := zbd_some h
              refine zR_cV (rest := []) (st1 := []) dX2_checkPart_93 (mX2_need F V0 q13.1 q13.2 V3 V4 V5 V6 V7 (27 : Int32) _ hq22) zc_X2_40 rfl (zE_at zd_7) ⟨_, _, rfl⟩ rfl (Nat.le_of_ble_eq_true rfl) (Nat.le_of_ble_eq_true rfl) rfl ?_
              refine zR_aload_n dX2_checkPart_96 0 rfl ?_
              refine zR_bipush (x := (8 : Int32)) dX2_checkPart_97 rfl ?_
              obtain ⟨q23, hq24, h⟩ := zbd_some h
              refine zR_cV (rest := []) (st1 := [.int q23]) dX2_checkPart_99 (mX2_sees F V0 q21.1 q21.2 V3 V4 V5 V6 V7 (8 : Int32) _ hq24) zc_X2_30 rfl (zE_at zd_7) ⟨_, _, rfl⟩ rfl (Nat.le_of_ble_eq_true rfl) (Nat.le_of_ble_eq_true rfl) rfl ?_
              by_cases c25 : q23 = 0
              · have h := zif_t h c25
                refine zR_if_eq_t (tgt := 118) dX2_checkPart_102 (by decide) c25 ?_
                refine zR_sub (lv' := [(0, .ref (w.1 + 7))]) [0] rfl ?_
                exact wX2_checkPart_b118 F V0 q21.1 q21.2 V3 V4 V5 V6 V7 _ h
              · have h := zif_f h c25
                refine zR_if_eq_f (tgt := 118) dX2_checkPart_102 (by decide) c25 ?_
                refine zR_aload_n dX2_checkPart_105 0 rfl ?_
                obtain ⟨q26, hq27, h⟩ := zbd_some h
                refine zR_cV (rest := []) (st1 := []) dX2_checkPart_106 (mX2_pass F V0 q21.1 q21.2 V3 V4 V5 V6 V7 _ hq27) zc_X2_57 rfl (zE_at zd_7) ⟨_, _, rfl⟩ rfl (Nat.le_of_ble_eq_true rfl) (Nat.le_of_ble_eq_true rfl) rfl ?_
                refine zR_aload_n dX2_checkPart_109 0 rfl ?_
                refine zR_bipush (x := (27 : Int32)) dX2_checkPart_110 rfl ?_
                obtain ⟨q28, hq29, h⟩ := zbd_some h
                refine zR_cV (rest := []) (st1 := []) dX2_checkPart_112 (mX2_need F V0 q26.1 q26.2 V3 V4 V5 V6 V7 (27 : Int32) _ hq29) zc_X2_40 rfl (zE_at zd_7) ⟨_, _, rfl⟩ rfl (Nat.le_of_ble_eq_true rfl) (Nat.le_of_ble_eq_true rfl) rfl ?_
                refine zR_goto (tgt := 118) dX2_checkPart_115 (by decide) ?_
                refine zR_sub (lv' := [(0, .ref (w.1 + 7))]) [0] rfl ?_
                exact wX2_checkPart_b118 F V0 q28.1 q28.2 V3 V4 V5 V6 V7 _ h
            · have h := zif_f h c20
              by_cases c30 : q7 = (6 : Int32)
              · have h := zif_t h c30
                refine zR_tabc (tgt := 72) dX2_checkPart_28 c30 rfl (by decide) ?_
                refine zR_sub (lv' := [(0, .ref (w.1 + 7))]) [0] rfl ?_
                exact wX2_checkPart_b72 F V0 q13.1 q13.2 V3 V4 V5 V6 V7 _ h
              · have h := zif_f h c30
                refine zR_tabO (tgt := 118) dX2_checkPart_28 (by have u0 := zne c15 (n := 0) rfl; have u1 := zne c16 (n := 1) rfl; have u2 := zne c17 (n := 2) rfl; have u3 := zne c18 (n := 3) rfl; have u4 := zne c19 (n := 4) rfl; have u5 := zne c20 (n := 5) rfl; have u6 := zne c30 (n := 6) rfl; omega) (by decide) ?_
                refine zR_sub (lv' := [(0, .ref (w.1 + 7))]) [0] rfl ?_
                exact wX2_checkPart_b118 F V0 q13.1 q13.2 V3 V4 V5 V6 V7 _ h
set_option maxRecDepth 100000 in
set_option maxHeartbeats 4000000 in
theorem wX2_checkModeHead_b39 {w : zW} (F : Nat) (V0 V1 V2 V3 V4 V5 V6 V7 : zV) (res : zV × zV) (h : fX2_checkModeHead_b39 F V1 V2 = some res) : zR w kX2_checkModeHead 3 0 0 none (zE zds w [V0, res.1, res.2, V3, V4, V5, V6, V7]) 39 [(0, .ref (w.1 + 7))] [] (zE zds w [V0, V1, V2, V3, V4, V5, V6, V7]) := by
  unfold fX2_checkModeHead_b39 at h
  refine zR_aload_n dX2_checkModeHead_39 0 rfl ?_
  refine zR_bipush (x := (29 : Int32)) dX2_checkModeHead_40 rfl ?_
  obtain ⟨q1, hq2, h⟩ := zbd_some h
  refine zR_cV (rest := []) (st1 := []) dX2_checkModeHead_42 (mX2_need F V0 V1 V2 V3 V4 V5 V6 V7 (29 : Int32) _ hq2) zc_X2_40 rfl (zE_at zd_7) ⟨_, _, rfl⟩ rfl (Nat.le_of_ble_eq_true rfl) (Nat.le_of_ble_eq_true rfl) rfl ?_
  have h := Option.some.inj h
  subst h
  exact zR_ret dX2_checkModeHead_45 rfl
set_option maxRecDepth 100000 in
set_option maxHeartbeats 4000000 in
theorem mX2_checkModeHead {w : zW} (F : Nat) (V0 V1 V2 V3 V4 V5 V6 V7 : zV) (res : zV × zV) (h : fX2_checkModeHead F V1 V2 = some res) : zMet w kX2_checkModeHead 3 0 0 [.ref (w.1 + 7)] (zE zds w [V0, V1, V2, V3, V4, V5, V6, V7]) none (zE zds w [V0, res.1, res.2, V3, V4, V5, V6, V7]) := by
  refine zMet_of (by decide) (Nat.le_of_ble_eq_true rfl) (Nat.le_refl 0) fun _ => ?_
  show zR w kX2_checkModeHead 3 0 0 none (zE zds w [V0, res.1, res.2, V3, V4, V5, V6, V7]) 0 [(0, .ref (w.1 + 7))] [] (zE zds w [V0, V1, V2, V3, V4, V5, V6, V7])
  unfold fX2_checkModeHead at h
  refine zR_aload_n dX2_checkModeHead_0 0 rfl ?_
  refine zR_bipush (x := (7 : Int32)) dX2_checkModeHead_1 rfl ?_
  refine zR_bipush (x := (12 : Int32)) dX2_checkModeHead_3 rfl ?_
  obtain ⟨q3, hq4, h⟩ := zbd_some h
  refine zR_cV (rest := []) (st1 := []) dX2_checkModeHead_5 (mX2_passNewOne F V0 V1 V2 V3 V4 V5 V6 V7 (7 : Int32) (12 : Int32) _ hq4) zc_X2_65 rfl (zE_at zd_7) ⟨_, _, rfl⟩ rfl (Nat.le_of_ble_eq_true rfl) (Nat.le_of_ble_eq_true rfl) rfl ?_
  refine zR_aload_n dX2_checkModeHead_8 0 rfl ?_
  refine zR_bipush (x := (27 : Int32)) dX2_checkModeHead_9 rfl ?_
  obtain ⟨q5, hq6, h⟩ := zbd_some h
  refine zR_cV (rest := []) (st1 := []) dX2_checkModeHead_11 (mX2_need F V0 q3.1 q3.2 V3 V4 V5 V6 V7 (27 : Int32) _ hq6) zc_X2_40 rfl (zE_at zd_7) ⟨_, _, rfl⟩ rfl (Nat.le_of_ble_eq_true rfl) (Nat.le_of_ble_eq_true rfl) rfl ?_
  refine zR_aload_n dX2_checkModeHead_14 0 rfl ?_
  refine zR_bipush (x := (28 : Int32)) dX2_checkModeHead_15 rfl ?_
  obtain ⟨q7, hq8, h⟩ := zbd_some h
  refine zR_cV (rest := []) (st1 := []) dX2_checkModeHead_17 (mX2_need F V0 q5.1 q5.2 V3 V4 V5 V6 V7 (28 : Int32) _ hq8) zc_X2_40 rfl (zE_at zd_7) ⟨_, _, rfl⟩ rfl (Nat.le_of_ble_eq_true rfl) (Nat.le_of_ble_eq_true rfl) rfl ?_
  refine zR_aload_n dX2_checkModeHead_20 0 rfl ?_
  refine zR_bipush (x := (9 : Int32)) dX2_checkModeHead_21 rfl ?_
  obtain ⟨q9, hq10, h⟩ := zbd_some h
  refine zR_cV (rest := []) (st1 := [.int q9]) dX2_checkModeHead_23 (mX2_sees F V0 q7.1 q7.2 V3 V4 V5 V6 V7 (9 : Int32) _ hq10) zc_X2_30 rfl (zE_at zd_7) ⟨_, _, rfl⟩ rfl (Nat.le_of_ble_eq_true rfl) (Nat.le_of_ble_eq_true rfl) rfl ?_
  by_cases c11 : q9 = 0
  · have h := zif_t h c11
    refine zR_if_eq_t (tgt := 39) dX2_checkModeHead_26 (by decide) c11 ?_
    exact wX2_checkModeHead_b39 F V0 q7.1 q7.2 V3 V4 V5 V6 V7 _ h
  · have h := zif_f h c11
    refine zR_if_eq_f (tgt := 39) dX2_checkModeHead_26 (by decide) c11 ?_
    refine zR_aload_n dX2_checkModeHead_29 0 rfl ?_
    obtain ⟨q12, hq13, h⟩ := zbd_some h
    refine zR_cV (rest := []) (st1 := []) dX2_checkModeHead_30 (mX2_pass F V0 q7.1 q7.2 V3 V4 V5 V6 V7 _ hq13) zc_X2_57 rfl (zE_at zd_7) ⟨_, _, rfl⟩ rfl (Nat.le_of_ble_eq_true rfl) (Nat.le_of_ble_eq_true rfl) rfl ?_
    refine zR_aload_n dX2_checkModeHead_33 0 rfl ?_
    refine zR_bipush (x := (28 : Int32)) dX2_checkModeHead_34 rfl ?_
    obtain ⟨q14, hq15, h⟩ := zbd_some h
    refine zR_cV (rest := []) (st1 := []) dX2_checkModeHead_36 (mX2_need F V0 q12.1 q12.2 V3 V4 V5 V6 V7 (28 : Int32) _ hq15) zc_X2_40 rfl (zE_at zd_7) ⟨_, _, rfl⟩ rfl (Nat.le_of_ble_eq_true rfl) (Nat.le_of_ble_eq_true rfl) rfl ?_
    exact wX2_checkModeHead_b39 F V0 q14.1 q14.2 V3 V4 V5 V6 V7 _ h
set_option maxRecDepth 100000 in
set_option maxHeartbeats 4000000 in
theorem wX2_checkSum_b204 {w : zW} (F : Nat) (k9 : zV → zV → Int32 → Int32 → Int32 → Int32 → Option (zV × zV)) (hk9 : ∀ (V0 V1 V2 V3 V4 V5 V6 V7 : zV) (x1 : Int32) (x2 : Int32) (x3 : Int32) (x4 : Int32) (res : zV × zV), k9 V1 V2 x1 x2 x3 x4 = some res → zR w kX2_checkSum 2 0 0 none (zE zds w [V0, res.1, res.2, V3, V4, V5, V6, V7]) 9 [(0, .ref (w.1 + 7)), (1, .int x1), (2, .int x2), (3, .int x3), (4, .int x4)] [] (zE zds w [V0, V1, V2, V3, V4, V5, V6, V7])) (V0 V1 V2 V3 V4 V5 V6 V7 : zV) (x1 : Int32) (x2 : Int32) (x3 : Int32) (x4 : Int32) (res : zV × zV) (h : fX2_checkSum_b204 F k9 V1 V2 x1 x2 x3 x4 = some res) : zR w kX2_checkSum 2 0 0 none (zE zds w [V0, res.1, res.2, V3, V4, V5, V6, V7]) 204 [(0, .ref (w.1 + 7)), (1, .int x1), (2, .int x2), (3, .int x3), (4, .int x4)] [] (zE zds w [V0, V1, V2, V3, V4, V5, V6, V7]) := by
  unfold fX2_checkSum_b204 at h
  refine zR_aload_n dX2_checkSum_204 0 rfl ?_
  obtain ⟨q1, hq2, h⟩ := zbd_some h
  refine zR_cV (rest := []) (st1 := []) dX2_checkSum_205 (mX2_pass F V0 V1 V2 V3 V4 V5 V6 V7 _ hq2) zc_X2_57 rfl (zE_at zd_7) ⟨_, _, rfl⟩ rfl (Nat.le_of_ble_eq_true rfl) (Nat.le_of_ble_eq_true rfl) rfl ?_
  refine zR_iinc (u := (x4 + 1)) (lv' := [(0, .ref (w.1 + 7)), (1, .int x1), (2, .int x2), (3, .int x3), (4, .int (x4 + 1))]) dX2_checkSum_208 4 rfl rfl (Nat.le_of_ble_eq_true rfl) rfl ?_
  refine zR_goto (tgt := 9) dX2_checkSum_211 (by decide) ?_
  exact hk9 V0 q1.1 q1.2 V3 V4 V5 V6 V7 x1 x2 x3 (x4 + 1) _ h
set_option maxRecDepth 100000 in
set_option maxHeartbeats 4000000 in
theorem wX2_checkSum_b197 {w : zW} (F : Nat) (k9 : zV → zV → Int32 → Int32 → Int32 → Int32 → Option (zV × zV)) (hk9 : ∀ (V0 V1 V2 V3 V4 V5 V6 V7 : zV) (x1 : Int32) (x2 : Int32) (x3 : Int32) (x4 : Int32) (res : zV × zV), k9 V1 V2 x1 x2 x3 x4 = some res → zR w kX2_checkSum 2 0 0 none (zE zds w [V0, res.1, res.2, V3, V4, V5, V6, V7]) 9 [(0, .ref (w.1 + 7)), (1, .int x1), (2, .int x2), (3, .int x3), (4, .int x4)] [] (zE zds w [V0, V1, V2, V3, V4, V5, V6, V7])) (V0 V1 V2 V3 V4 V5 V6 V7 : zV) (x1 : Int32) (x2 : Int32) (x3 : Int32) (x4 : Int32) (res : zV × zV) (h : fX2_checkSum_b197 F k9 V1 V2 x1 x2 x3 x4 = some res) : zR w kX2_checkSum 2 0 0 none (zE zds w [V0, res.1, res.2, V3, V4, V5, V6, V7]) 197 [(0, .ref (w.1 + 7)), (1, .int x1), (2, .int x2), (3, .int x3), (4, .int x4)] [] (zE zds w [V0, V1, V2, V3, V4, V5, V6, V7]) := by
  unfold fX2_checkSum_b197 at h
  refine zR_iinc (u := (x1 + (-1))) (lv' := [(0, .ref (w.1 + 7)), (1, .int (x1 + (-1))), (2, .int x2), (3, .int x3), (4, .int x4)]) dX2_checkSum_197 1 rfl (by rw [show Int32.ofInt (-1) = (-1 : Int32) from by decide]) (Nat.le_of_ble_eq_true rfl) rfl ?_
  refine zR_goto (tgt := 204) dX2_checkSum_200 (by decide) ?_
  exact wX2_checkSum_b204 F k9 hk9 V0 V1 V2 V3 V4 V5 V6 V7 (x1 + (-1)) x2 x3 x4 _ h
set_option maxRecDepth 100000 in
set_option maxHeartbeats 4000000 in
theorem wX2_checkSum_b167 {w : zW} (F : Nat) (k9 : zV → zV → Int32 → Int32 → Int32 → Int32 → Option (zV × zV)) (hk9 : ∀ (V0 V1 V2 V3 V4 V5 V6 V7 : zV) (x1 : Int32) (x2 : Int32) (x3 : Int32) (x4 : Int32) (res : zV × zV), k9 V1 V2 x1 x2 x3 x4 = some res → zR w kX2_checkSum 2 0 0 none (zE zds w [V0, res.1, res.2, V3, V4, V5, V6, V7]) 9 [(0, .ref (w.1 + 7)), (1, .int x1), (2, .int x2), (3, .int x3), (4, .int x4)] [] (zE zds w [V0, V1, V2, V3, V4, V5, V6, V7])) (V0 V1 V2 V3 V4 V5 V6 V7 : zV) (x1 : Int32) (x4 : Int32) (res : zV × zV) (h : fX2_checkSum_b167 F k9 V1 V2 x1 x4 = some res) : zR w kX2_checkSum 2 0 0 none (zE zds w [V0, res.1, res.2, V3, V4, V5, V6, V7]) 167 [(0, .ref (w.1 + 7)), (1, .int x1), (4, .int x4)] [] (zE zds w [V0, V1, V2, V3, V4, V5, V6, V7]) := by
  unfold fX2_checkSum_b167 at h
  refine zR_iconst (x := (1 : Int32)) dX2_checkSum_167 rfl ?_
  refine zR_istore_n (lv' := [(0, .ref (w.1 + 7)), (1, .int x1), (4, .int x4), (2, .int (1 : Int32))]) dX2_checkSum_168 (Nat.le_of_ble_eq_true rfl) rfl ?_
  refine zR_iconst (x := (0 : Int32)) dX2_checkSum_169 rfl ?_
  refine zR_istore_n (lv' := [(0, .ref (w.1 + 7)), (1, .int x1), (4, .int x4), (2, .int (1 : Int32)), (3, .int (0 : Int32))]) dX2_checkSum_170 (Nat.le_of_ble_eq_true rfl) rfl ?_
  refine zR_goto (tgt := 204) dX2_checkSum_171 (by decide) ?_
  refine zR_sub (lv' := [(0, .ref (w.1 + 7)), (1, .int x1), (2, .int (1 : Int32)), (3, .int (0 : Int32)), (4, .int x4)]) [0, 1, 3, 4, 2] rfl ?_
  exact wX2_checkSum_b204 F k9 hk9 V0 V1 V2 V3 V4 V5 V6 V7 x1 (1 : Int32) (0 : Int32) x4 _ h
set_option maxRecDepth 100000 in
set_option maxHeartbeats 4000000 in
theorem wX2_checkSum_b141 {w : zW} (F : Nat) (k9 : zV → zV → Int32 → Int32 → Int32 → Int32 → Option (zV × zV)) (hk9 : ∀ (V0 V1 V2 V3 V4 V5 V6 V7 : zV) (x1 : Int32) (x2 : Int32) (x3 : Int32) (x4 : Int32) (res : zV × zV), k9 V1 V2 x1 x2 x3 x4 = some res → zR w kX2_checkSum 2 0 0 none (zE zds w [V0, res.1, res.2, V3, V4, V5, V6, V7]) 9 [(0, .ref (w.1 + 7)), (1, .int x1), (2, .int x2), (3, .int x3), (4, .int x4)] [] (zE zds w [V0, V1, V2, V3, V4, V5, V6, V7])) (V0 V1 V2 V3 V4 V5 V6 V7 : zV) (x1 : Int32) (x3 : Int32) (x4 : Int32) (res : zV × zV) (h : fX2_checkSum_b141 F k9 V1 V2 x1 x3 x4 = some res) : zR w kX2_checkSum 2 0 0 none (zE zds w [V0, res.1, res.2, V3, V4, V5, V6, V7]) 141 [(0, .ref (w.1 + 7)), (1, .int x1), (3, .int x3), (4, .int x4)] [] (zE zds w [V0, V1, V2, V3, V4, V5, V6, V7]) := by
  unfold fX2_checkSum_b141 at h
  refine zR_iconst (x := (0 : Int32)) dX2_checkSum_141 rfl ?_
  refine zR_istore_n (lv' := [(0, .ref (w.1 + 7)), (1, .int x1), (3, .int x3), (4, .int x4), (2, .int (0 : Int32))]) dX2_checkSum_142 (Nat.le_of_ble_eq_true rfl) rfl ?_
  refine zR_goto (tgt := 204) dX2_checkSum_143 (by decide) ?_
  refine zR_sub (lv' := [(0, .ref (w.1 + 7)), (1, .int x1), (2, .int (0 : Int32)), (3, .int x3), (4, .int x4)]) [0, 1, 4, 2, 3] rfl ?_
  exact wX2_checkSum_b204 F k9 hk9 V0 V1 V2 V3 V4 V5 V6 V7 x1 (0 : Int32) x3 x4 _ h
set_option maxRecDepth 100000 in
set_option maxHeartbeats 4000000 in
theorem wX2_checkSum_b97 {w : zW} (F : Nat) (k9 : zV → zV → Int32 → Int32 → Int32 → Int32 → Option (zV × zV)) (hk9 : ∀ (V0 V1 V2 V3 V4 V5 V6 V7 : zV) (x1 : Int32) (x2 : Int32) (x3 : Int32) (x4 : Int32) (res : zV × zV), k9 V1 V2 x1 x2 x3 x4 = some res → zR w kX2_checkSum 2 0 0 none (zE zds w [V0, res.1, res.2, V3, V4, V5, V6, V7]) 9 [(0, .ref (w.1 + 7)), (1, .int x1), (2, .int x2), (3, .int x3), (4, .int x4)] [] (zE zds w [V0, V1, V2, V3, V4, V5, V6, V7])) (V0 V1 V2 V3 V4 V5 V6 V7 : zV) (x1 : Int32) (x2 : Int32) (x3 : Int32) (x4 : Int32) (x5 : Int32) (res : zV × zV) (h : fX2_checkSum_b97 F k9 V1 V2 x1 x2 x3 x4 x5 = some res) : zR w kX2_checkSum 2 0 0 none (zE zds w [V0, res.1, res.2, V3, V4, V5, V6, V7]) 97 [(0, .ref (w.1 + 7)), (1, .int x1), (2, .int x2), (3, .int x3), (4, .int x4), (5, .int x5)] [] (zE zds w [V0, V1, V2, V3, V4, V5, V6, V7]) := by
  unfold fX2_checkSum_b97 at h
  refine zR_iload_n dX2_checkSum_97 2 rfl ?_
  by_cases c3 : x2 = 0
  · have h := zif_t h c3
    refine zR_if_eq_t (tgt := 146) dX2_checkSum_98 (by decide) c3 ?_
    refine zR_iload dX2_checkSum_146 5 rfl ?_
    refine zR_bipush (x := (34 : Int32)) dX2_checkSum_148 rfl ?_
    by_cases c4 : x5 = (34 : Int32)
    · have h := zif_t h c4
      refine zR_icmp_eq_t (tgt := 167) dX2_checkSum_150 (by decide) c4 ?_
      refine zR_sub (lv' := [(0, .ref (w.1 + 7)), (1, .int x1), (4, .int x4)]) [0, 1, 4] rfl ?_
      exact wX2_checkSum_b167 F k9 hk9 V0 V1 V2 V3 V4 V5 V6 V7 x1 x4 _ h
    · have h := zif_f h c4
      refine zR_icmp_eq_f (tgt := 167) dX2_checkSum_150 (by decide) c4 ?_
      refine zR_iload dX2_checkSum_153 5 rfl ?_
      refine zR_bipush (x := (35 : Int32)) dX2_checkSum_155 rfl ?_
      by_cases c5 : x5 = (35 : Int32)
      · have h := zif_t h c5
        refine zR_icmp_eq_t (tgt := 167) dX2_checkSum_157 (by decide) c5 ?_
        refine zR_sub (lv' := [(0, .ref (w.1 + 7)), (1, .int x1), (4, .int x4)]) [0, 1, 4] rfl ?_
        exact wX2_checkSum_b167 F k9 hk9 V0 V1 V2 V3 V4 V5 V6 V7 x1 x4 _ h
      · have h := zif_f h c5
        refine zR_icmp_eq_f (tgt := 167) dX2_checkSum_157 (by decide) c5 ?_
        refine zR_iload dX2_checkSum_160 5 rfl ?_
        refine zR_bipush (x := (36 : Int32)) dX2_checkSum_162 rfl ?_
        by_cases c6 : x5 = (36 : Int32)
        · have h := zif_t h c6
          refine zR_icmp_ne_f (tgt := 174) dX2_checkSum_164 (by decide) c6 ?_
          refine zR_sub (lv' := [(0, .ref (w.1 + 7)), (1, .int x1), (4, .int x4)]) [0, 1, 4] rfl ?_
          exact wX2_checkSum_b167 F k9 hk9 V0 V1 V2 V3 V4 V5 V6 V7 x1 x4 _ h
        · have h := zif_f h c6
          refine zR_icmp_ne_t (tgt := 174) dX2_checkSum_164 (by decide) c6 ?_
          refine zR_iload_n dX2_checkSum_174 1 rfl ?_
          by_cases c7 : x1 ≤ 0
          · have h := zif_t h c7
            refine zR_if_le_t (tgt := 203) dX2_checkSum_175 (by decide) c7 ?_
            have h := Option.some.inj h
            subst h
            exact zR_ret dX2_checkSum_203 rfl
          · have h := zif_f h c7
            refine zR_if_le_f (tgt := 203) dX2_checkSum_175 (by decide) c7 ?_
            refine zR_iload dX2_checkSum_178 5 rfl ?_
            refine zR_bipush (x := (33 : Int32)) dX2_checkSum_180 rfl ?_
            by_cases c8 : x5 = (33 : Int32)
            · have h := zif_t h c8
              refine zR_icmp_eq_t (tgt := 197) dX2_checkSum_182 (by decide) c8 ?_
              refine zR_sub (lv' := [(0, .ref (w.1 + 7)), (1, .int x1), (2, .int x2), (3, .int x3), (4, .int x4)]) [0, 1, 2, 3, 4] rfl ?_
              exact wX2_checkSum_b197 F k9 hk9 V0 V1 V2 V3 V4 V5 V6 V7 x1 x2 x3 x4 _ h
            · have h := zif_f h c8
              refine zR_icmp_eq_f (tgt := 197) dX2_checkSum_182 (by decide) c8 ?_
              refine zR_aload_n dX2_checkSum_185 0 rfl ?_
              refine zG_getR dX2_checkSum_186 zf_X2_19 zd_7 rfl rfl ?_
              refine zR_iconst (x := (1 : Int32)) dX2_checkSum_189 rfl ?_
              refine zR_aload_n dX2_checkSum_190 0 rfl ?_
              refine zG_getI dX2_checkSum_191 zf_X2_9 zd_7 rfl rfl ?_
              obtain ⟨q9, hq10, h⟩ := zbd_some h
              refine zR_cV (rest := []) (st1 := []) dX2_checkSum_194 (mX10_blame F V0 V1 V2 V3 V4 V5 V6 V7 (1 : Int32) (zI V2 0 1) _ hq10) zc_X2_44 rfl (zE_at zd_2) ⟨_, _, rfl⟩ rfl (Nat.le_of_ble_eq_true rfl) (Nat.le_of_ble_eq_true rfl) rfl ?_
              refine zR_sub (lv' := [(0, .ref (w.1 + 7)), (1, .int x1), (2, .int x2), (3, .int x3), (4, .int x4)]) [0, 1, 2, 3, 4] rfl ?_
              exact wX2_checkSum_b197 F k9 hk9 V0 q9 V2 V3 V4 V5 V6 V7 x1 x2 x3 x4 _ h
  · have h := zif_f h c3
    refine zR_if_eq_f (tgt := 146) dX2_checkSum_98 (by decide) c3 ?_
    refine zR_iload dX2_checkSum_101 5 rfl ?_
    refine zR_bipush (x := (28 : Int32)) dX2_checkSum_103 rfl ?_
    by_cases c11 : x5 = (28 : Int32)
    · have h := zif_t h c11
      refine zR_icmp_eq_t (tgt := 141) dX2_checkSum_105 (by decide) c11 ?_
      refine zR_sub (lv' := [(0, .ref (w.1 + 7)), (1, .int x1), (3, .int x3), (4, .int x4)]) [0, 1, 3, 4] rfl ?_
      exact wX2_checkSum_b141 F k9 hk9 V0 V1 V2 V3 V4 V5 V6 V7 x1 x3 x4 _ h
    · have h := zif_f h c11
      refine zR_icmp_eq_f (tgt := 141) dX2_checkSum_105 (by decide) c11 ?_
      refine zR_iload dX2_checkSum_108 5 rfl ?_
      refine zR_bipush (x := (27 : Int32)) dX2_checkSum_110 rfl ?_
      by_cases c12 : x5 = (27 : Int32)
      · have h := zif_t h c12
        refine zR_icmp_eq_t (tgt := 141) dX2_checkSum_112 (by decide) c12 ?_
        refine zR_sub (lv' := [(0, .ref (w.1 + 7)), (1, .int x1), (3, .int x3), (4, .int x4)]) [0, 1, 3, 4] rfl ?_
        exact wX2_checkSum_b141 F k9 hk9 V0 V1 V2 V3 V4 V5 V6 V7 x1 x3 x4 _ h
      · have h := zif_f h c12
        refine zR_icmp_eq_f (tgt := 141) dX2_checkSum_112 (by decide) c12 ?_
        refine zR_iload dX2_checkSum_115 5 rfl ?_
        refine zR_bipush (x := (25 : Int32)) dX2_checkSum_117 rfl ?_
        by_cases c13 : x5 = (25 : Int32)
        · have h := zif_t h c13
          refine zR_icmp_eq_t (tgt := 141) dX2_checkSum_119 (by decide) c13 ?_
          refine zR_sub (lv' := [(0, .ref (w.1 + 7)), (1, .int x1), (3, .int x3), (4, .int x4)]) [0, 1, 3, 4] rfl ?_
          exact wX2_checkSum_b141 F k9 hk9 V0 V1 V2 V3 V4 V5 V6 V7 x1 x3 x4 _ h
        · have h := zif_f h c13
          refine zR_icmp_eq_f (tgt := 141) dX2_checkSum_119 (by decide) c13 ?_
          refine zR_iload dX2_checkSum_122 5 rfl ?_
          refine zR_bipush (x := (26 : Int32)) dX2_checkSum_124 rfl ?_
          by_cases c14 : x5 = (26 : Int32)
          · have h := zif_t h c14
            refine zR_icmp_eq_t (tgt := 141) dX2_checkSum_126 (by decide) c14 ?_
            refine zR_sub (lv' := [(0, .ref (w.1 + 7)), (1, .int x1), (3, .int x3), (4, .int x4)]) [0, 1, 3, 4] rfl ?_
            exact wX2_checkSum_b141 F k9 hk9 V0 V1 V2 V3 V4 V5 V6 V7 x1 x3 x4 _ h
          · have h := zif_f h c14
            refine zR_icmp_eq_f (tgt := 141) dX2_checkSum_126 (by decide) c14 ?_
            refine zR_aload_n dX2_checkSum_129 0 rfl ?_
            refine zG_getR dX2_checkSum_130 zf_X2_19 zd_7 rfl rfl ?_
            refine zR_iconst (x := (1 : Int32)) dX2_checkSum_133 rfl ?_
            refine zR_aload_n dX2_checkSum_134 0 rfl ?_
            refine zG_getI dX2_checkSum_135 zf_X2_9 zd_7 rfl rfl ?_
            obtain ⟨q15, hq16, h⟩ := zbd_some h
            refine zR_cV (rest := []) (st1 := []) dX2_checkSum_138 (mX10_blame F V0 V1 V2 V3 V4 V5 V6 V7 (1 : Int32) (zI V2 0 1) _ hq16) zc_X2_44 rfl (zE_at zd_2) ⟨_, _, rfl⟩ rfl (Nat.le_of_ble_eq_true rfl) (Nat.le_of_ble_eq_true rfl) rfl ?_
            refine zR_sub (lv' := [(0, .ref (w.1 + 7)), (1, .int x1), (3, .int x3), (4, .int x4)]) [0, 1, 3, 4] rfl ?_
            exact wX2_checkSum_b141 F k9 hk9 V0 q15 V2 V3 V4 V5 V6 V7 x1 x3 x4 _ h
set_option maxRecDepth 100000 in
set_option maxHeartbeats 4000000 in
theorem wX2_checkSum_b77 {w : zW} (F : Nat) (k9 : zV → zV → Int32 → Int32 → Int32 → Int32 → Option (zV × zV)) (hk9 : ∀ (V0 V1 V2 V3 V4 V5 V6 V7 : zV) (x1 : Int32) (x2 : Int32) (x3 : Int32) (x4 : Int32) (res : zV × zV), k9 V1 V2 x1 x2 x3 x4 = some res → zR w kX2_checkSum 2 0 0 none (zE zds w [V0, res.1, res.2, V3, V4, V5, V6, V7]) 9 [(0, .ref (w.1 + 7)), (1, .int x1), (2, .int x2), (3, .int x3), (4, .int x4)] [] (zE zds w [V0, V1, V2, V3, V4, V5, V6, V7])) (V0 V1 V2 V3 V4 V5 V6 V7 : zV) (x1 : Int32) (x2 : Int32) (x3 : Int32) (x4 : Int32) (x5 : Int32) (res : zV × zV) (h : fX2_checkSum_b77 F k9 V1 V2 x1 x2 x3 x4 x5 = some res) : zR w kX2_checkSum 2 0 0 none (zE zds w [V0, res.1, res.2, V3, V4, V5, V6, V7]) 77 [(0, .ref (w.1 + 7)), (1, .int x1), (2, .int x2), (3, .int x3), (4, .int x4), (5, .int x5)] [] (zE zds w [V0, V1, V2, V3, V4, V5, V6, V7]) := by
  unfold fX2_checkSum_b77 at h
  refine zR_iload_n dX2_checkSum_77 2 rfl ?_
  by_cases c17 : x2 = 0
  · have h := zif_t h c17
    refine zR_if_eq_t (tgt := 97) dX2_checkSum_78 (by decide) c17 ?_
    exact wX2_checkSum_b97 F k9 hk9 V0 V1 V2 V3 V4 V5 V6 V7 x1 x2 x3 x4 x5 _ h
  · have h := zif_f h c17
    refine zR_if_eq_f (tgt := 97) dX2_checkSum_78 (by decide) c17 ?_
    refine zR_iload dX2_checkSum_81 5 rfl ?_
    refine zR_bipush (x := (35 : Int32)) dX2_checkSum_83 rfl ?_
    by_cases c18 : x5 = (35 : Int32)
    · have h := zif_t h c18
      refine zR_icmp_ne_f (tgt := 97) dX2_checkSum_85 (by decide) c18 ?_
      refine zR_iload_n dX2_checkSum_88 3 rfl ?_
      by_cases c19 : x3 = 0
      · have h := zif_t h c19
        refine zR_if_eq_t (tgt := 97) dX2_checkSum_89 (by decide) c19 ?_
        exact wX2_checkSum_b97 F k9 hk9 V0 V1 V2 V3 V4 V5 V6 V7 x1 x2 x3 x4 x5 _ h
      · have h := zif_f h c19
        refine zR_if_eq_f (tgt := 97) dX2_checkSum_89 (by decide) c19 ?_
        refine zR_iconst (x := (0 : Int32)) dX2_checkSum_92 rfl ?_
        refine zR_istore_n (lv' := [(0, .ref (w.1 + 7)), (1, .int x1), (2, .int x2), (3, .int (0 : Int32)), (4, .int x4), (5, .int x5)]) dX2_checkSum_93 (Nat.le_of_ble_eq_true rfl) rfl ?_
        refine zR_goto (tgt := 204) dX2_checkSum_94 (by decide) ?_
        refine zR_sub (lv' := [(0, .ref (w.1 + 7)), (1, .int x1), (2, .int x2), (3, .int (0 : Int32)), (4, .int x4)]) [0, 1, 2, 3, 4] rfl ?_
        exact wX2_checkSum_b204 F k9 hk9 V0 V1 V2 V3 V4 V5 V6 V7 x1 x2 (0 : Int32) x4 _ h
    · have h := zif_f h c18
      refine zR_icmp_ne_t (tgt := 97) dX2_checkSum_85 (by decide) c18 ?_
      exact wX2_checkSum_b97 F k9 hk9 V0 V1 V2 V3 V4 V5 V6 V7 x1 x2 x3 x4 x5 _ h
set_option maxRecDepth 100000 in
set_option maxHeartbeats 4000000 in
theorem wX2_checkSum_b72 {w : zW} (F : Nat) (k9 : zV → zV → Int32 → Int32 → Int32 → Int32 → Option (zV × zV)) (hk9 : ∀ (V0 V1 V2 V3 V4 V5 V6 V7 : zV) (x1 : Int32) (x2 : Int32) (x3 : Int32) (x4 : Int32) (res : zV × zV), k9 V1 V2 x1 x2 x3 x4 = some res → zR w kX2_checkSum 2 0 0 none (zE zds w [V0, res.1, res.2, V3, V4, V5, V6, V7]) 9 [(0, .ref (w.1 + 7)), (1, .int x1), (2, .int x2), (3, .int x3), (4, .int x4)] [] (zE zds w [V0, V1, V2, V3, V4, V5, V6, V7])) (V0 V1 V2 V3 V4 V5 V6 V7 : zV) (x1 : Int32) (x2 : Int32) (x4 : Int32) (res : zV × zV) (h : fX2_checkSum_b72 F k9 V1 V2 x1 x2 x4 = some res) : zR w kX2_checkSum 2 0 0 none (zE zds w [V0, res.1, res.2, V3, V4, V5, V6, V7]) 72 [(0, .ref (w.1 + 7)), (1, .int x1), (2, .int x2), (4, .int x4)] [] (zE zds w [V0, V1, V2, V3, V4, V5, V6, V7]) := by
  unfold fX2_checkSum_b72 at h
  refine zR_iconst (x := (1 : Int32)) dX2_checkSum_72 rfl ?_
  refine zR_istore_n (lv' := [(0, .ref (w.1 + 7)), (1, .int x1), (2, .int x2), (4, .int x4), (3, .int (1 : Int32))]) dX2_checkSum_73 (Nat.le_of_ble_eq_true rfl) rfl ?_
  refine zR_goto (tgt := 204) dX2_checkSum_74 (by decide) ?_
  refine zR_sub (lv' := [(0, .ref (w.1 + 7)), (1, .int x1), (2, .int x2), (3, .int (1 : Int32)), (4, .int x4)]) [0, 1, 2, 4, 3] rfl ?_
  exact wX2_checkSum_b204 F k9 hk9 V0 V1 V2 V3 V4 V5 V6 V7 x1 x2 (1 : Int32) x4 _ h
set_option maxRecDepth 100000 in
set_option maxHeartbeats 4000000 in
theorem wX2_checkSum_l9 {w : zW} (F : Nat) : ∀ (n : Nat) (V0 V1 V2 V3 V4 V5 V6 V7 : zV) (x1 : Int32) (x2 : Int32) (x3 : Int32) (x4 : Int32) (res : zV × zV), fX2_checkSum_l9 F n V1 V2 x1 x2 x3 x4 = some res → zR w kX2_checkSum 2 0 0 none (zE zds w [V0, res.1, res.2, V3, V4, V5, V6, V7]) 9 [(0, .ref (w.1 + 7)), (1, .int x1), (2, .int x2), (3, .int x3), (4, .int x4)] [] (zE zds w [V0, V1, V2, V3, V4, V5, V6, V7]) := by
  intro n
  induction n with
  | zero =>
    intro V0 V1 V2 V3 V4 V5 V6 V7 x1 x2 x3 x4 res h
    simp [fX2_checkSum_l9] at h
  | succ n ih =>
    intro V0 V1 V2 V3 V4 V5 V6 V7 x1 x2 x3 x4 res h
    rw [fX2_checkSum_l9] at h
    refine zR_iload dX2_checkSum_9 4 rfl ?_
    refine zR_sipush (x := (1000 : Int32)) dX2_checkSum_11 rfl ?_
    by_cases c20 : (1000 : Int32) < x4
    · have h := zif_t h c20
      refine zR_icmp_gt_t (tgt := 214) dX2_checkSum_14 (by decide) c20 ?_
      have h := Option.some.inj h
      subst h
      exact zR_ret dX2_checkSum_214 rfl
    · have h := zif_f h c20
      refine zR_icmp_gt_f (tgt := 214) dX2_checkSum_14 (by decide) c20 ?_
      refine zR_aload_n dX2_checkSum_17 0 rfl ?_
      refine zG_getR dX2_checkSum_18 zf_X2_19 zd_7 rfl rfl ?_
      refine zG_getI dX2_checkSum_21 zf_X2_50 zd_2 rfl rfl ?_
      by_cases c21 : (zI V1 0 5) = 0
      · have h := zif_t h c21
        refine zR_if_ne_f (tgt := 214) dX2_checkSum_24 (by decide) c21 ?_
        refine zR_aload_n dX2_checkSum_27 0 rfl ?_
        refine zG_getR dX2_checkSum_28 zf_X2_19 zd_7 rfl rfl ?_
        refine zR_aload_n dX2_checkSum_31 0 rfl ?_
        refine zG_getI dX2_checkSum_32 zf_X2_9 zd_7 rfl rfl ?_
        obtain ⟨q22, hq23, h⟩ := zbd_some h
        refine zR_cV (rest := []) (st1 := [.int q22]) dX2_checkSum_35 (mX10_kindAt F V0 V1 V2 V3 V4 V5 V6 V7 (zI V2 0 1) _ hq23) zc_X2_53 rfl (zE_at zd_2) ⟨_, _, rfl⟩ rfl (Nat.le_of_ble_eq_true rfl) (Nat.le_of_ble_eq_true rfl) rfl ?_
        refine zR_istore (lv' := [(0, .ref (w.1 + 7)), (1, .int x1), (2, .int x2), (3, .int x3), (4, .int x4), (5, .int q22)]) dX2_checkSum_38 (Nat.le_of_ble_eq_true rfl) rfl ?_
        refine zR_iload_n dX2_checkSum_40 2 rfl ?_
        by_cases c24 : x2 = 0
        · have h := zif_t h c24
          refine zR_if_eq_t (tgt := 77) dX2_checkSum_41 (by decide) c24 ?_
          exact wX2_checkSum_b77 F (fX2_checkSum_l9 F n) ih V0 V1 V2 V3 V4 V5 V6 V7 x1 x2 x3 x4 q22 _ h
        · have h := zif_f h c24
          refine zR_if_eq_f (tgt := 77) dX2_checkSum_41 (by decide) c24 ?_
          refine zR_iload dX2_checkSum_44 5 rfl ?_
          refine zR_bipush (x := (32 : Int32)) dX2_checkSum_46 rfl ?_
          by_cases c25 : q22 = (32 : Int32)
          · have h := zif_t h c25
            refine zR_icmp_ne_f (tgt := 77) dX2_checkSum_48 (by decide) c25 ?_
            refine zR_iinc (u := (x1 + 1)) (lv' := [(0, .ref (w.1 + 7)), (1, .int (x1 + 1)), (2, .int x2), (3, .int x3), (4, .int x4), (5, .int q22)]) dX2_checkSum_51 1 rfl rfl (Nat.le_of_ble_eq_true rfl) rfl ?_
            refine zR_iload_n dX2_checkSum_54 1 rfl ?_
            refine zR_bipush (x := (6 : Int32)) dX2_checkSum_55 rfl ?_
            by_cases c26 : (x1 + 1) ≤ (6 : Int32)
            · have h := zif_t h c26
              refine zR_icmp_le_t (tgt := 72) dX2_checkSum_57 (by decide) c26 ?_
              refine zR_sub (lv' := [(0, .ref (w.1 + 7)), (1, .int (x1 + 1)), (2, .int x2), (4, .int x4)]) [0, 1, 2, 4] rfl ?_
              exact wX2_checkSum_b72 F (fX2_checkSum_l9 F n) ih V0 V1 V2 V3 V4 V5 V6 V7 (x1 + 1) x2 x4 _ h
            · have h := zif_f h c26
              refine zR_icmp_le_f (tgt := 72) dX2_checkSum_57 (by decide) c26 ?_
              refine zR_aload_n dX2_checkSum_60 0 rfl ?_
              refine zG_getR dX2_checkSum_61 zf_X2_19 zd_7 rfl rfl ?_
              refine zR_iconst (x := (2 : Int32)) dX2_checkSum_64 rfl ?_
              refine zR_aload_n dX2_checkSum_65 0 rfl ?_
              refine zG_getI dX2_checkSum_66 zf_X2_9 zd_7 rfl rfl ?_
              obtain ⟨q27, hq28, h⟩ := zbd_some h
              refine zR_cV (rest := []) (st1 := []) dX2_checkSum_69 (mX10_blame F V0 V1 V2 V3 V4 V5 V6 V7 (2 : Int32) (zI V2 0 1) _ hq28) zc_X2_44 rfl (zE_at zd_2) ⟨_, _, rfl⟩ rfl (Nat.le_of_ble_eq_true rfl) (Nat.le_of_ble_eq_true rfl) rfl ?_
              refine zR_sub (lv' := [(0, .ref (w.1 + 7)), (1, .int (x1 + 1)), (2, .int x2), (4, .int x4)]) [0, 1, 2, 4] rfl ?_
              exact wX2_checkSum_b72 F (fX2_checkSum_l9 F n) ih V0 q27 V2 V3 V4 V5 V6 V7 (x1 + 1) x2 x4 _ h
          · have h := zif_f h c25
            refine zR_icmp_ne_t (tgt := 77) dX2_checkSum_48 (by decide) c25 ?_
            exact wX2_checkSum_b77 F (fX2_checkSum_l9 F n) ih V0 V1 V2 V3 V4 V5 V6 V7 x1 x2 x3 x4 q22 _ h
      · have h := zif_f h c21
        refine zR_if_ne_t (tgt := 214) dX2_checkSum_24 (by decide) c21 ?_
        have h := Option.some.inj h
        subst h
        exact zR_ret dX2_checkSum_214 rfl
set_option maxRecDepth 100000 in
set_option maxHeartbeats 4000000 in
theorem mX2_checkSum {w : zW} (F : Nat) (V0 V1 V2 V3 V4 V5 V6 V7 : zV) (res : zV × zV) (h : fX2_checkSum F V1 V2 = some res) : zMet w kX2_checkSum 2 0 0 [.ref (w.1 + 7)] (zE zds w [V0, V1, V2, V3, V4, V5, V6, V7]) none (zE zds w [V0, res.1, res.2, V3, V4, V5, V6, V7]) := by
  refine zMet_of (by decide) (Nat.le_of_ble_eq_true rfl) (Nat.le_refl 0) fun _ => ?_
  show zR w kX2_checkSum 2 0 0 none (zE zds w [V0, res.1, res.2, V3, V4, V5, V6, V7]) 0 [(0, .ref (w.1 + 7))] [] (zE zds w [V0, V1, V2, V3, V4, V5, V6, V7])
  unfold fX2_checkSum at h
  refine zR_iconst (x := (0 : Int32)) dX2_checkSum_0 rfl ?_
  refine zR_istore_n (lv' := [(0, .ref (w.1 + 7)), (1, .int (0 : Int32))]) dX2_checkSum_1 (Nat.le_of_ble_eq_true rfl) rfl ?_
  refine zR_iconst (x := (1 : Int32)) dX2_checkSum_2 rfl ?_
  refine zR_istore_n (lv' := [(0, .ref (w.1 + 7)), (1, .int (0 : Int32)), (2, .int (1 : Int32))]) dX2_checkSum_3 (Nat.le_of_ble_eq_true rfl) rfl ?_
  refine zR_iconst (x := (1 : Int32)) dX2_checkSum_4 rfl ?_
  refine zR_istore_n (lv' := [(0, .ref (w.1 + 7)), (1, .int (0 : Int32)), (2, .int (1 : Int32)), (3, .int (1 : Int32))]) dX2_checkSum_5 (Nat.le_of_ble_eq_true rfl) rfl ?_
  refine zR_iconst (x := (0 : Int32)) dX2_checkSum_6 rfl ?_
  refine zR_istore (lv' := [(0, .ref (w.1 + 7)), (1, .int (0 : Int32)), (2, .int (1 : Int32)), (3, .int (1 : Int32)), (4, .int (0 : Int32))]) dX2_checkSum_7 (Nat.le_of_ble_eq_true rfl) rfl ?_
  exact wX2_checkSum_l9 F F V0 V1 V2 V3 V4 V5 V6 V7 (0 : Int32) (1 : Int32) (1 : Int32) (0 : Int32) _ h
set_option maxRecDepth 100000 in
set_option maxHeartbeats 4000000 in
theorem mX2_isRelation {w : zW} (F : Nat) (S : zS) (x0 : Int32) (res : Int32) (h : fX2_isRelation F x0 = some res) : zMet w kX2_isRelation 0 0 0 [.int x0] S (some (.int res)) S := by
  refine zMet_of (by decide) (Nat.le_of_ble_eq_true rfl) (Nat.le_refl 0) fun _ => ?_
  show zR w kX2_isRelation 0 0 0 (some (.int res)) S 0 [(0, .int x0)] [] S
  unfold fX2_isRelation at h
  refine zR_iload_n dX2_isRelation_0 0 rfl ?_
  refine zR_bipush (x := (37 : Int32)) dX2_isRelation_1 rfl ?_
  by_cases c1 : x0 < (37 : Int32)
  · have h := zif_t h c1
    refine zR_icmp_lt_t (tgt := 16) dX2_isRelation_3 (by decide) c1 ?_
    refine zR_iconst (x := (0 : Int32)) dX2_isRelation_16 rfl ?_
    have h := Option.some.inj h
    subst h
    exact zR_iret (x := (0 : Int32)) dX2_isRelation_17 rfl znar0
  · have h := zif_f h c1
    refine zR_icmp_lt_f (tgt := 16) dX2_isRelation_3 (by decide) c1 ?_
    refine zR_iload_n dX2_isRelation_6 0 rfl ?_
    refine zR_bipush (x := (40 : Int32)) dX2_isRelation_7 rfl ?_
    by_cases c2 : (40 : Int32) < x0
    · have h := zif_t h c2
      refine zR_icmp_gt_t (tgt := 16) dX2_isRelation_9 (by decide) c2 ?_
      refine zR_iconst (x := (0 : Int32)) dX2_isRelation_16 rfl ?_
      have h := Option.some.inj h
      subst h
      exact zR_iret (x := (0 : Int32)) dX2_isRelation_17 rfl znar0
    · have h := zif_f h c2
      refine zR_icmp_gt_f (tgt := 16) dX2_isRelation_9 (by decide) c2 ?_
      refine zR_iconst (x := (1 : Int32)) dX2_isRelation_12 rfl ?_
      refine zR_goto (tgt := 17) dX2_isRelation_13 (by decide) ?_
      have h := Option.some.inj h
      subst h
      exact zR_iret (x := (1 : Int32)) dX2_isRelation_17 rfl znar1
set_option maxRecDepth 100000 in
set_option maxHeartbeats 4000000 in
theorem wX2_checkCond_b74 {w : zW} (F : Nat) (k4 : zV → zV → Int32 → Int32 → Option (zV × zV)) (hk4 : ∀ (V0 V1 V2 V3 V4 V5 V6 V7 : zV) (x1 : Int32) (x2 : Int32) (res : zV × zV), k4 V1 V2 x1 x2 = some res → zR w kX2_checkCond 3 0 0 none (zE zds w [V0, res.1, res.2, V3, V4, V5, V6, V7]) 4 [(0, .ref (w.1 + 7)), (1, .int x1), (2, .int x2)] [] (zE zds w [V0, V1, V2, V3, V4, V5, V6, V7])) (V0 V1 V2 V3 V4 V5 V6 V7 : zV) (x1 : Int32) (x2 : Int32) (res : zV × zV) (h : fX2_checkCond_b74 F k4 V1 V2 x1 x2 = some res) : zR w kX2_checkCond 3 0 0 none (zE zds w [V0, res.1, res.2, V3, V4, V5, V6, V7]) 74 [(0, .ref (w.1 + 7)), (1, .int x1), (2, .int x2)] [] (zE zds w [V0, V1, V2, V3, V4, V5, V6, V7]) := by
  unfold fX2_checkCond_b74 at h
  refine zR_iinc (u := (x2 + 1)) (lv' := [(0, .ref (w.1 + 7)), (1, .int x1), (2, .int (x2 + 1))]) dX2_checkCond_74 2 rfl rfl (Nat.le_of_ble_eq_true rfl) rfl ?_
  refine zR_goto (tgt := 4) dX2_checkCond_77 (by decide) ?_
  exact hk4 V0 V1 V2 V3 V4 V5 V6 V7 x1 (x2 + 1) _ h
set_option maxRecDepth 100000 in
set_option maxHeartbeats 4000000 in
theorem wX2_checkCond_b55 {w : zW} (F : Nat) (k4 : zV → zV → Int32 → Int32 → Option (zV × zV)) (hk4 : ∀ (V0 V1 V2 V3 V4 V5 V6 V7 : zV) (x1 : Int32) (x2 : Int32) (res : zV × zV), k4 V1 V2 x1 x2 = some res → zR w kX2_checkCond 3 0 0 none (zE zds w [V0, res.1, res.2, V3, V4, V5, V6, V7]) 4 [(0, .ref (w.1 + 7)), (1, .int x1), (2, .int x2)] [] (zE zds w [V0, V1, V2, V3, V4, V5, V6, V7])) (V0 V1 V2 V3 V4 V5 V6 V7 : zV) (x2 : Int32) (res : zV × zV) (h : fX2_checkCond_b55 F k4 V1 V2 x2 = some res) : zR w kX2_checkCond 3 0 0 none (zE zds w [V0, res.1, res.2, V3, V4, V5, V6, V7]) 55 [(0, .ref (w.1 + 7)), (2, .int x2)] [] (zE zds w [V0, V1, V2, V3, V4, V5, V6, V7]) := by
  unfold fX2_checkCond_b55 at h
  refine zR_aload_n dX2_checkCond_55 0 rfl ?_
  obtain ⟨q1, hq2, h⟩ := zbd_some h
  refine zR_cV (rest := []) (st1 := []) dX2_checkCond_56 (mX2_checkSum F V0 V1 V2 V3 V4 V5 V6 V7 _ hq2) zc_X2_77 rfl (zE_at zd_7) ⟨_, _, rfl⟩ rfl (Nat.le_of_ble_eq_true rfl) (Nat.le_of_ble_eq_true rfl) rfl ?_
  refine zR_aload_n dX2_checkCond_59 0 rfl ?_
  refine zR_bipush (x := (15 : Int32)) dX2_checkCond_60 rfl ?_
  obtain ⟨q3, hq4, h⟩ := zbd_some h
  refine zR_cV (rest := []) (st1 := [.int q3]) dX2_checkCond_62 (mX2_sees F V0 q1.1 q1.2 V3 V4 V5 V6 V7 (15 : Int32) _ hq4) zc_X2_30 rfl (zE_at zd_7) ⟨_, _, rfl⟩ rfl (Nat.le_of_ble_eq_true rfl) (Nat.le_of_ble_eq_true rfl) rfl ?_
  refine zR_istore_n (lv' := [(0, .ref (w.1 + 7)), (2, .int x2), (1, .int q3)]) dX2_checkCond_65 (Nat.le_of_ble_eq_true rfl) rfl ?_
  refine zR_iload_n dX2_checkCond_66 2 rfl ?_
  by_cases c5 : q3 = 0
  · have h := zif_t h c5
    refine zR_if_eq_t (tgt := 74) dX2_checkCond_67 (by decide) c5 ?_
    refine zR_sub (lv' := [(0, .ref (w.1 + 7)), (1, .int q3), (2, .int x2)]) [0, 2, 1] rfl ?_
    exact wX2_checkCond_b74 F k4 hk4 V0 q1.1 q1.2 V3 V4 V5 V6 V7 q3 x2 _ h
  · have h := zif_f h c5
    refine zR_if_eq_f (tgt := 74) dX2_checkCond_67 (by decide) c5 ?_
    refine zR_aload_n dX2_checkCond_70 0 rfl ?_
    obtain ⟨q6, hq7, h⟩ := zbd_some h
    refine zR_cV (rest := []) (st1 := []) dX2_checkCond_71 (mX2_pass F V0 q1.1 q1.2 V3 V4 V5 V6 V7 _ hq7) zc_X2_57 rfl (zE_at zd_7) ⟨_, _, rfl⟩ rfl (Nat.le_of_ble_eq_true rfl) (Nat.le_of_ble_eq_true rfl) rfl ?_
    refine zR_sub (lv' := [(0, .ref (w.1 + 7)), (1, .int q3), (2, .int x2)]) [0, 2, 1] rfl ?_
    exact wX2_checkCond_b74 F k4 hk4 V0 q6.1 q6.2 V3 V4 V5 V6 V7 q3 x2 _ h
set_option maxRecDepth 100000 in
set_option maxHeartbeats 4000000 in
theorem wX2_checkCond_l4 {w : zW} (F : Nat) : ∀ (n : Nat) (V0 V1 V2 V3 V4 V5 V6 V7 : zV) (x1 : Int32) (x2 : Int32) (res : zV × zV), fX2_checkCond_l4 F n V1 V2 x1 x2 = some res → zR w kX2_checkCond 3 0 0 none (zE zds w [V0, res.1, res.2, V3, V4, V5, V6, V7]) 4 [(0, .ref (w.1 + 7)), (1, .int x1), (2, .int x2)] [] (zE zds w [V0, V1, V2, V3, V4, V5, V6, V7]) := by
  intro n
  induction n with
  | zero =>
    intro V0 V1 V2 V3 V4 V5 V6 V7 x1 x2 res h
    simp [fX2_checkCond_l4] at h
  | succ n ih =>
    intro V0 V1 V2 V3 V4 V5 V6 V7 x1 x2 res h
    rw [fX2_checkCond_l4] at h
    refine zR_iload_n dX2_checkCond_4 2 rfl ?_
    refine zR_sipush (x := (1000 : Int32)) dX2_checkCond_5 rfl ?_
    by_cases c8 : (1000 : Int32) < x2
    · have h := zif_t h c8
      refine zR_icmp_gt_t (tgt := 80) dX2_checkCond_8 (by decide) c8 ?_
      have h := Option.some.inj h
      subst h
      exact zR_ret dX2_checkCond_80 rfl
    · have h := zif_f h c8
      refine zR_icmp_gt_f (tgt := 80) dX2_checkCond_8 (by decide) c8 ?_
      refine zR_iload_n dX2_checkCond_11 1 rfl ?_
      by_cases c9 : x1 = 0
      · have h := zif_t h c9
        refine zR_if_eq_t (tgt := 80) dX2_checkCond_12 (by decide) c9 ?_
        have h := Option.some.inj h
        subst h
        exact zR_ret dX2_checkCond_80 rfl
      · have h := zif_f h c9
        refine zR_if_eq_f (tgt := 80) dX2_checkCond_12 (by decide) c9 ?_
        refine zR_aload_n dX2_checkCond_15 0 rfl ?_
        obtain ⟨q10, hq11, h⟩ := zbd_some h
        refine zR_cV (rest := []) (st1 := []) dX2_checkCond_16 (mX2_checkSum F V0 V1 V2 V3 V4 V5 V6 V7 _ hq11) zc_X2_77 rfl (zE_at zd_7) ⟨_, _, rfl⟩ rfl (Nat.le_of_ble_eq_true rfl) (Nat.le_of_ble_eq_true rfl) rfl ?_
        refine zR_aload_n dX2_checkCond_19 0 rfl ?_
        refine zG_getR dX2_checkCond_20 zf_X2_19 zd_7 rfl rfl ?_
        refine zR_aload_n dX2_checkCond_23 0 rfl ?_
        refine zG_getI dX2_checkCond_24 zf_X2_9 zd_7 rfl rfl ?_
        obtain ⟨q12, hq13, h⟩ := zbd_some h
        refine zR_cV (rest := []) (st1 := [.int q12]) dX2_checkCond_27 (mX10_kindAt F V0 q10.1 q10.2 V3 V4 V5 V6 V7 (zI q10.2 0 1) _ hq13) zc_X2_53 rfl (zE_at zd_2) ⟨_, _, rfl⟩ rfl (Nat.le_of_ble_eq_true rfl) (Nat.le_of_ble_eq_true rfl) rfl ?_
        obtain ⟨q14, hq15, h⟩ := zbd_some h
        refine zR_cS (rest := []) (st1 := [.int q14]) dX2_checkCond_30 (mX2_isRelation F (zE zds w [V0, q10.1, q10.2, V3, V4, V5, V6, V7]) q12 _ hq15) zc_X2_80 rfl rfl (Nat.le_of_ble_eq_true rfl) (Nat.le_of_ble_eq_true rfl) rfl ?_
        by_cases c16 : q14 = 0
        · have h := zif_t h c16
          refine zR_if_eq_t (tgt := 43) dX2_checkCond_33 (by decide) c16 ?_
          refine zR_aload_n dX2_checkCond_43 0 rfl ?_
          refine zG_getR dX2_checkCond_44 zf_X2_19 zd_7 rfl rfl ?_
          refine zR_iconst (x := (1 : Int32)) dX2_checkCond_47 rfl ?_
          refine zR_aload_n dX2_checkCond_48 0 rfl ?_
          refine zG_getI dX2_checkCond_49 zf_X2_9 zd_7 rfl rfl ?_
          obtain ⟨q17, hq18, h⟩ := zbd_some h
          refine zR_cV (rest := []) (st1 := []) dX2_checkCond_52 (mX10_blame F V0 q10.1 q10.2 V3 V4 V5 V6 V7 (1 : Int32) (zI q10.2 0 1) _ hq18) zc_X2_44 rfl (zE_at zd_2) ⟨_, _, rfl⟩ rfl (Nat.le_of_ble_eq_true rfl) (Nat.le_of_ble_eq_true rfl) rfl ?_
          refine zR_sub (lv' := [(0, .ref (w.1 + 7)), (2, .int x2)]) [0, 2] rfl ?_
          exact wX2_checkCond_b55 F (fX2_checkCond_l4 F n) ih V0 q17 q10.2 V3 V4 V5 V6 V7 x2 _ h
        · have h := zif_f h c16
          refine zR_if_eq_f (tgt := 43) dX2_checkCond_33 (by decide) c16 ?_
          refine zR_aload_n dX2_checkCond_36 0 rfl ?_
          obtain ⟨q19, hq20, h⟩ := zbd_some h
          refine zR_cV (rest := []) (st1 := []) dX2_checkCond_37 (mX2_pass F V0 q10.1 q10.2 V3 V4 V5 V6 V7 _ hq20) zc_X2_57 rfl (zE_at zd_7) ⟨_, _, rfl⟩ rfl (Nat.le_of_ble_eq_true rfl) (Nat.le_of_ble_eq_true rfl) rfl ?_
          refine zR_goto (tgt := 55) dX2_checkCond_40 (by decide) ?_
          refine zR_sub (lv' := [(0, .ref (w.1 + 7)), (2, .int x2)]) [0, 2] rfl ?_
          exact wX2_checkCond_b55 F (fX2_checkCond_l4 F n) ih V0 q19.1 q19.2 V3 V4 V5 V6 V7 x2 _ h
set_option maxRecDepth 100000 in
set_option maxHeartbeats 4000000 in
theorem mX2_checkCond {w : zW} (F : Nat) (V0 V1 V2 V3 V4 V5 V6 V7 : zV) (res : zV × zV) (h : fX2_checkCond F V1 V2 = some res) : zMet w kX2_checkCond 3 0 0 [.ref (w.1 + 7)] (zE zds w [V0, V1, V2, V3, V4, V5, V6, V7]) none (zE zds w [V0, res.1, res.2, V3, V4, V5, V6, V7]) := by
  refine zMet_of (by decide) (Nat.le_of_ble_eq_true rfl) (Nat.le_refl 0) fun _ => ?_
  show zR w kX2_checkCond 3 0 0 none (zE zds w [V0, res.1, res.2, V3, V4, V5, V6, V7]) 0 [(0, .ref (w.1 + 7))] [] (zE zds w [V0, V1, V2, V3, V4, V5, V6, V7])
  unfold fX2_checkCond at h
  refine zR_iconst (x := (1 : Int32)) dX2_checkCond_0 rfl ?_
  refine zR_istore_n (lv' := [(0, .ref (w.1 + 7)), (1, .int (1 : Int32))]) dX2_checkCond_1 (Nat.le_of_ble_eq_true rfl) rfl ?_
  refine zR_iconst (x := (0 : Int32)) dX2_checkCond_2 rfl ?_
  refine zR_istore_n (lv' := [(0, .ref (w.1 + 7)), (1, .int (1 : Int32)), (2, .int (0 : Int32))]) dX2_checkCond_3 (Nat.le_of_ble_eq_true rfl) rfl ?_
  exact wX2_checkCond_l4 F F V0 V1 V2 V3 V4 V5 V6 V7 (1 : Int32) (0 : Int32) _ h
set_option maxRecDepth 100000 in
set_option maxHeartbeats 4000000 in
theorem mX2_isAct {w : zW} (F : Nat) (S : zS) (x0 : Int32) (res : Int32) (h : fX2_isAct F x0 = some res) : zMet w kX2_isAct 0 0 0 [.int x0] S (some (.int res)) S := by
  refine zMet_of (by decide) (Nat.le_of_ble_eq_true rfl) (Nat.le_refl 0) fun _ => ?_
  show zR w kX2_isAct 0 0 0 (some (.int res)) S 0 [(0, .int x0)] [] S
  unfold fX2_isAct at h
  refine zR_iload_n dX2_isAct_0 0 rfl ?_
  refine zR_bipush (x := (16 : Int32)) dX2_isAct_1 rfl ?_
  by_cases c1 : x0 < (16 : Int32)
  · have h := zif_t h c1
    refine zR_icmp_lt_t (tgt := 16) dX2_isAct_3 (by decide) c1 ?_
    refine zR_iconst (x := (0 : Int32)) dX2_isAct_16 rfl ?_
    have h := Option.some.inj h
    subst h
    exact zR_iret (x := (0 : Int32)) dX2_isAct_17 rfl znar0
  · have h := zif_f h c1
    refine zR_icmp_lt_f (tgt := 16) dX2_isAct_3 (by decide) c1 ?_
    refine zR_iload_n dX2_isAct_6 0 rfl ?_
    refine zR_bipush (x := (24 : Int32)) dX2_isAct_7 rfl ?_
    by_cases c2 : (24 : Int32) < x0
    · have h := zif_t h c2
      refine zR_icmp_gt_t (tgt := 16) dX2_isAct_9 (by decide) c2 ?_
      refine zR_iconst (x := (0 : Int32)) dX2_isAct_16 rfl ?_
      have h := Option.some.inj h
      subst h
      exact zR_iret (x := (0 : Int32)) dX2_isAct_17 rfl znar0
    · have h := zif_f h c2
      refine zR_icmp_gt_f (tgt := 16) dX2_isAct_9 (by decide) c2 ?_
      refine zR_iconst (x := (1 : Int32)) dX2_isAct_12 rfl ?_
      refine zR_goto (tgt := 17) dX2_isAct_13 (by decide) ?_
      have h := Option.some.inj h
      subst h
      exact zR_iret (x := (1 : Int32)) dX2_isAct_17 rfl znar1
set_option maxRecDepth 100000 in
set_option maxHeartbeats 4000000 in
theorem wX2_checkAct_b72 {w : zW} (F : Nat) (V0 V1 V2 V3 V4 V5 V6 V7 : zV) (res : zV × zV) (h : fX2_checkAct_b72 F V1 V2 = some res) : zR w kX2_checkAct 3 0 0 none (zE zds w [V0, res.1, res.2, V3, V4, V5, V6, V7]) 72 [(0, .ref (w.1 + 7))] [] (zE zds w [V0, V1, V2, V3, V4, V5, V6, V7]) := by
  unfold fX2_checkAct_b72 at h
  refine zR_aload_n dX2_checkAct_72 0 rfl ?_
  obtain ⟨q1, hq2, h⟩ := zbd_some h
  refine zR_cV (rest := []) (st1 := []) dX2_checkAct_73 (mX2_checkSum F V0 V1 V2 V3 V4 V5 V6 V7 _ hq2) zc_X2_77 rfl (zE_at zd_7) ⟨_, _, rfl⟩ rfl (Nat.le_of_ble_eq_true rfl) (Nat.le_of_ble_eq_true rfl) rfl ?_
  have h := Option.some.inj h
  subst h
  exact zR_ret dX2_checkAct_76 rfl
set_option maxRecDepth 100000 in
set_option maxHeartbeats 4000000 in
theorem wX2_checkAct_b60 {w : zW} (F : Nat) (V0 V1 V2 V3 V4 V5 V6 V7 : zV) (x1 : Int32) (res : zV × zV) (h : fX2_checkAct_b60 F V1 V2 x1 = some res) : zR w kX2_checkAct 3 0 0 none (zE zds w [V0, res.1, res.2, V3, V4, V5, V6, V7]) 60 [(0, .ref (w.1 + 7)), (1, .int x1)] [] (zE zds w [V0, V1, V2, V3, V4, V5, V6, V7]) := by
  unfold fX2_checkAct_b60 at h
  refine zR_iload_n dX2_checkAct_60 1 rfl ?_
  refine zR_bipush (x := (16 : Int32)) dX2_checkAct_61 rfl ?_
  by_cases c3 : x1 = (16 : Int32)
  · have h := zif_t h c3
    refine zR_icmp_eq_t (tgt := 72) dX2_checkAct_63 (by decide) c3 ?_
    refine zR_sub (lv' := [(0, .ref (w.1 + 7))]) [0] rfl ?_
    exact wX2_checkAct_b72 F V0 V1 V2 V3 V4 V5 V6 V7 _ h
  · have h := zif_f h c3
    refine zR_icmp_eq_f (tgt := 72) dX2_checkAct_63 (by decide) c3 ?_
    refine zR_iload_n dX2_checkAct_66 1 rfl ?_
    refine zR_bipush (x := (17 : Int32)) dX2_checkAct_67 rfl ?_
    by_cases c4 : x1 = (17 : Int32)
    · have h := zif_t h c4
      refine zR_icmp_ne_f (tgt := 76) dX2_checkAct_69 (by decide) c4 ?_
      refine zR_sub (lv' := [(0, .ref (w.1 + 7))]) [0] rfl ?_
      exact wX2_checkAct_b72 F V0 V1 V2 V3 V4 V5 V6 V7 _ h
    · have h := zif_f h c4
      refine zR_icmp_ne_t (tgt := 76) dX2_checkAct_69 (by decide) c4 ?_
      have h := Option.some.inj h
      subst h
      exact zR_ret dX2_checkAct_76 rfl
set_option maxRecDepth 100000 in
set_option maxHeartbeats 4000000 in
theorem wX2_checkAct_b54 {w : zW} (F : Nat) (V0 V1 V2 V3 V4 V5 V6 V7 : zV) (x1 : Int32) (res : zV × zV) (h : fX2_checkAct_b54 F V1 V2 x1 = some res) : zR w kX2_checkAct 3 0 0 none (zE zds w [V0, res.1, res.2, V3, V4, V5, V6, V7]) 54 [(0, .ref (w.1 + 7)), (1, .int x1)] [] (zE zds w [V0, V1, V2, V3, V4, V5, V6, V7]) := by
  unfold fX2_checkAct_b54 at h
  refine zR_aload_n dX2_checkAct_54 0 rfl ?_
  refine zR_bipush (x := (27 : Int32)) dX2_checkAct_55 rfl ?_
  obtain ⟨q5, hq6, h⟩ := zbd_some h
  refine zR_cV (rest := []) (st1 := []) dX2_checkAct_57 (mX2_need F V0 V1 V2 V3 V4 V5 V6 V7 (27 : Int32) _ hq6) zc_X2_40 rfl (zE_at zd_7) ⟨_, _, rfl⟩ rfl (Nat.le_of_ble_eq_true rfl) (Nat.le_of_ble_eq_true rfl) rfl ?_
  exact wX2_checkAct_b60 F V0 q5.1 q5.2 V3 V4 V5 V6 V7 x1 _ h
set_option maxRecDepth 100000 in
set_option maxHeartbeats 4000000 in
theorem mX2_checkAct {w : zW} (F : Nat) (V0 V1 V2 V3 V4 V5 V6 V7 : zV) (res : zV × zV) (h : fX2_checkAct F V1 V2 = some res) : zMet w kX2_checkAct 3 0 0 [.ref (w.1 + 7)] (zE zds w [V0, V1, V2, V3, V4, V5, V6, V7]) none (zE zds w [V0, res.1, res.2, V3, V4, V5, V6, V7]) := by
  refine zMet_of (by decide) (Nat.le_of_ble_eq_true rfl) (Nat.le_refl 0) fun _ => ?_
  show zR w kX2_checkAct 3 0 0 none (zE zds w [V0, res.1, res.2, V3, V4, V5, V6, V7]) 0 [(0, .ref (w.1 + 7))] [] (zE zds w [V0, V1, V2, V3, V4, V5, V6, V7])
  unfold fX2_checkAct at h
  refine zR_aload_n dX2_checkAct_0 0 rfl ?_
  refine zG_getR dX2_checkAct_1 zf_X2_19 zd_7 rfl rfl ?_
  refine zR_aload_n dX2_checkAct_4 0 rfl ?_
  refine zG_getI dX2_checkAct_5 zf_X2_9 zd_7 rfl rfl ?_
  obtain ⟨q7, hq8, h⟩ := zbd_some h
  refine zR_cV (rest := []) (st1 := [.int q7]) dX2_checkAct_8 (mX10_kindAt F V0 V1 V2 V3 V4 V5 V6 V7 (zI V2 0 1) _ hq8) zc_X2_53 rfl (zE_at zd_2) ⟨_, _, rfl⟩ rfl (Nat.le_of_ble_eq_true rfl) (Nat.le_of_ble_eq_true rfl) rfl ?_
  refine zR_istore_n (lv' := [(0, .ref (w.1 + 7)), (1, .int q7)]) dX2_checkAct_11 (Nat.le_of_ble_eq_true rfl) rfl ?_
  refine zR_iload_n dX2_checkAct_12 1 rfl ?_
  obtain ⟨q9, hq10, h⟩ := zbd_some h
  refine zR_cS (rest := []) (st1 := [.int q9]) dX2_checkAct_13 (mX2_isAct F (zE zds w [V0, V1, V2, V3, V4, V5, V6, V7]) q7 _ hq10) zc_X2_74 rfl rfl (Nat.le_of_ble_eq_true rfl) (Nat.le_of_ble_eq_true rfl) rfl ?_
  by_cases c11 : q9 = 0
  · have h := zif_t h c11
    refine zR_if_ne_f (tgt := 32) dX2_checkAct_16 (by decide) c11 ?_
    refine zR_aload_n dX2_checkAct_19 0 rfl ?_
    refine zG_getR dX2_checkAct_20 zf_X2_19 zd_7 rfl rfl ?_
    refine zR_iconst (x := (1 : Int32)) dX2_checkAct_23 rfl ?_
    refine zR_aload_n dX2_checkAct_24 0 rfl ?_
    refine zG_getI dX2_checkAct_25 zf_X2_9 zd_7 rfl rfl ?_
    obtain ⟨q17, hq18, h⟩ := zbd_some h
    refine zR_cV (rest := []) (st1 := []) dX2_checkAct_28 (mX10_blame F V0 V1 V2 V3 V4 V5 V6 V7 (1 : Int32) (zI V2 0 1) _ hq18) zc_X2_44 rfl (zE_at zd_2) ⟨_, _, rfl⟩ rfl (Nat.le_of_ble_eq_true rfl) (Nat.le_of_ble_eq_true rfl) rfl ?_
    have h := Option.some.inj h
    subst h
    exact zR_ret dX2_checkAct_31 rfl
  · have h := zif_f h c11
    refine zR_if_ne_t (tgt := 32) dX2_checkAct_16 (by decide) c11 ?_
    refine zR_aload_n dX2_checkAct_32 0 rfl ?_
    obtain ⟨q12, hq13, h⟩ := zbd_some h
    refine zR_cV (rest := []) (st1 := []) dX2_checkAct_33 (mX2_pass F V0 V1 V2 V3 V4 V5 V6 V7 _ hq13) zc_X2_57 rfl (zE_at zd_7) ⟨_, _, rfl⟩ rfl (Nat.le_of_ble_eq_true rfl) (Nat.le_of_ble_eq_true rfl) rfl ?_
    refine zR_iload_n dX2_checkAct_36 1 rfl ?_
    refine zR_bipush (x := (17 : Int32)) dX2_checkAct_37 rfl ?_
    by_cases c14 : q7 = (17 : Int32)
    · have h := zif_t h c14
      refine zR_icmp_eq_t (tgt := 54) dX2_checkAct_39 (by decide) c14 ?_
      exact wX2_checkAct_b54 F V0 q12.1 q12.2 V3 V4 V5 V6 V7 q7 _ h
    · have h := zif_f h c14
      refine zR_icmp_eq_f (tgt := 54) dX2_checkAct_39 (by decide) c14 ?_
      refine zR_iload_n dX2_checkAct_42 1 rfl ?_
      refine zR_bipush (x := (18 : Int32)) dX2_checkAct_43 rfl ?_
      by_cases c15 : q7 = (18 : Int32)
      · have h := zif_t h c15
        refine zR_icmp_eq_t (tgt := 54) dX2_checkAct_45 (by decide) c15 ?_
        exact wX2_checkAct_b54 F V0 q12.1 q12.2 V3 V4 V5 V6 V7 q7 _ h
      · have h := zif_f h c15
        refine zR_icmp_eq_f (tgt := 54) dX2_checkAct_45 (by decide) c15 ?_
        refine zR_iload_n dX2_checkAct_48 1 rfl ?_
        refine zR_bipush (x := (20 : Int32)) dX2_checkAct_49 rfl ?_
        by_cases c16 : q7 = (20 : Int32)
        · have h := zif_t h c16
          refine zR_icmp_ne_f (tgt := 60) dX2_checkAct_51 (by decide) c16 ?_
          exact wX2_checkAct_b54 F V0 q12.1 q12.2 V3 V4 V5 V6 V7 q7 _ h
        · have h := zif_f h c16
          refine zR_icmp_ne_t (tgt := 60) dX2_checkAct_51 (by decide) c16 ?_
          exact wX2_checkAct_b60 F V0 q12.1 q12.2 V3 V4 V5 V6 V7 q7 _ h
set_option maxRecDepth 100000 in
set_option maxHeartbeats 4000000 in
theorem wX2_checkRule_b132 {w : zW} (F : Nat) (V0 V1 V2 V3 V4 V5 V6 V7 : zV) (res : zV × zV) (h : fX2_checkRule_b132 F V1 V2 = some res) : zR w kX2_checkRule 4 0 0 none (zE zds w [V0, res.1, res.2, V3, V4, V5, V6, V7]) 132 [(0, .ref (w.1 + 7))] [] (zE zds w [V0, V1, V2, V3, V4, V5, V6, V7]) := by
  unfold fX2_checkRule_b132 at h
  refine zR_aload_n dX2_checkRule_132 0 rfl ?_
  refine zR_bipush (x := (29 : Int32)) dX2_checkRule_133 rfl ?_
  obtain ⟨q1, hq2, h⟩ := zbd_some h
  refine zR_cV (rest := []) (st1 := []) dX2_checkRule_135 (mX2_need F V0 V1 V2 V3 V4 V5 V6 V7 (29 : Int32) _ hq2) zc_X2_40 rfl (zE_at zd_7) ⟨_, _, rfl⟩ rfl (Nat.le_of_ble_eq_true rfl) (Nat.le_of_ble_eq_true rfl) rfl ?_
  have h := Option.some.inj h
  subst h
  exact zR_ret dX2_checkRule_138 rfl
set_option maxRecDepth 100000 in
set_option maxHeartbeats 4000000 in
theorem wX2_checkRule_b122 {w : zW} (F : Nat) (k68 : zV → zV → Int32 → Option (zV × zV)) (hk68 : ∀ (V0 V1 V2 V3 V4 V5 V6 V7 : zV) (x1 : Int32) (res : zV × zV), k68 V1 V2 x1 = some res → zR w kX2_checkRule 4 0 0 none (zE zds w [V0, res.1, res.2, V3, V4, V5, V6, V7]) 68 [(0, .ref (w.1 + 7)), (1, .int x1)] [] (zE zds w [V0, V1, V2, V3, V4, V5, V6, V7])) (V0 V1 V2 V3 V4 V5 V6 V7 : zV) (x1 : Int32) (res : zV × zV) (h : fX2_checkRule_b122 F k68 V1 V2 x1 = some res) : zR w kX2_checkRule 4 0 0 none (zE zds w [V0, res.1, res.2, V3, V4, V5, V6, V7]) 122 [(0, .ref (w.1 + 7)), (1, .int x1)] [] (zE zds w [V0, V1, V2, V3, V4, V5, V6, V7]) := by
  unfold fX2_checkRule_b122 at h
  refine zR_aload_n dX2_checkRule_122 0 rfl ?_
  obtain ⟨q3, hq4, h⟩ := zbd_some h
  refine zR_cV (rest := []) (st1 := []) dX2_checkRule_123 (mX2_checkAct F V0 V1 V2 V3 V4 V5 V6 V7 _ hq4) zc_X2_71 rfl (zE_at zd_7) ⟨_, _, rfl⟩ rfl (Nat.le_of_ble_eq_true rfl) (Nat.le_of_ble_eq_true rfl) rfl ?_
  refine zR_iinc (u := (x1 + 1)) (lv' := [(0, .ref (w.1 + 7)), (1, .int (x1 + 1))]) dX2_checkRule_126 1 rfl rfl (Nat.le_of_ble_eq_true rfl) rfl ?_
  refine zR_goto (tgt := 68) dX2_checkRule_129 (by decide) ?_
  exact hk68 V0 q3.1 q3.2 V3 V4 V5 V6 V7 (x1 + 1) _ h
set_option maxRecDepth 100000 in
set_option maxHeartbeats 4000000 in
theorem wX2_checkRule_l68 {w : zW} (F : Nat) : ∀ (n : Nat) (V0 V1 V2 V3 V4 V5 V6 V7 : zV) (x1 : Int32) (res : zV × zV), fX2_checkRule_l68 F n V1 V2 x1 = some res → zR w kX2_checkRule 4 0 0 none (zE zds w [V0, res.1, res.2, V3, V4, V5, V6, V7]) 68 [(0, .ref (w.1 + 7)), (1, .int x1)] [] (zE zds w [V0, V1, V2, V3, V4, V5, V6, V7]) := by
  intro n
  induction n with
  | zero =>
    intro V0 V1 V2 V3 V4 V5 V6 V7 x1 res h
    simp [fX2_checkRule_l68] at h
  | succ n ih =>
    intro V0 V1 V2 V3 V4 V5 V6 V7 x1 res h
    rw [fX2_checkRule_l68] at h
    refine zR_iload_n dX2_checkRule_68 1 rfl ?_
    refine zR_bipush (x := (12 : Int32)) dX2_checkRule_69 rfl ?_
    by_cases c5 : (12 : Int32) < x1
    · have h := zif_t h c5
      refine zR_icmp_gt_t (tgt := 132) dX2_checkRule_71 (by decide) c5 ?_
      refine zR_sub (lv' := [(0, .ref (w.1 + 7))]) [0] rfl ?_
      exact wX2_checkRule_b132 F V0 V1 V2 V3 V4 V5 V6 V7 _ h
    · have h := zif_f h c5
      refine zR_icmp_gt_f (tgt := 132) dX2_checkRule_71 (by decide) c5 ?_
      refine zR_aload_n dX2_checkRule_74 0 rfl ?_
      refine zR_bipush (x := (31 : Int32)) dX2_checkRule_75 rfl ?_
      obtain ⟨q6, hq7, h⟩ := zbd_some h
      refine zR_cV (rest := []) (st1 := [.int q6]) dX2_checkRule_77 (mX2_sees F V0 V1 V2 V3 V4 V5 V6 V7 (31 : Int32) _ hq7) zc_X2_30 rfl (zE_at zd_7) ⟨_, _, rfl⟩ rfl (Nat.le_of_ble_eq_true rfl) (Nat.le_of_ble_eq_true rfl) rfl ?_
      by_cases c8 : q6 = 0
      · have h := zif_t h c8
        refine zR_if_eq_t (tgt := 132) dX2_checkRule_80 (by decide) c8 ?_
        refine zR_sub (lv' := [(0, .ref (w.1 + 7))]) [0] rfl ?_
        exact wX2_checkRule_b132 F V0 V1 V2 V3 V4 V5 V6 V7 _ h
      · have h := zif_f h c8
        refine zR_if_eq_f (tgt := 132) dX2_checkRule_80 (by decide) c8 ?_
        refine zR_aload_n dX2_checkRule_83 0 rfl ?_
        obtain ⟨q9, hq10, h⟩ := zbd_some h
        refine zR_cV (rest := []) (st1 := []) dX2_checkRule_84 (mX2_pass F V0 V1 V2 V3 V4 V5 V6 V7 _ hq10) zc_X2_57 rfl (zE_at zd_7) ⟨_, _, rfl⟩ rfl (Nat.le_of_ble_eq_true rfl) (Nat.le_of_ble_eq_true rfl) rfl ?_
        refine zR_iload_n dX2_checkRule_87 1 rfl ?_
        refine zR_bipush (x := (12 : Int32)) dX2_checkRule_88 rfl ?_
        by_cases c11 : x1 = (12 : Int32)
        · have h := zif_t h c11
          refine zR_icmp_ne_f (tgt := 122) dX2_checkRule_90 (by decide) c11 ?_
          refine zR_aload_n dX2_checkRule_93 0 rfl ?_
          refine zG_getR dX2_checkRule_94 zf_X2_19 zd_7 rfl rfl ?_
          refine zR_aload_n dX2_checkRule_97 0 rfl ?_
          refine zG_getI dX2_checkRule_98 zf_X2_9 zd_7 rfl rfl ?_
          obtain ⟨q12, hq13, h⟩ := zbd_some h
          refine zR_cV (rest := []) (st1 := [.int q12]) dX2_checkRule_101 (mX10_kindAt F V0 q9.1 q9.2 V3 V4 V5 V6 V7 (zI q9.2 0 1) _ hq13) zc_X2_53 rfl (zE_at zd_2) ⟨_, _, rfl⟩ rfl (Nat.le_of_ble_eq_true rfl) (Nat.le_of_ble_eq_true rfl) rfl ?_
          obtain ⟨q14, hq15, h⟩ := zbd_some h
          refine zR_cS (rest := []) (st1 := [.int q14]) dX2_checkRule_104 (mX2_isAct F (zE zds w [V0, q9.1, q9.2, V3, V4, V5, V6, V7]) q12 _ hq15) zc_X2_74 rfl rfl (Nat.le_of_ble_eq_true rfl) (Nat.le_of_ble_eq_true rfl) rfl ?_
          by_cases c16 : q14 = 0
          · have h := zif_t h c16
            refine zR_if_eq_t (tgt := 122) dX2_checkRule_107 (by decide) c16 ?_
            exact wX2_checkRule_b122 F (fX2_checkRule_l68 F n) ih V0 q9.1 q9.2 V3 V4 V5 V6 V7 x1 _ h
          · have h := zif_f h c16
            refine zR_if_eq_f (tgt := 122) dX2_checkRule_107 (by decide) c16 ?_
            refine zR_aload_n dX2_checkRule_110 0 rfl ?_
            refine zG_getR dX2_checkRule_111 zf_X2_19 zd_7 rfl rfl ?_
            refine zR_iconst (x := (2 : Int32)) dX2_checkRule_114 rfl ?_
            refine zR_aload_n dX2_checkRule_115 0 rfl ?_
            refine zG_getI dX2_checkRule_116 zf_X2_9 zd_7 rfl rfl ?_
            obtain ⟨q17, hq18, h⟩ := zbd_some h
            refine zR_cV (rest := []) (st1 := []) dX2_checkRule_119 (mX10_blame F V0 q9.1 q9.2 V3 V4 V5 V6 V7 (2 : Int32) (zI q9.2 0 1) _ hq18) zc_X2_44 rfl (zE_at zd_2) ⟨_, _, rfl⟩ rfl (Nat.le_of_ble_eq_true rfl) (Nat.le_of_ble_eq_true rfl) rfl ?_
            exact wX2_checkRule_b122 F (fX2_checkRule_l68 F n) ih V0 q17 q9.2 V3 V4 V5 V6 V7 x1 _ h
        · have h := zif_f h c11
          refine zR_icmp_ne_t (tgt := 122) dX2_checkRule_90 (by decide) c11 ?_
          exact wX2_checkRule_b122 F (fX2_checkRule_l68 F n) ih V0 q9.1 q9.2 V3 V4 V5 V6 V7 x1 _ h
set_option maxRecDepth 100000 in
set_option maxHeartbeats 4000000 in
theorem wX2_checkRule_b56 {w : zW} (F : Nat) (V0 V1 V2 V3 V4 V5 V6 V7 : zV) (res : zV × zV) (h : fX2_checkRule_b56 F V1 V2 = some res) : zR w kX2_checkRule 4 0 0 none (zE zds w [V0, res.1, res.2, V3, V4, V5, V6, V7]) 56 [(0, .ref (w.1 + 7))] [] (zE zds w [V0, V1, V2, V3, V4, V5, V6, V7]) := by
  unfold fX2_checkRule_b56 at h
  refine zR_aload_n dX2_checkRule_56 0 rfl ?_
  refine zR_bipush (x := (30 : Int32)) dX2_checkRule_57 rfl ?_
  obtain ⟨q19, hq20, h⟩ := zbd_some h
  refine zR_cV (rest := []) (st1 := []) dX2_checkRule_59 (mX2_need F V0 V1 V2 V3 V4 V5 V6 V7 (30 : Int32) _ hq20) zc_X2_40 rfl (zE_at zd_7) ⟨_, _, rfl⟩ rfl (Nat.le_of_ble_eq_true rfl) (Nat.le_of_ble_eq_true rfl) rfl ?_
  refine zR_aload_n dX2_checkRule_62 0 rfl ?_
  obtain ⟨q21, hq22, h⟩ := zbd_some h
  refine zR_cV (rest := []) (st1 := []) dX2_checkRule_63 (mX2_checkAct F V0 q19.1 q19.2 V3 V4 V5 V6 V7 _ hq22) zc_X2_71 rfl (zE_at zd_7) ⟨_, _, rfl⟩ rfl (Nat.le_of_ble_eq_true rfl) (Nat.le_of_ble_eq_true rfl) rfl ?_
  refine zR_iconst (x := (1 : Int32)) dX2_checkRule_66 rfl ?_
  refine zR_istore_n (lv' := [(0, .ref (w.1 + 7)), (1, .int (1 : Int32))]) dX2_checkRule_67 (Nat.le_of_ble_eq_true rfl) rfl ?_
  exact wX2_checkRule_l68 F F V0 q21.1 q21.2 V3 V4 V5 V6 V7 (1 : Int32) _ h
set_option maxRecDepth 100000 in
set_option maxHeartbeats 4000000 in
theorem wX2_checkRule_b39 {w : zW} (F : Nat) (V0 V1 V2 V3 V4 V5 V6 V7 : zV) (res : zV × zV) (h : fX2_checkRule_b39 F V1 V2 = some res) : zR w kX2_checkRule 4 0 0 none (zE zds w [V0, res.1, res.2, V3, V4, V5, V6, V7]) 39 [(0, .ref (w.1 + 7))] [] (zE zds w [V0, V1, V2, V3, V4, V5, V6, V7]) := by
  unfold fX2_checkRule_b39 at h
  refine zR_aload_n dX2_checkRule_39 0 rfl ?_
  refine zR_bipush (x := (14 : Int32)) dX2_checkRule_40 rfl ?_
  obtain ⟨q23, hq24, h⟩ := zbd_some h
  refine zR_cV (rest := []) (st1 := [.int q23]) dX2_checkRule_42 (mX2_sees F V0 V1 V2 V3 V4 V5 V6 V7 (14 : Int32) _ hq24) zc_X2_30 rfl (zE_at zd_7) ⟨_, _, rfl⟩ rfl (Nat.le_of_ble_eq_true rfl) (Nat.le_of_ble_eq_true rfl) rfl ?_
  by_cases c25 : q23 = 0
  · have h := zif_t h c25
    refine zR_if_eq_t (tgt := 56) dX2_checkRule_45 (by decide) c25 ?_
    exact wX2_checkRule_b56 F V0 V1 V2 V3 V4 V5 V6 V7 _ h
  · have h := zif_f h c25
    refine zR_if_eq_f (tgt := 56) dX2_checkRule_45 (by decide) c25 ?_
    refine zR_aload_n dX2_checkRule_48 0 rfl ?_
    obtain ⟨q26, hq27, h⟩ := zbd_some h
    refine zR_cV (rest := []) (st1 := []) dX2_checkRule_49 (mX2_pass F V0 V1 V2 V3 V4 V5 V6 V7 _ hq27) zc_X2_57 rfl (zE_at zd_7) ⟨_, _, rfl⟩ rfl (Nat.le_of_ble_eq_true rfl) (Nat.le_of_ble_eq_true rfl) rfl ?_
    refine zR_aload_n dX2_checkRule_52 0 rfl ?_
    obtain ⟨q28, hq29, h⟩ := zbd_some h
    refine zR_cV (rest := []) (st1 := []) dX2_checkRule_53 (mX2_checkCond F V0 q26.1 q26.2 V3 V4 V5 V6 V7 _ hq29) zc_X2_68 rfl (zE_at zd_7) ⟨_, _, rfl⟩ rfl (Nat.le_of_ble_eq_true rfl) (Nat.le_of_ble_eq_true rfl) rfl ?_
    exact wX2_checkRule_b56 F V0 q28.1 q28.2 V3 V4 V5 V6 V7 _ h
set_option maxRecDepth 100000 in
set_option maxHeartbeats 4000000 in
theorem wX2_checkRule_b26 {w : zW} (F : Nat) (V0 V1 V2 V3 V4 V5 V6 V7 : zV) (res : zV × zV) (h : fX2_checkRule_b26 F V1 V2 = some res) : zR w kX2_checkRule 4 0 0 none (zE zds w [V0, res.1, res.2, V3, V4, V5, V6, V7]) 26 [(0, .ref (w.1 + 7))] [] (zE zds w [V0, V1, V2, V3, V4, V5, V6, V7]) := by
  unfold fX2_checkRule_b26 at h
  refine zR_aload_n dX2_checkRule_26 0 rfl ?_
  obtain ⟨q30, hq31, h⟩ := zbd_some h
  refine zR_cV (rest := []) (st1 := []) dX2_checkRule_27 (mX2_pass F V0 V1 V2 V3 V4 V5 V6 V7 _ hq31) zc_X2_57 rfl (zE_at zd_7) ⟨_, _, rfl⟩ rfl (Nat.le_of_ble_eq_true rfl) (Nat.le_of_ble_eq_true rfl) rfl ?_
  refine zR_goto (tgt := 39) dX2_checkRule_30 (by decide) ?_
  exact wX2_checkRule_b39 F V0 q30.1 q30.2 V3 V4 V5 V6 V7 _ h
set_option maxRecDepth 100000 in
set_option maxHeartbeats 4000000 in
theorem mX2_checkRule {w : zW} (F : Nat) (V0 V1 V2 V3 V4 V5 V6 V7 : zV) (res : zV × zV) (h : fX2_checkRule F V1 V2 = some res) : zMet w kX2_checkRule 4 0 0 [.ref (w.1 + 7)] (zE zds w [V0, V1, V2, V3, V4, V5, V6, V7]) none (zE zds w [V0, res.1, res.2, V3, V4, V5, V6, V7]) := by
  refine zMet_of (by decide) (Nat.le_of_ble_eq_true rfl) (Nat.le_refl 0) fun _ => ?_
  show zR w kX2_checkRule 4 0 0 none (zE zds w [V0, res.1, res.2, V3, V4, V5, V6, V7]) 0 [(0, .ref (w.1 + 7))] [] (zE zds w [V0, V1, V2, V3, V4, V5, V6, V7])
  unfold fX2_checkRule at h
  refine zR_aload_n dX2_checkRule_0 0 rfl ?_
  refine zR_bipush (x := (11 : Int32)) dX2_checkRule_1 rfl ?_
  refine zR_bipush (x := (80 : Int32)) dX2_checkRule_3 rfl ?_
  obtain ⟨q32, hq33, h⟩ := zbd_some h
  refine zR_cV (rest := []) (st1 := []) dX2_checkRule_5 (mX2_passNewOne F V0 V1 V2 V3 V4 V5 V6 V7 (11 : Int32) (80 : Int32) _ hq33) zc_X2_65 rfl (zE_at zd_7) ⟨_, _, rfl⟩ rfl (Nat.le_of_ble_eq_true rfl) (Nat.le_of_ble_eq_true rfl) rfl ?_
  refine zR_aload_n dX2_checkRule_8 0 rfl ?_
  refine zR_bipush (x := (12 : Int32)) dX2_checkRule_9 rfl ?_
  obtain ⟨q34, hq35, h⟩ := zbd_some h
  refine zR_cV (rest := []) (st1 := [.int q34]) dX2_checkRule_11 (mX2_sees F V0 q32.1 q32.2 V3 V4 V5 V6 V7 (12 : Int32) _ hq35) zc_X2_30 rfl (zE_at zd_7) ⟨_, _, rfl⟩ rfl (Nat.le_of_ble_eq_true rfl) (Nat.le_of_ble_eq_true rfl) rfl ?_
  by_cases c36 : q34 = 0
  · have h := zif_t h c36
    refine zR_if_ne_f (tgt := 26) dX2_checkRule_14 (by decide) c36 ?_
    refine zR_aload_n dX2_checkRule_17 0 rfl ?_
    refine zR_bipush (x := (13 : Int32)) dX2_checkRule_18 rfl ?_
    obtain ⟨q37, hq38, h⟩ := zbd_some h
    refine zR_cV (rest := []) (st1 := [.int q37]) dX2_checkRule_20 (mX2_sees F V0 q32.1 q32.2 V3 V4 V5 V6 V7 (13 : Int32) _ hq38) zc_X2_30 rfl (zE_at zd_7) ⟨_, _, rfl⟩ rfl (Nat.le_of_ble_eq_true rfl) (Nat.le_of_ble_eq_true rfl) rfl ?_
    by_cases c39 : q37 = 0
    · have h := zif_t h c39
      refine zR_if_eq_t (tgt := 33) dX2_checkRule_23 (by decide) c39 ?_
      refine zR_aload_n dX2_checkRule_33 0 rfl ?_
      refine zR_bipush (x := (27 : Int32)) dX2_checkRule_34 rfl ?_
      obtain ⟨q40, hq41, h⟩ := zbd_some h
      refine zR_cV (rest := []) (st1 := []) dX2_checkRule_36 (mX2_need F V0 q32.1 q32.2 V3 V4 V5 V6 V7 (27 : Int32) _ hq41) zc_X2_40 rfl (zE_at zd_7) ⟨_, _, rfl⟩ rfl (Nat.le_of_ble_eq_true rfl) (Nat.le_of_ble_eq_true rfl) rfl ?_
      exact wX2_checkRule_b39 F V0 q40.1 q40.2 V3 V4 V5 V6 V7 _ h
    · have h := zif_f h c39
      refine zR_if_eq_f (tgt := 33) dX2_checkRule_23 (by decide) c39 ?_
      exact wX2_checkRule_b26 F V0 q32.1 q32.2 V3 V4 V5 V6 V7 _ h
  · have h := zif_f h c36
    refine zR_if_ne_t (tgt := 26) dX2_checkRule_14 (by decide) c36 ?_
    exact wX2_checkRule_b26 F V0 q32.1 q32.2 V3 V4 V5 V6 V7 _ h
set_option maxRecDepth 100000 in
set_option maxHeartbeats 4000000 in
theorem wX2_check_b117 {w : zW} (F : Nat) (V0 V1 V2 V3 V4 V5 V6 V7 : zV) (res : zV × zV) (h : fX2_check_b117 F V1 V2 = some res) : zR w kX2_check 5 0 0 none (zE zds w [V0, res.1, res.2, V3, V4, V5, V6, V7]) 117 [(0, .ref (w.1 + 7))] [] (zE zds w [V0, V1, V2, V3, V4, V5, V6, V7]) := by
  unfold fX2_check_b117 at h
  refine zR_aload_n dX2_check_117 0 rfl ?_
  refine zR_bipush (x := (41 : Int32)) dX2_check_118 rfl ?_
  obtain ⟨q1, hq2, h⟩ := zbd_some h
  refine zR_cV (rest := []) (st1 := [.int q1]) dX2_check_120 (mX2_sees F V0 V1 V2 V3 V4 V5 V6 V7 (41 : Int32) _ hq2) zc_X2_30 rfl (zE_at zd_7) ⟨_, _, rfl⟩ rfl (Nat.le_of_ble_eq_true rfl) (Nat.le_of_ble_eq_true rfl) rfl ?_
  by_cases c3 : q1 = 0
  · have h := zif_t h c3
    refine zR_if_ne_f (tgt := 138) dX2_check_123 (by decide) c3 ?_
    refine zR_aload_n dX2_check_126 0 rfl ?_
    refine zG_getR dX2_check_127 zf_X2_19 zd_7 rfl rfl ?_
    refine zR_iconst (x := (1 : Int32)) dX2_check_130 rfl ?_
    refine zR_aload_n dX2_check_131 0 rfl ?_
    refine zG_getI dX2_check_132 zf_X2_9 zd_7 rfl rfl ?_
    obtain ⟨q4, hq5, h⟩ := zbd_some h
    refine zR_cV (rest := []) (st1 := []) dX2_check_135 (mX10_blame F V0 V1 V2 V3 V4 V5 V6 V7 (1 : Int32) (zI V2 0 1) _ hq5) zc_X2_44 rfl (zE_at zd_2) ⟨_, _, rfl⟩ rfl (Nat.le_of_ble_eq_true rfl) (Nat.le_of_ble_eq_true rfl) rfl ?_
    have h := Option.some.inj h
    subst h
    exact zR_ret dX2_check_138 rfl
  · have h := zif_f h c3
    refine zR_if_ne_t (tgt := 138) dX2_check_123 (by decide) c3 ?_
    have h := Option.some.inj h
    subst h
    exact zR_ret dX2_check_138 rfl
set_option maxRecDepth 100000 in
set_option maxHeartbeats 4000000 in
theorem wX2_check_b105 {w : zW} (F : Nat) (k57 : zV → zV → Int32 → Option (zV × zV)) (hk57 : ∀ (V0 V1 V2 V3 V4 V5 V6 V7 : zV) (x1 : Int32) (res : zV × zV), k57 V1 V2 x1 = some res → zR w kX2_check 5 0 0 none (zE zds w [V0, res.1, res.2, V3, V4, V5, V6, V7]) 57 [(0, .ref (w.1 + 7)), (1, .int x1)] [] (zE zds w [V0, V1, V2, V3, V4, V5, V6, V7])) (V0 V1 V2 V3 V4 V5 V6 V7 : zV) (x1 : Int32) (res : zV × zV) (h : fX2_check_b105 F k57 V1 V2 x1 = some res) : zR w kX2_check 5 0 0 none (zE zds w [V0, res.1, res.2, V3, V4, V5, V6, V7]) 105 [(0, .ref (w.1 + 7)), (1, .int x1)] [] (zE zds w [V0, V1, V2, V3, V4, V5, V6, V7]) := by
  unfold fX2_check_b105 at h
  refine zR_aload_n dX2_check_105 0 rfl ?_
  refine zR_bipush (x := (10 : Int32)) dX2_check_106 rfl ?_
  obtain ⟨q6, hq7, h⟩ := zbd_some h
  refine zR_cV (rest := []) (st1 := []) dX2_check_108 (mX2_need F V0 V1 V2 V3 V4 V5 V6 V7 (10 : Int32) _ hq7) zc_X2_40 rfl (zE_at zd_7) ⟨_, _, rfl⟩ rfl (Nat.le_of_ble_eq_true rfl) (Nat.le_of_ble_eq_true rfl) rfl ?_
  refine zR_iinc (u := (x1 + 1)) (lv' := [(0, .ref (w.1 + 7)), (1, .int (x1 + 1))]) dX2_check_111 1 rfl rfl (Nat.le_of_ble_eq_true rfl) rfl ?_
  refine zR_goto (tgt := 57) dX2_check_114 (by decide) ?_
  exact hk57 V0 q6.1 q6.2 V3 V4 V5 V6 V7 (x1 + 1) _ h
set_option maxRecDepth 100000 in
set_option maxHeartbeats 4000000 in
theorem wX2_check_l79 {w : zW} (F : Nat) (k57 : zV → zV → Int32 → Option (zV × zV)) (hk57 : ∀ (V0 V1 V2 V3 V4 V5 V6 V7 : zV) (x1 : Int32) (res : zV × zV), k57 V1 V2 x1 = some res → zR w kX2_check 5 0 0 none (zE zds w [V0, res.1, res.2, V3, V4, V5, V6, V7]) 57 [(0, .ref (w.1 + 7)), (1, .int x1)] [] (zE zds w [V0, V1, V2, V3, V4, V5, V6, V7])) : ∀ (n : Nat) (V0 V1 V2 V3 V4 V5 V6 V7 : zV) (x1 : Int32) (x2 : Int32) (res : zV × zV), fX2_check_l79 F k57 n V1 V2 x1 x2 = some res → zR w kX2_check 5 0 0 none (zE zds w [V0, res.1, res.2, V3, V4, V5, V6, V7]) 79 [(0, .ref (w.1 + 7)), (1, .int x1), (2, .int x2)] [] (zE zds w [V0, V1, V2, V3, V4, V5, V6, V7]) := by
  intro n
  induction n with
  | zero =>
    intro V0 V1 V2 V3 V4 V5 V6 V7 x1 x2 res h
    simp [fX2_check_l79] at h
  | succ n ih =>
    intro V0 V1 V2 V3 V4 V5 V6 V7 x1 x2 res h
    rw [fX2_check_l79] at h
    refine zR_iload_n dX2_check_79 2 rfl ?_
    refine zR_sipush (x := (1000 : Int32)) dX2_check_80 rfl ?_
    by_cases c8 : (1000 : Int32) < x2
    · have h := zif_t h c8
      refine zR_icmp_gt_t (tgt := 105) dX2_check_83 (by decide) c8 ?_
      refine zR_sub (lv' := [(0, .ref (w.1 + 7)), (1, .int x1)]) [0, 1] rfl ?_
      exact wX2_check_b105 F k57 hk57 V0 V1 V2 V3 V4 V5 V6 V7 x1 _ h
    · have h := zif_f h c8
      refine zR_icmp_gt_f (tgt := 105) dX2_check_83 (by decide) c8 ?_
      refine zR_aload_n dX2_check_86 0 rfl ?_
      refine zR_bipush (x := (11 : Int32)) dX2_check_87 rfl ?_
      obtain ⟨q9, hq10, h⟩ := zbd_some h
      refine zR_cV (rest := []) (st1 := [.int q9]) dX2_check_89 (mX2_sees F V0 V1 V2 V3 V4 V5 V6 V7 (11 : Int32) _ hq10) zc_X2_30 rfl (zE_at zd_7) ⟨_, _, rfl⟩ rfl (Nat.le_of_ble_eq_true rfl) (Nat.le_of_ble_eq_true rfl) rfl ?_
      by_cases c11 : q9 = 0
      · have h := zif_t h c11
        refine zR_if_eq_t (tgt := 105) dX2_check_92 (by decide) c11 ?_
        refine zR_sub (lv' := [(0, .ref (w.1 + 7)), (1, .int x1)]) [0, 1] rfl ?_
        exact wX2_check_b105 F k57 hk57 V0 V1 V2 V3 V4 V5 V6 V7 x1 _ h
      · have h := zif_f h c11
        refine zR_if_eq_f (tgt := 105) dX2_check_92 (by decide) c11 ?_
        refine zR_aload_n dX2_check_95 0 rfl ?_
        obtain ⟨q12, hq13, h⟩ := zbd_some h
        refine zR_cV (rest := []) (st1 := []) dX2_check_96 (mX2_checkRule F V0 V1 V2 V3 V4 V5 V6 V7 _ hq13) zc_X2_37 rfl (zE_at zd_7) ⟨_, _, rfl⟩ rfl (Nat.le_of_ble_eq_true rfl) (Nat.le_of_ble_eq_true rfl) rfl ?_
        refine zR_iinc (u := (x2 + 1)) (lv' := [(0, .ref (w.1 + 7)), (1, .int x1), (2, .int (x2 + 1))]) dX2_check_99 2 rfl rfl (Nat.le_of_ble_eq_true rfl) rfl ?_
        refine zR_goto (tgt := 79) dX2_check_102 (by decide) ?_
        exact ih V0 q12.1 q12.2 V3 V4 V5 V6 V7 x1 (x2 + 1) _ h
set_option maxRecDepth 100000 in
set_option maxHeartbeats 4000000 in
theorem wX2_check_l57 {w : zW} (F : Nat) : ∀ (n : Nat) (V0 V1 V2 V3 V4 V5 V6 V7 : zV) (x1 : Int32) (res : zV × zV), fX2_check_l57 F n V1 V2 x1 = some res → zR w kX2_check 5 0 0 none (zE zds w [V0, res.1, res.2, V3, V4, V5, V6, V7]) 57 [(0, .ref (w.1 + 7)), (1, .int x1)] [] (zE zds w [V0, V1, V2, V3, V4, V5, V6, V7]) := by
  intro n
  induction n with
  | zero =>
    intro V0 V1 V2 V3 V4 V5 V6 V7 x1 res h
    simp [fX2_check_l57] at h
  | succ n ih =>
    intro V0 V1 V2 V3 V4 V5 V6 V7 x1 res h
    rw [fX2_check_l57] at h
    refine zR_iload_n dX2_check_57 1 rfl ?_
    refine zR_sipush (x := (1000 : Int32)) dX2_check_58 rfl ?_
    by_cases c14 : (1000 : Int32) < x1
    · have h := zif_t h c14
      refine zR_icmp_gt_t (tgt := 117) dX2_check_61 (by decide) c14 ?_
      refine zR_sub (lv' := [(0, .ref (w.1 + 7))]) [0] rfl ?_
      exact wX2_check_b117 F V0 V1 V2 V3 V4 V5 V6 V7 _ h
    · have h := zif_f h c14
      refine zR_icmp_gt_f (tgt := 117) dX2_check_61 (by decide) c14 ?_
      refine zR_aload_n dX2_check_64 0 rfl ?_
      refine zR_bipush (x := (7 : Int32)) dX2_check_65 rfl ?_
      obtain ⟨q15, hq16, h⟩ := zbd_some h
      refine zR_cV (rest := []) (st1 := [.int q15]) dX2_check_67 (mX2_sees F V0 V1 V2 V3 V4 V5 V6 V7 (7 : Int32) _ hq16) zc_X2_30 rfl (zE_at zd_7) ⟨_, _, rfl⟩ rfl (Nat.le_of_ble_eq_true rfl) (Nat.le_of_ble_eq_true rfl) rfl ?_
      by_cases c17 : q15 = 0
      · have h := zif_t h c17
        refine zR_if_eq_t (tgt := 117) dX2_check_70 (by decide) c17 ?_
        refine zR_sub (lv' := [(0, .ref (w.1 + 7))]) [0] rfl ?_
        exact wX2_check_b117 F V0 V1 V2 V3 V4 V5 V6 V7 _ h
      · have h := zif_f h c17
        refine zR_if_eq_f (tgt := 117) dX2_check_70 (by decide) c17 ?_
        refine zR_aload_n dX2_check_73 0 rfl ?_
        obtain ⟨q18, hq19, h⟩ := zbd_some h
        refine zR_cV (rest := []) (st1 := []) dX2_check_74 (mX2_checkModeHead F V0 V1 V2 V3 V4 V5 V6 V7 _ hq19) zc_X2_34 rfl (zE_at zd_7) ⟨_, _, rfl⟩ rfl (Nat.le_of_ble_eq_true rfl) (Nat.le_of_ble_eq_true rfl) rfl ?_
        refine zR_iconst (x := (0 : Int32)) dX2_check_77 rfl ?_
        refine zR_istore_n (lv' := [(0, .ref (w.1 + 7)), (1, .int x1), (2, .int (0 : Int32))]) dX2_check_78 (Nat.le_of_ble_eq_true rfl) rfl ?_
        exact wX2_check_l79 F (fX2_check_l57 F n) ih F V0 q18.1 q18.2 V3 V4 V5 V6 V7 x1 (0 : Int32) _ h
set_option maxRecDepth 100000 in
set_option maxHeartbeats 4000000 in
theorem wX2_check_b55 {w : zW} (F : Nat) (V0 V1 V2 V3 V4 V5 V6 V7 : zV) (res : zV × zV) (h : fX2_check_b55 F V1 V2 = some res) : zR w kX2_check 5 0 0 none (zE zds w [V0, res.1, res.2, V3, V4, V5, V6, V7]) 55 [(0, .ref (w.1 + 7))] [] (zE zds w [V0, V1, V2, V3, V4, V5, V6, V7]) := by
  unfold fX2_check_b55 at h
  refine zR_iconst (x := (0 : Int32)) dX2_check_55 rfl ?_
  refine zR_istore_n (lv' := [(0, .ref (w.1 + 7)), (1, .int (0 : Int32))]) dX2_check_56 (Nat.le_of_ble_eq_true rfl) rfl ?_
  exact wX2_check_l57 F F V0 V1 V2 V3 V4 V5 V6 V7 (0 : Int32) _ h
set_option maxRecDepth 100000 in
set_option maxHeartbeats 4000000 in
theorem wX2_check_l31 {w : zW} (F : Nat) : ∀ (n : Nat) (V0 V1 V2 V3 V4 V5 V6 V7 : zV) (x1 : Int32) (res : zV × zV), fX2_check_l31 F n V1 V2 x1 = some res → zR w kX2_check 5 0 0 none (zE zds w [V0, res.1, res.2, V3, V4, V5, V6, V7]) 31 [(0, .ref (w.1 + 7)), (1, .int x1)] [] (zE zds w [V0, V1, V2, V3, V4, V5, V6, V7]) := by
  intro n
  induction n with
  | zero =>
    intro V0 V1 V2 V3 V4 V5 V6 V7 x1 res h
    simp [fX2_check_l31] at h
  | succ n ih =>
    intro V0 V1 V2 V3 V4 V5 V6 V7 x1 res h
    rw [fX2_check_l31] at h
    refine zR_iload_n dX2_check_31 1 rfl ?_
    refine zR_sipush (x := (1000 : Int32)) dX2_check_32 rfl ?_
    by_cases c20 : (1000 : Int32) < x1
    · have h := zif_t h c20
      refine zR_icmp_gt_t (tgt := 55) dX2_check_35 (by decide) c20 ?_
      refine zR_sub (lv' := [(0, .ref (w.1 + 7))]) [0] rfl ?_
      exact wX2_check_b55 F V0 V1 V2 V3 V4 V5 V6 V7 _ h
    · have h := zif_f h c20
      refine zR_icmp_gt_f (tgt := 55) dX2_check_35 (by decide) c20 ?_
      refine zR_aload_n dX2_check_38 0 rfl ?_
      obtain ⟨q21, hq22, h⟩ := zbd_some h
      refine zR_cV (rest := []) (st1 := [.int q21]) dX2_check_39 (mX2_goesOnWithPart F V0 V1 V2 V3 V4 V5 V6 V7 _ hq22) zc_X2_23 rfl (zE_at zd_7) ⟨_, _, rfl⟩ rfl (Nat.le_of_ble_eq_true rfl) (Nat.le_of_ble_eq_true rfl) rfl ?_
      by_cases c23 : q21 = 0
      · have h := zif_t h c23
        refine zR_if_eq_t (tgt := 55) dX2_check_42 (by decide) c23 ?_
        refine zR_sub (lv' := [(0, .ref (w.1 + 7))]) [0] rfl ?_
        exact wX2_check_b55 F V0 V1 V2 V3 V4 V5 V6 V7 _ h
      · have h := zif_f h c23
        refine zR_if_eq_f (tgt := 55) dX2_check_42 (by decide) c23 ?_
        refine zR_aload_n dX2_check_45 0 rfl ?_
        obtain ⟨q24, hq25, h⟩ := zbd_some h
        refine zR_cV (rest := []) (st1 := []) dX2_check_46 (mX2_checkPart F V0 V1 V2 V3 V4 V5 V6 V7 _ hq25) zc_X2_27 rfl (zE_at zd_7) ⟨_, _, rfl⟩ rfl (Nat.le_of_ble_eq_true rfl) (Nat.le_of_ble_eq_true rfl) rfl ?_
        refine zR_iinc (u := (x1 + 1)) (lv' := [(0, .ref (w.1 + 7)), (1, .int (x1 + 1))]) dX2_check_49 1 rfl rfl (Nat.le_of_ble_eq_true rfl) rfl ?_
        refine zR_goto (tgt := 31) dX2_check_52 (by decide) ?_
        exact ih V0 q24.1 q24.2 V3 V4 V5 V6 V7 (x1 + 1) _ h
set_option maxRecDepth 100000 in
set_option maxHeartbeats 4000000 in
theorem wX2_check_l7 {w : zW} (F : Nat) : ∀ (n : Nat) (V0 V1 V2 V3 V4 V5 V6 V7 : zV) (x1 : Int32) (res : zV × zV), fX2_check_l7 F n V1 V2 x1 = some res → zR w kX2_check 5 0 0 none (zE zds w [V0, res.1, res.2, V3, V4, V5, V6, V7]) 7 [(0, .ref (w.1 + 7)), (1, .int x1)] [] (zE zds w [V0, V1, V2, V3, V4, V5, V6, V7]) := by
  intro n
  induction n with
  | zero =>
    intro V0 V1 V2 V3 V4 V5 V6 V7 x1 res h
    simp [fX2_check_l7] at h
  | succ n ih =>
    intro V0 V1 V2 V3 V4 V5 V6 V7 x1 res h
    rw [fX2_check_l7] at h
    refine zR_iload_n dX2_check_7 1 rfl ?_
    refine zR_aload_n dX2_check_8 0 rfl ?_
    refine zG_getR dX2_check_9 zf_X2_15 zd_7 rfl rfl ?_
    refine zG_alen (u := (27 : Int32)) dX2_check_12 zd_8 (Nat.le_of_ble_eq_true rfl) rfl rfl rfl ?_
    by_cases c26 : (27 : Int32) ≤ x1
    · have h := zif_t h c26
      refine zR_icmp_ge_t (tgt := 29) dX2_check_13 (by decide) c26 ?_
      refine zR_iconst (x := (0 : Int32)) dX2_check_29 rfl ?_
      refine zR_istore_n (lv' := [(0, .ref (w.1 + 7)), (1, .int (0 : Int32))]) dX2_check_30 (Nat.le_of_ble_eq_true rfl) rfl ?_
      exact wX2_check_l31 F F V0 V1 V2 V3 V4 V5 V6 V7 (0 : Int32) _ h
    · have h := zif_f h c26
      refine zR_icmp_ge_f (tgt := 29) dX2_check_13 (by decide) c26 ?_
      refine zR_aload_n dX2_check_16 0 rfl ?_
      refine zG_getR dX2_check_17 zf_X2_15 zd_7 rfl rfl ?_
      refine zR_iload_n dX2_check_20 1 rfl ?_
      refine zR_iconst (x := (0 : Int32)) dX2_check_21 rfl ?_
      obtain ⟨g27, h⟩ := zchk_some h
      obtain ⟨V2_28, e29, h⟩ := zlet_some h
      refine zG_iast zds_ok dX2_check_22 zd_8 rfl rfl g27 e29 rfl ?_
      refine zR_iinc (u := (x1 + 1)) (lv' := [(0, .ref (w.1 + 7)), (1, .int (x1 + 1))]) dX2_check_23 1 rfl rfl (Nat.le_of_ble_eq_true rfl) rfl ?_
      refine zR_goto (tgt := 7) dX2_check_26 (by decide) ?_
      exact ih V0 V1 V2_28 V3 V4 V5 V6 V7 (x1 + 1) _ h
set_option maxRecDepth 100000 in
set_option maxHeartbeats 4000000 in
theorem mX2_check {w : zW} (F : Nat) (V0 V1 V2 V3 V4 V5 V6 V7 : zV) (res : zV × zV) (h : fX2_check F V1 V2 = some res) : zMet w kX2_check 5 0 0 [.ref (w.1 + 7)] (zE zds w [V0, V1, V2, V3, V4, V5, V6, V7]) none (zE zds w [V0, res.1, res.2, V3, V4, V5, V6, V7]) := by
  refine zMet_of (by decide) (Nat.le_of_ble_eq_true rfl) (Nat.le_refl 0) fun _ => ?_
  show zR w kX2_check 5 0 0 none (zE zds w [V0, res.1, res.2, V3, V4, V5, V6, V7]) 0 [(0, .ref (w.1 + 7))] [] (zE zds w [V0, V1, V2, V3, V4, V5, V6, V7])
  unfold fX2_check at h
  refine zR_aload_n dX2_check_0 0 rfl ?_
  refine zR_iconst (x := (0 : Int32)) dX2_check_1 rfl ?_
  obtain ⟨V2_30, e31, h⟩ := zlet_some h
  refine zG_putI zds_ok dX2_check_2 zf_X2_9 zt_X2_1 zd_7 rfl rfl e31 rfl ?_
  refine zR_iconst (x := (0 : Int32)) dX2_check_5 rfl ?_
  refine zR_istore_n (lv' := [(0, .ref (w.1 + 7)), (1, .int (0 : Int32))]) dX2_check_6 (Nat.le_of_ble_eq_true rfl) rfl ?_
  exact wX2_check_l7 F F V0 V1 V2_30 V3 V4 V5 V6 V7 (0 : Int32) _ h
set_option maxRecDepth 100000 in
set_option maxHeartbeats 4000000 in
theorem mX10_size {w : zW} (F : Nat) (V0 V1 V2 V3 V4 V5 V6 V7 : zV) (res : Int32) (h : fX10_size F V1 = some res) : zMet w kX10_size 0 0 0 [.ref (w.1 + 2)] (zE zds w [V0, V1, V2, V3, V4, V5, V6, V7]) (some (.int res)) (zE zds w [V0, V1, V2, V3, V4, V5, V6, V7]) := by
  refine zMet_of (by decide) (Nat.le_of_ble_eq_true rfl) (Nat.le_refl 0) fun _ => ?_
  show zR w kX10_size 0 0 0 (some (.int res)) (zE zds w [V0, V1, V2, V3, V4, V5, V6, V7]) 0 [(0, .ref (w.1 + 2))] [] (zE zds w [V0, V1, V2, V3, V4, V5, V6, V7])
  unfold fX10_size at h
  refine zR_aload_n dX10_size_0 0 rfl ?_
  refine zG_getI dX10_size_1 zf_X10_26 zd_2 rfl rfl ?_
  have h := Option.some.inj h
  subst h
  exact zR_iret (x := (zI V1 0 4)) dX10_size_4 rfl rfl
set_option maxRecDepth 100000 in
set_option maxHeartbeats 4000000 in
theorem wX10_valueAt_b21 {w : zW} (F : Nat) (V0 V1 V2 V3 V4 V5 V6 V7 : zV) (res : Int64) (h : fX10_valueAt_b21 F V1 = some res) : zR w kX10_valueAt 0 0 0 (some (.long res)) (zE zds w [V0, V1, V2, V3, V4, V5, V6, V7]) 21 [] [] (zE zds w [V0, V1, V2, V3, V4, V5, V6, V7]) := by
  unfold fX10_valueAt_b21 at h
  refine zR_lconst (x := (0 : Int64)) dX10_valueAt_21 rfl ?_
  have h := Option.some.inj h
  subst h
  exact zR_lret dX10_valueAt_22 rfl
set_option maxRecDepth 100000 in
set_option maxHeartbeats 4000000 in
theorem mX10_valueAt {w : zW} (F : Nat) (V0 V1 V2 V3 V4 V5 V6 V7 : zV) (x1 : Int32) (res : Int64) (h : fX10_valueAt F V1 x1 = some res) : zMet w kX10_valueAt 0 0 0 [.ref (w.1 + 2), .int x1] (zE zds w [V0, V1, V2, V3, V4, V5, V6, V7]) (some (.long res)) (zE zds w [V0, V1, V2, V3, V4, V5, V6, V7]) := by
  refine zMet_of (by decide) (Nat.le_of_ble_eq_true rfl) (Nat.le_refl 0) fun _ => ?_
  show zR w kX10_valueAt 0 0 0 (some (.long res)) (zE zds w [V0, V1, V2, V3, V4, V5, V6, V7]) 0 [(0, .ref (w.1 + 2)), (1, .int x1)] [] (zE zds w [V0, V1, V2, V3, V4, V5, V6, V7])
  unfold fX10_valueAt at h
  refine zR_iload_n dX10_valueAt_0 1 rfl ?_
  by_cases c1 : x1 < 0
  · have h := zif_t h c1
    refine zR_if_lt_t (tgt := 21) dX10_valueAt_1 (by decide) c1 ?_
    refine zR_sub (lv' := []) [] rfl ?_
    exact wX10_valueAt_b21 F V0 V1 V2 V3 V4 V5 V6 V7 _ h
  · have h := zif_f h c1
    refine zR_if_lt_f (tgt := 21) dX10_valueAt_1 (by decide) c1 ?_
    refine zR_iload_n dX10_valueAt_4 1 rfl ?_
    refine zR_aload_n dX10_valueAt_5 0 rfl ?_
    refine zG_getI dX10_valueAt_6 zf_X10_26 zd_2 rfl rfl ?_
    by_cases c2 : (zI V1 0 4) ≤ x1
    · have h := zif_t h c2
      refine zR_icmp_ge_t (tgt := 21) dX10_valueAt_9 (by decide) c2 ?_
      refine zR_sub (lv' := []) [] rfl ?_
      exact wX10_valueAt_b21 F V0 V1 V2 V3 V4 V5 V6 V7 _ h
    · have h := zif_f h c2
      refine zR_icmp_ge_f (tgt := 21) dX10_valueAt_9 (by decide) c2 ?_
      refine zR_aload_n dX10_valueAt_12 0 rfl ?_
      refine zG_getR dX10_valueAt_13 zf_X10_23 zd_2 rfl rfl ?_
      refine zR_iload_n dX10_valueAt_16 1 rfl ?_
      obtain ⟨g3, h⟩ := zchk_some h
      refine zG_lald dX10_valueAt_17 zd_6 rfl rfl g3 ?_
      refine zR_goto (tgt := 22) dX10_valueAt_18 (by decide) ?_
      have h := Option.some.inj h
      subst h
      exact zR_lret dX10_valueAt_22 rfl
set_option maxRecDepth 100000 in
set_option maxHeartbeats 4000000 in
theorem wX5_gatherModes_l64 {w : zW} (F : Nat) : ∀ (n : Nat) (V0 V1 V2 V3 V4 V5 V6 V7 : zV) (x2 : Int32) (res : zV), fX5_gatherModes_l64 F n V1 V3 x2 = some res → zR w kX5_gatherModes 1 0 0 none (zE zds w [V0, V1, V2, res, V4, V5, V6, V7]) 64 [(0, .ref (w.1 + 9)), (2, .int x2)] [] (zE zds w [V0, V1, V2, V3, V4, V5, V6, V7]) := by
  intro n
  induction n with
  | zero =>
    intro V0 V1 V2 V3 V4 V5 V6 V7 x2 res h
    simp [fX5_gatherModes_l64] at h
  | succ n ih =>
    intro V0 V1 V2 V3 V4 V5 V6 V7 x2 res h
    rw [fX5_gatherModes_l64] at h
    refine zR_iload_n dX5_gatherModes_64 1 rfl ?_
    refine zR_aload_n dX5_gatherModes_65 0 rfl ?_
    refine zG_getR dX5_gatherModes_66 zf_X5_29 zd_9 rfl rfl ?_
    refine zG_alen (u := (12 : Int32)) dX5_gatherModes_69 zd_14 (Nat.le_of_ble_eq_true rfl) rfl rfl rfl ?_
    by_cases c1 : (12 : Int32) ≤ x2
    · have h := zif_t h c1
      refine zR_icmp_ge_t (tgt := 86) dX5_gatherModes_70 (by decide) c1 ?_
      have h := Option.some.inj h
      subst h
      exact zR_ret dX5_gatherModes_86 rfl
    · have h := zif_f h c1
      refine zR_icmp_ge_f (tgt := 86) dX5_gatherModes_70 (by decide) c1 ?_
      refine zR_aload_n dX5_gatherModes_73 0 rfl ?_
      refine zG_getR dX5_gatherModes_74 zf_X5_29 zd_9 rfl rfl ?_
      refine zR_iload_n dX5_gatherModes_77 1 rfl ?_
      refine zR_lconst (x := (0 : Int64)) dX5_gatherModes_78 rfl ?_
      obtain ⟨g2, h⟩ := zchk_some h
      obtain ⟨V3_3, e4, h⟩ := zlet_some h
      refine zG_last zds_ok dX5_gatherModes_79 zd_14 rfl rfl g2 e4 rfl ?_
      refine zR_iinc (u := (x2 + 1)) (lv' := [(0, .ref (w.1 + 9)), (2, .int (x2 + 1))]) dX5_gatherModes_80 1 rfl rfl (Nat.le_of_ble_eq_true rfl) rfl ?_
      refine zR_goto (tgt := 64) dX5_gatherModes_83 (by decide) ?_
      exact ih V0 V1 V2 V3_3 V4 V5 V6 V7 (x2 + 1) _ h
set_option maxRecDepth 100000 in
set_option maxHeartbeats 4000000 in
theorem wX5_gatherModes_b62 {w : zW} (F : Nat) (V0 V1 V2 V3 V4 V5 V6 V7 : zV) (x1 : Int32) (res : zV) (h : fX5_gatherModes_b62 F V1 V3 x1 = some res) : zR w kX5_gatherModes 1 0 0 none (zE zds w [V0, V1, V2, res, V4, V5, V6, V7]) 62 [(0, .ref (w.1 + 9)), (1, .int x1)] [] (zE zds w [V0, V1, V2, V3, V4, V5, V6, V7]) := by
  unfold fX5_gatherModes_b62 at h
  refine zR_iload_n dX5_gatherModes_62 1 rfl ?_
  refine zR_istore_n (lv' := [(0, .ref (w.1 + 9)), (1, .int x1), (2, .int x1)]) dX5_gatherModes_63 (Nat.le_of_ble_eq_true rfl) rfl ?_
  refine zR_sub (lv' := [(0, .ref (w.1 + 9)), (2, .int x1)]) [0, 2] rfl ?_
  exact wX5_gatherModes_l64 F F V0 V1 V2 V3 V4 V5 V6 V7 x1 _ h
set_option maxRecDepth 100000 in
set_option maxHeartbeats 4000000 in
theorem wX5_gatherModes_b56 {w : zW} (F : Nat) (k4 : zV → zV → Int32 → Int32 → Option (zV)) (hk4 : ∀ (V0 V1 V2 V3 V4 V5 V6 V7 : zV) (x1 : Int32) (x2 : Int32) (res : zV), k4 V1 V3 x1 x2 = some res → zR w kX5_gatherModes 1 0 0 none (zE zds w [V0, V1, V2, res, V4, V5, V6, V7]) 4 [(0, .ref (w.1 + 9)), (1, .int x1), (2, .int x2)] [] (zE zds w [V0, V1, V2, V3, V4, V5, V6, V7])) (V0 V1 V2 V3 V4 V5 V6 V7 : zV) (x1 : Int32) (x2 : Int32) (res : zV) (h : fX5_gatherModes_b56 F k4 V1 V3 x1 x2 = some res) : zR w kX5_gatherModes 1 0 0 none (zE zds w [V0, V1, V2, res, V4, V5, V6, V7]) 56 [(0, .ref (w.1 + 9)), (1, .int x1), (2, .int x2)] [] (zE zds w [V0, V1, V2, V3, V4, V5, V6, V7]) := by
  unfold fX5_gatherModes_b56 at h
  refine zR_iinc (u := (x2 + 1)) (lv' := [(0, .ref (w.1 + 9)), (1, .int x1), (2, .int (x2 + 1))]) dX5_gatherModes_56 2 rfl rfl (Nat.le_of_ble_eq_true rfl) rfl ?_
  refine zR_goto (tgt := 4) dX5_gatherModes_59 (by decide) ?_
  exact hk4 V0 V1 V2 V3 V4 V5 V6 V7 x1 (x2 + 1) _ h
set_option maxRecDepth 100000 in
set_option maxHeartbeats 4000000 in
theorem wX5_gatherModes_l4 {w : zW} (F : Nat) : ∀ (n : Nat) (V0 V1 V2 V3 V4 V5 V6 V7 : zV) (x1 : Int32) (x2 : Int32) (res : zV), fX5_gatherModes_l4 F n V1 V3 x1 x2 = some res → zR w kX5_gatherModes 1 0 0 none (zE zds w [V0, V1, V2, res, V4, V5, V6, V7]) 4 [(0, .ref (w.1 + 9)), (1, .int x1), (2, .int x2)] [] (zE zds w [V0, V1, V2, V3, V4, V5, V6, V7]) := by
  intro n
  induction n with
  | zero =>
    intro V0 V1 V2 V3 V4 V5 V6 V7 x1 x2 res h
    simp [fX5_gatherModes_l4] at h
  | succ n ih =>
    intro V0 V1 V2 V3 V4 V5 V6 V7 x1 x2 res h
    rw [fX5_gatherModes_l4] at h
    refine zR_iload_n dX5_gatherModes_4 2 rfl ?_
    refine zR_aload_n dX5_gatherModes_5 0 rfl ?_
    refine zG_getR dX5_gatherModes_6 zf_X5_32 zd_9 rfl rfl ?_
    obtain ⟨q5, hq6, h⟩ := zbd_some h
    refine zR_cV (rest := [.int x2]) (st1 := [.int q5, .int x2]) dX5_gatherModes_9 (mX10_size F V0 V1 V2 V3 V4 V5 V6 V7 _ hq6) zc_X5_39 rfl (zE_at zd_2) ⟨_, _, rfl⟩ rfl (Nat.le_of_ble_eq_true rfl) (Nat.le_of_ble_eq_true rfl) rfl ?_
    by_cases c7 : q5 ≤ x2
    · have h := zif_t h c7
      refine zR_icmp_ge_t (tgt := 62) dX5_gatherModes_12 (by decide) c7 ?_
      refine zR_sub (lv' := [(0, .ref (w.1 + 9)), (1, .int x1)]) [0, 1] rfl ?_
      exact wX5_gatherModes_b62 F V0 V1 V2 V3 V4 V5 V6 V7 x1 _ h
    · have h := zif_f h c7
      refine zR_icmp_ge_f (tgt := 62) dX5_gatherModes_12 (by decide) c7 ?_
      refine zR_iload_n dX5_gatherModes_15 1 rfl ?_
      refine zR_aload_n dX5_gatherModes_16 0 rfl ?_
      refine zG_getR dX5_gatherModes_17 zf_X5_29 zd_9 rfl rfl ?_
      refine zG_alen (u := (12 : Int32)) dX5_gatherModes_20 zd_14 (Nat.le_of_ble_eq_true rfl) rfl rfl rfl ?_
      by_cases c8 : (12 : Int32) ≤ x1
      · have h := zif_t h c8
        refine zR_icmp_ge_t (tgt := 62) dX5_gatherModes_21 (by decide) c8 ?_
        refine zR_sub (lv' := [(0, .ref (w.1 + 9)), (1, .int x1)]) [0, 1] rfl ?_
        exact wX5_gatherModes_b62 F V0 V1 V2 V3 V4 V5 V6 V7 x1 _ h
      · have h := zif_f h c8
        refine zR_icmp_ge_f (tgt := 62) dX5_gatherModes_21 (by decide) c8 ?_
        refine zR_aload_n dX5_gatherModes_24 0 rfl ?_
        refine zG_getR dX5_gatherModes_25 zf_X5_32 zd_9 rfl rfl ?_
        refine zR_iload_n dX5_gatherModes_28 2 rfl ?_
        obtain ⟨q9, hq10, h⟩ := zbd_some h
        refine zR_cV (rest := []) (st1 := [.int q9]) dX5_gatherModes_29 (mX10_kindAt F V0 V1 V2 V3 V4 V5 V6 V7 x2 _ hq10) zc_X5_48 rfl (zE_at zd_2) ⟨_, _, rfl⟩ rfl (Nat.le_of_ble_eq_true rfl) (Nat.le_of_ble_eq_true rfl) rfl ?_
        refine zR_bipush (x := (7 : Int32)) dX5_gatherModes_32 rfl ?_
        by_cases c11 : q9 = (7 : Int32)
        · have h := zif_t h c11
          refine zR_icmp_ne_f (tgt := 56) dX5_gatherModes_34 (by decide) c11 ?_
          refine zR_aload_n dX5_gatherModes_37 0 rfl ?_
          refine zG_getR dX5_gatherModes_38 zf_X5_29 zd_9 rfl rfl ?_
          refine zR_iload_n dX5_gatherModes_41 1 rfl ?_
          refine zR_aload_n dX5_gatherModes_42 0 rfl ?_
          refine zG_getR dX5_gatherModes_43 zf_X5_32 zd_9 rfl rfl ?_
          refine zR_iload_n dX5_gatherModes_46 2 rfl ?_
          refine zR_iconst (x := (1 : Int32)) dX5_gatherModes_47 rfl ?_
          refine zR_iadd dX5_gatherModes_48 ?_
          obtain ⟨q12, hq13, h⟩ := zbd_some h
          refine zR_cV (rest := [.int x1, .ref (w.1 + 14)]) (st1 := [.long q12, .int x1, .ref (w.1 + 14)]) dX5_gatherModes_49 (mX10_valueAt F V0 V1 V2 V3 V4 V5 V6 V7 (x2 + (1 : Int32)) _ hq13) zc_X5_56 rfl (zE_at zd_2) ⟨_, _, rfl⟩ rfl (Nat.le_of_ble_eq_true rfl) (Nat.le_of_ble_eq_true rfl) rfl ?_
          obtain ⟨g14, h⟩ := zchk_some h
          obtain ⟨V3_15, e16, h⟩ := zlet_some h
          refine zG_last zds_ok dX5_gatherModes_52 zd_14 rfl rfl g14 e16 rfl ?_
          refine zR_iinc (u := (x1 + 1)) (lv' := [(0, .ref (w.1 + 9)), (1, .int (x1 + 1)), (2, .int x2)]) dX5_gatherModes_53 1 rfl rfl (Nat.le_of_ble_eq_true rfl) rfl ?_
          exact wX5_gatherModes_b56 F (fX5_gatherModes_l4 F n) ih V0 V1 V2 V3_15 V4 V5 V6 V7 (x1 + 1) x2 _ h
        · have h := zif_f h c11
          refine zR_icmp_ne_t (tgt := 56) dX5_gatherModes_34 (by decide) c11 ?_
          exact wX5_gatherModes_b56 F (fX5_gatherModes_l4 F n) ih V0 V1 V2 V3 V4 V5 V6 V7 x1 x2 _ h
set_option maxRecDepth 100000 in
set_option maxHeartbeats 4000000 in
theorem mX5_gatherModes {w : zW} (F : Nat) (V0 V1 V2 V3 V4 V5 V6 V7 : zV) (res : zV) (h : fX5_gatherModes F V1 V3 = some res) : zMet w kX5_gatherModes 1 0 0 [.ref (w.1 + 9)] (zE zds w [V0, V1, V2, V3, V4, V5, V6, V7]) none (zE zds w [V0, V1, V2, res, V4, V5, V6, V7]) := by
  refine zMet_of (by decide) (Nat.le_of_ble_eq_true rfl) (Nat.le_refl 0) fun _ => ?_
  show zR w kX5_gatherModes 1 0 0 none (zE zds w [V0, V1, V2, res, V4, V5, V6, V7]) 0 [(0, .ref (w.1 + 9))] [] (zE zds w [V0, V1, V2, V3, V4, V5, V6, V7])
  unfold fX5_gatherModes at h
  refine zR_iconst (x := (0 : Int32)) dX5_gatherModes_0 rfl ?_
  refine zR_istore_n (lv' := [(0, .ref (w.1 + 9)), (1, .int (0 : Int32))]) dX5_gatherModes_1 (Nat.le_of_ble_eq_true rfl) rfl ?_
  refine zR_iconst (x := (0 : Int32)) dX5_gatherModes_2 rfl ?_
  refine zR_istore_n (lv' := [(0, .ref (w.1 + 9)), (1, .int (0 : Int32)), (2, .int (0 : Int32))]) dX5_gatherModes_3 (Nat.le_of_ble_eq_true rfl) rfl ?_
  exact wX5_gatherModes_l4 F F V0 V1 V2 V3 V4 V5 V6 V7 (0 : Int32) (0 : Int32) _ h
set_option maxRecDepth 100000 in
set_option maxHeartbeats 4000000 in
theorem wX5_telling_l2 {w : zW} (F : Nat) : ∀ (n : Nat) (V0 V1 V2 V3 V4 V5 V6 V7 : zV) (x1 : Int64) (x3 : Int32) (res : Int32), fX5_telling_l2 F n V3 x1 x3 = some res → zR w kX5_telling 0 0 0 (some (.int res)) (zE zds w [V0, V1, V2, V3, V4, V5, V6, V7]) 2 [(0, .ref (w.1 + 9)), (1, .long x1), (3, .int x3)] [] (zE zds w [V0, V1, V2, V3, V4, V5, V6, V7]) := by
  intro n
  induction n with
  | zero =>
    intro V0 V1 V2 V3 V4 V5 V6 V7 x1 x3 res h
    simp [fX5_telling_l2] at h
  | succ n ih =>
    intro V0 V1 V2 V3 V4 V5 V6 V7 x1 x3 res h
    rw [fX5_telling_l2] at h
    refine zR_iload_n dX5_telling_2 2 rfl ?_
    refine zR_aload_n dX5_telling_3 0 rfl ?_
    refine zG_getI dX5_telling_4 zf_X5_22 zd_9 rfl rfl ?_
    by_cases c1 : (zI V3 0 4) ≤ x3
    · have h := zif_t h c1
      refine zR_icmp_ge_t (tgt := 38) dX5_telling_7 (by decide) c1 ?_
      refine zR_iconst (x := (-1 : Int32)) dX5_telling_38 (by decide) ?_
      have h := Option.some.inj h
      subst h
      exact zR_iret (x := (-1 : Int32)) dX5_telling_39 rfl rfl
    · have h := zif_f h c1
      refine zR_icmp_ge_f (tgt := 38) dX5_telling_7 (by decide) c1 ?_
      refine zR_iload_n dX5_telling_10 2 rfl ?_
      refine zR_aload_n dX5_telling_11 0 rfl ?_
      refine zG_getR dX5_telling_12 zf_X5_9 zd_9 rfl rfl ?_
      refine zG_alen (u := (76 : Int32)) dX5_telling_15 zd_10 (Nat.le_of_ble_eq_true rfl) rfl rfl rfl ?_
      by_cases c2 : (76 : Int32) ≤ x3
      · have h := zif_t h c2
        refine zR_icmp_ge_t (tgt := 38) dX5_telling_16 (by decide) c2 ?_
        refine zR_iconst (x := (-1 : Int32)) dX5_telling_38 (by decide) ?_
        have h := Option.some.inj h
        subst h
        exact zR_iret (x := (-1 : Int32)) dX5_telling_39 rfl rfl
      · have h := zif_f h c2
        refine zR_icmp_ge_f (tgt := 38) dX5_telling_16 (by decide) c2 ?_
        refine zR_aload_n dX5_telling_19 0 rfl ?_
        refine zG_getR dX5_telling_20 zf_X5_9 zd_9 rfl rfl ?_
        refine zR_iload_n dX5_telling_23 2 rfl ?_
        obtain ⟨g3, h⟩ := zchk_some h
        refine zG_lald dX5_telling_24 zd_10 rfl rfl g3 ?_
        refine zR_lload_n dX5_telling_25 1 rfl ?_
        refine zR_lcmp dX5_telling_26 ?_
        by_cases c4 : (lg_cmp (zB V3 1 (x3).toNatClampNeg) x1) = 0
        · have h := zif_t h c4
          refine zR_if_ne_f (tgt := 32) dX5_telling_27 (by decide) c4 ?_
          refine zR_iload_n dX5_telling_30 2 rfl ?_
          have h := Option.some.inj h
          subst h
          exact zR_iret (x := x3) dX5_telling_31 rfl rfl
        · have h := zif_f h c4
          refine zR_if_ne_t (tgt := 32) dX5_telling_27 (by decide) c4 ?_
          refine zR_iinc (u := (x3 + 1)) (lv' := [(0, .ref (w.1 + 9)), (1, .long x1), (3, .int (x3 + 1))]) dX5_telling_32 2 rfl rfl (Nat.le_of_ble_eq_true rfl) rfl ?_
          refine zR_goto (tgt := 2) dX5_telling_35 (by decide) ?_
          exact ih V0 V1 V2 V3 V4 V5 V6 V7 x1 (x3 + 1) _ h
set_option maxRecDepth 100000 in
set_option maxHeartbeats 4000000 in
theorem mX5_telling {w : zW} (F : Nat) (V0 V1 V2 V3 V4 V5 V6 V7 : zV) (x1 : Int64) (res : Int32) (h : fX5_telling F V3 x1 = some res) : zMet w kX5_telling 0 0 0 [.ref (w.1 + 9), .long x1] (zE zds w [V0, V1, V2, V3, V4, V5, V6, V7]) (some (.int res)) (zE zds w [V0, V1, V2, V3, V4, V5, V6, V7]) := by
  refine zMet_of (by decide) (Nat.le_of_ble_eq_true rfl) (Nat.le_refl 0) fun _ => ?_
  show zR w kX5_telling 0 0 0 (some (.int res)) (zE zds w [V0, V1, V2, V3, V4, V5, V6, V7]) 0 [(0, .ref (w.1 + 9)), (1, .long x1)] [] (zE zds w [V0, V1, V2, V3, V4, V5, V6, V7])
  unfold fX5_telling at h
  refine zR_iconst (x := (0 : Int32)) dX5_telling_0 rfl ?_
  refine zR_istore_n (lv' := [(0, .ref (w.1 + 9)), (1, .long x1), (3, .int (0 : Int32))]) dX5_telling_1 (Nat.le_of_ble_eq_true rfl) rfl ?_
  exact wX5_telling_l2 F F V0 V1 V2 V3 V4 V5 V6 V7 x1 (0 : Int32) _ h
set_option maxRecDepth 100000 in
set_option maxHeartbeats 4000000 in
theorem mX10_setNumber {w : zW} (F : Nat) (V0 V1 V2 V3 V4 V5 V6 V7 : zV) (x1 : Int32) (x2 : Int32) (res : zV) (h : fX10_setNumber F V1 x1 x2 = some res) : zMet w kX10_setNumber 0 0 0 [.ref (w.1 + 2), .int x1, .int x2] (zE zds w [V0, V1, V2, V3, V4, V5, V6, V7]) none (zE zds w [V0, res, V2, V3, V4, V5, V6, V7]) := by
  refine zMet_of (by decide) (Nat.le_of_ble_eq_true rfl) (Nat.le_refl 0) fun _ => ?_
  show zR w kX10_setNumber 0 0 0 none (zE zds w [V0, res, V2, V3, V4, V5, V6, V7]) 0 [(0, .ref (w.1 + 2)), (1, .int x1), (2, .int x2)] [] (zE zds w [V0, V1, V2, V3, V4, V5, V6, V7])
  unfold fX10_setNumber at h
  refine zR_iload_n dX10_setNumber_0 1 rfl ?_
  by_cases c1 : x1 < 0
  · have h := zif_t h c1
    refine zR_if_lt_t (tgt := 20) dX10_setNumber_1 (by decide) c1 ?_
    have h := Option.some.inj h
    subst h
    exact zR_ret dX10_setNumber_20 rfl
  · have h := zif_f h c1
    refine zR_if_lt_f (tgt := 20) dX10_setNumber_1 (by decide) c1 ?_
    refine zR_iload_n dX10_setNumber_4 1 rfl ?_
    refine zR_aload_n dX10_setNumber_5 0 rfl ?_
    refine zG_getI dX10_setNumber_6 zf_X10_26 zd_2 rfl rfl ?_
    by_cases c2 : (zI V1 0 4) ≤ x1
    · have h := zif_t h c2
      refine zR_icmp_ge_t (tgt := 20) dX10_setNumber_9 (by decide) c2 ?_
      have h := Option.some.inj h
      subst h
      exact zR_ret dX10_setNumber_20 rfl
    · have h := zif_f h c2
      refine zR_icmp_ge_f (tgt := 20) dX10_setNumber_9 (by decide) c2 ?_
      refine zR_aload_n dX10_setNumber_12 0 rfl ?_
      refine zG_getR dX10_setNumber_13 zf_X10_23 zd_2 rfl rfl ?_
      refine zR_iload_n dX10_setNumber_16 1 rfl ?_
      refine zR_iload_n dX10_setNumber_17 2 rfl ?_
      refine zR_i2l dX10_setNumber_18 ?_
      obtain ⟨g3, h⟩ := zchk_some h
      obtain ⟨V1_4, e5, h⟩ := zlet_some h
      refine zG_last zds_ok dX10_setNumber_19 zd_6 rfl rfl g3 e5 rfl ?_
      have h := Option.some.inj h
      subst h
      exact zR_ret dX10_setNumber_20 rfl
set_option maxRecDepth 100000 in
set_option maxHeartbeats 4000000 in
theorem mX5_tell {w : zW} (F : Nat) (V0 V1 V2 V3 V4 V5 V6 V7 : zV) (x1 : Int32) (x2 : Int32) (res : zV × zV) (h : fX5_tell F V1 V3 x1 x2 = some res) : zMet w kX5_tell 1 0 0 [.ref (w.1 + 9), .int x1, .int x2] (zE zds w [V0, V1, V2, V3, V4, V5, V6, V7]) none (zE zds w [V0, res.1, V2, res.2, V4, V5, V6, V7]) := by
  refine zMet_of (by decide) (Nat.le_of_ble_eq_true rfl) (Nat.le_refl 0) fun _ => ?_
  show zR w kX5_tell 1 0 0 none (zE zds w [V0, res.1, V2, res.2, V4, V5, V6, V7]) 0 [(0, .ref (w.1 + 9)), (1, .int x1), (2, .int x2)] [] (zE zds w [V0, V1, V2, V3, V4, V5, V6, V7])
  unfold fX5_tell at h
  refine zR_aload_n dX5_tell_0 0 rfl ?_
  refine zR_aload_n dX5_tell_1 0 rfl ?_
  refine zG_getR dX5_tell_2 zf_X5_32 zd_9 rfl rfl ?_
  refine zR_iload_n dX5_tell_5 1 rfl ?_
  obtain ⟨q1, hq2, h⟩ := zbd_some h
  refine zR_cV (rest := [.ref (w.1 + 9)]) (st1 := [.long q1, .ref (w.1 + 9)]) dX5_tell_6 (mX10_valueAt F V0 V1 V2 V3 V4 V5 V6 V7 x1 _ hq2) zc_X5_56 rfl (zE_at zd_2) ⟨_, _, rfl⟩ rfl (Nat.le_of_ble_eq_true rfl) (Nat.le_of_ble_eq_true rfl) rfl ?_
  obtain ⟨q3, hq4, h⟩ := zbd_some h
  refine zR_cV (rest := []) (st1 := [.int q3]) dX5_tell_9 (mX5_telling F V0 V1 V2 V3 V4 V5 V6 V7 q1 _ hq4) zc_X5_73 rfl (zE_at zd_9) ⟨_, _, rfl⟩ rfl (Nat.le_of_ble_eq_true rfl) (Nat.le_of_ble_eq_true rfl) rfl ?_
  refine zR_iconst (x := (-1 : Int32)) dX5_tell_12 (by decide) ?_
  by_cases c5 : q3 = (-1 : Int32)
  · have h := zif_t h c5
    refine zR_icmp_eq_t (tgt := 28) dX5_tell_13 (by decide) c5 ?_
    refine zR_aload_n dX5_tell_28 0 rfl ?_
    refine zG_getI dX5_tell_29 zf_X5_22 zd_9 rfl rfl ?_
    refine zR_aload_n dX5_tell_32 0 rfl ?_
    refine zG_getR dX5_tell_33 zf_X5_9 zd_9 rfl rfl ?_
    refine zG_alen (u := (76 : Int32)) dX5_tell_36 zd_10 (Nat.le_of_ble_eq_true rfl) rfl rfl rfl ?_
    by_cases c6 : (76 : Int32) ≤ (zI V3 0 4)
    · have h := zif_t h c6
      refine zR_icmp_ge_t (tgt := 129) dX5_tell_37 (by decide) c6 ?_
      have h := Option.some.inj h
      subst h
      exact zR_ret dX5_tell_129 rfl
    · have h := zif_f h c6
      refine zR_icmp_ge_f (tgt := 129) dX5_tell_37 (by decide) c6 ?_
      refine zR_iload_n dX5_tell_40 2 rfl ?_
      by_cases c7 : x2 < 0
      · have h := zif_t h c7
        refine zR_if_lt_t (tgt := 129) dX5_tell_41 (by decide) c7 ?_
        have h := Option.some.inj h
        subst h
        exact zR_ret dX5_tell_129 rfl
      · have h := zif_f h c7
        refine zR_if_lt_f (tgt := 129) dX5_tell_41 (by decide) c7 ?_
        refine zR_iload_n dX5_tell_44 2 rfl ?_
        refine zR_aload_n dX5_tell_45 0 rfl ?_
        refine zG_getR dX5_tell_46 zf_X5_26 zd_9 rfl rfl ?_
        refine zG_alen (u := (27 : Int32)) dX5_tell_49 zd_13 (Nat.le_of_ble_eq_true rfl) rfl rfl rfl ?_
        by_cases c8 : (27 : Int32) ≤ x2
        · have h := zif_t h c8
          refine zR_icmp_ge_t (tgt := 129) dX5_tell_50 (by decide) c8 ?_
          have h := Option.some.inj h
          subst h
          exact zR_ret dX5_tell_129 rfl
        · have h := zif_f h c8
          refine zR_icmp_ge_f (tgt := 129) dX5_tell_50 (by decide) c8 ?_
          refine zR_aload_n dX5_tell_53 0 rfl ?_
          refine zG_getR dX5_tell_54 zf_X5_9 zd_9 rfl rfl ?_
          refine zR_aload_n dX5_tell_57 0 rfl ?_
          refine zG_getI dX5_tell_58 zf_X5_22 zd_9 rfl rfl ?_
          refine zR_aload_n dX5_tell_61 0 rfl ?_
          refine zG_getR dX5_tell_62 zf_X5_32 zd_9 rfl rfl ?_
          refine zR_iload_n dX5_tell_65 1 rfl ?_
          obtain ⟨q9, hq10, h⟩ := zbd_some h
          refine zR_cV (rest := [.int (zI V3 0 4), .ref (w.1 + 10)]) (st1 := [.long q9, .int (zI V3 0 4), .ref (w.1 + 10)]) dX5_tell_66 (mX10_valueAt F V0 V1 V2 V3 V4 V5 V6 V7 x1 _ hq10) zc_X5_56 rfl (zE_at zd_2) ⟨_, _, rfl⟩ rfl (Nat.le_of_ble_eq_true rfl) (Nat.le_of_ble_eq_true rfl) rfl ?_
          obtain ⟨g11, h⟩ := zchk_some h
          obtain ⟨V3_12, e13, h⟩ := zlet_some h
          refine zG_last zds_ok dX5_tell_69 zd_10 rfl rfl g11 e13 rfl ?_
          refine zR_aload_n dX5_tell_70 0 rfl ?_
          refine zG_getR dX5_tell_71 zf_X5_15 zd_9 rfl rfl ?_
          refine zR_aload_n dX5_tell_74 0 rfl ?_
          refine zG_getI dX5_tell_75 zf_X5_22 zd_9 rfl rfl ?_
          refine zR_iload_n dX5_tell_78 2 rfl ?_
          obtain ⟨g14, h⟩ := zchk_some h
          obtain ⟨V3_15, e16, h⟩ := zlet_some h
          refine zG_iast zds_ok dX5_tell_79 zd_11 rfl rfl g14 e16 rfl ?_
          refine zR_aload_n dX5_tell_80 0 rfl ?_
          refine zG_getR dX5_tell_81 zf_X5_19 zd_9 rfl rfl ?_
          refine zR_aload_n dX5_tell_84 0 rfl ?_
          refine zG_getI dX5_tell_85 zf_X5_22 zd_9 rfl rfl ?_
          refine zR_aload_n dX5_tell_88 0 rfl ?_
          refine zG_getR dX5_tell_89 zf_X5_26 zd_9 rfl rfl ?_
          refine zR_iload_n dX5_tell_92 2 rfl ?_
          obtain ⟨g17, h⟩ := zchk_some h
          refine zG_iald dX5_tell_93 zd_13 rfl rfl g17 ?_
          obtain ⟨g18, h⟩ := zchk_some h
          obtain ⟨V3_19, e20, h⟩ := zlet_some h
          refine zG_iast zds_ok dX5_tell_94 zd_12 rfl rfl g18 e20 rfl ?_
          refine zR_aload_n dX5_tell_95 0 rfl ?_
          refine zR_dup dX5_tell_96 rfl ?_
          refine zG_getI dX5_tell_97 zf_X5_22 zd_9 rfl rfl ?_
          refine zR_iconst (x := (1 : Int32)) dX5_tell_100 rfl ?_
          refine zR_iadd dX5_tell_101 ?_
          obtain ⟨V3_21, e22, h⟩ := zlet_some h
          refine zG_putI zds_ok dX5_tell_102 zf_X5_22 zt_X5_4 zd_9 rfl rfl e22 rfl ?_
          refine zR_aload_n dX5_tell_105 0 rfl ?_
          refine zG_getR dX5_tell_106 zf_X5_32 zd_9 rfl rfl ?_
          refine zR_iload_n dX5_tell_109 1 rfl ?_
          refine zR_aload_n dX5_tell_110 0 rfl ?_
          refine zG_getR dX5_tell_111 zf_X5_26 zd_9 rfl rfl ?_
          refine zR_iload_n dX5_tell_114 2 rfl ?_
          obtain ⟨g23, h⟩ := zchk_some h
          refine zG_iald dX5_tell_115 zd_13 rfl rfl g23 ?_
          obtain ⟨q24, hq25, h⟩ := zbd_some h
          refine zR_cV (rest := []) (st1 := []) dX5_tell_116 (mX10_setNumber F V0 V1 V2 V3_21 V4 V5 V6 V7 x1 (zA V3_21 4 (x2).toNatClampNeg) _ hq25) zc_X5_77 rfl (zE_at zd_2) ⟨_, _, rfl⟩ rfl (Nat.le_of_ble_eq_true rfl) (Nat.le_of_ble_eq_true rfl) rfl ?_
          refine zR_aload_n dX5_tell_119 0 rfl ?_
          refine zG_getR dX5_tell_120 zf_X5_26 zd_9 rfl rfl ?_
          refine zR_iload_n dX5_tell_123 2 rfl ?_
          refine zR_dup2 dX5_tell_124 rfl rfl ?_
          obtain ⟨g26, h⟩ := zchk_some h
          refine zG_iald dX5_tell_125 zd_13 rfl rfl g26 ?_
          refine zR_iconst (x := (1 : Int32)) dX5_tell_126 rfl ?_
          refine zR_iadd dX5_tell_127 ?_
          obtain ⟨g27, h⟩ := zchk_some h
          obtain ⟨V3_28, e29, h⟩ := zlet_some h
          refine zG_iast zds_ok dX5_tell_128 zd_13 rfl rfl g27 e29 rfl ?_
          have h := Option.some.inj h
          subst h
          exact zR_ret dX5_tell_129 rfl
  · have h := zif_f h c5
    refine zR_icmp_eq_f (tgt := 28) dX5_tell_13 (by decide) c5 ?_
    refine zR_aload_n dX5_tell_16 0 rfl ?_
    refine zG_getR dX5_tell_17 zf_X5_32 zd_9 rfl rfl ?_
    refine zR_iconst (x := (3 : Int32)) dX5_tell_20 rfl ?_
    refine zR_iload_n dX5_tell_21 1 rfl ?_
    obtain ⟨q30, hq31, h⟩ := zbd_some h
    refine zR_cV (rest := []) (st1 := []) dX5_tell_22 (mX10_blame F V0 V1 V2 V3 V4 V5 V6 V7 (3 : Int32) x1 _ hq31) zc_X5_60 rfl (zE_at zd_2) ⟨_, _, rfl⟩ rfl (Nat.le_of_ble_eq_true rfl) (Nat.le_of_ble_eq_true rfl) rfl ?_
    refine zR_goto (tgt := 129) dX5_tell_25 (by decide) ?_
    have h := Option.some.inj h
    subst h
    exact zR_ret dX5_tell_129 rfl
