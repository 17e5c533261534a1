set_option maxRecDepth 100000 in
set_option maxHeartbeats 4000000 in
theorem wX12_isFull_b78 {w : zW} (F : Nat) (V0 V1 V2 V3 V4 V5 V6 V7 : zV) (x2 : Int32) (s0 : Int32) (res : Int32) (h : fX12_isFull_b78 F V7 x2 s0 = some res) : zR w kX12_isFull 0 0 0 (some (.int res)) (zE zds w [V0, V1, V2, V3, V4, V5, V6, V7]) 78 [(2, .int x2)] [.int s0] (zE zds w [V0, V1, V2, V3, V4, V5, V6, V7]) := by
  unfold fX12_isFull_b78 at h
  refine zR_istore_n (lv' := [(2, .int x2), (3, .int s0)]) dX12_isFull_78 (Nat.le_of_ble_eq_true rfl) rfl ?_
  refine zR_iload_n dX12_isFull_79 0 rfl ?_
  refine zR_iload_n dX12_isFull_80 1 rfl ?_
  by_cases c1 : x2 = s0
  · have h := zif_t h c1
    refine zR_icmp_ne_f (tgt := 88) dX12_isFull_81 (by decide) c1 ?_
    refine zR_iconst (x := (1 : Int32)) dX12_isFull_84 rfl ?_
    refine zR_goto (tgt := 89) dX12_isFull_85 (by decide) ?_
    have h := Option.some.inj h
    subst h
    exact zR_iret (x := (1 : Int32)) dX12_isFull_89 rfl znar1
  · have h := zif_f h c1
    refine zR_icmp_ne_t (tgt := 88) dX12_isFull_81 (by decide) c1 ?_
    refine zR_iconst (x := (0 : Int32)) dX12_isFull_88 rfl ?_
    have h := Option.some.inj h
    subst h
    exact zR_iret (x := (0 : Int32)) dX12_isFull_89 rfl znar0
set_option maxRecDepth 100000 in
set_option maxHeartbeats 4000000 in
theorem wX12_isFull_b50 {w : zW} (F : Nat) (V0 V1 V2 V3 V4 V5 V6 V7 : zV) (x2 : Int32) (res : Int32) (h : fX12_isFull_b50 F V7 x2 = some res) : zR w kX12_isFull 0 0 0 (some (.int res)) (zE zds w [V0, V1, V2, V3, V4, V5, V6, V7]) 50 [(2, .int x2)] [] (zE zds w [V0, V1, V2, V3, V4, V5, V6, V7]) := by
  unfold fX12_isFull_b50 at h
  refine zR_bipush (x := (8 : Int32)) dX12_isFull_50 rfl ?_
  refine zR_goto (tgt := 78) dX12_isFull_52 (by decide) ?_
  exact wX12_isFull_b78 F V0 V1 V2 V3 V4 V5 V6 V7 x2 (8 : Int32) _ h
set_option maxRecDepth 100000 in
set_option maxHeartbeats 4000000 in
theorem wX12_isFull_b30 {w : zW} (F : Nat) (V0 V1 V2 V3 V4 V5 V6 V7 : zV) (x2 : Int32) (res : Int32) (h : fX12_isFull_b30 F V7 x2 = some res) : zR w kX12_isFull 0 0 0 (some (.int res)) (zE zds w [V0, V1, V2, V3, V4, V5, V6, V7]) 30 [(2, .int x2)] [] (zE zds w [V0, V1, V2, V3, V4, V5, V6, V7]) := by
  unfold fX12_isFull_b30 at h
  refine zR_bipush (x := (16 : Int32)) dX12_isFull_30 rfl ?_
  refine zR_goto (tgt := 78) dX12_isFull_32 (by decide) ?_
  exact wX12_isFull_b78 F V0 V1 V2 V3 V4 V5 V6 V7 x2 (16 : Int32) _ h
set_option maxRecDepth 100000 in
set_option maxHeartbeats 4000000 in
theorem mX12_isFull {w : zW} (F : Nat) (V0 V1 V2 V3 V4 V5 V6 V7 : zV) (x1 : Int32) (res : Int32) (h : fX12_isFull F V7 x1 = some res) : zMet w kX12_isFull 0 0 0 [.ref (w.1 + 88), .int x1] (zE zds w [V0, V1, V2, V3, V4, V5, V6, V7]) (some (.int res)) (zE zds w [V0, V1, V2, V3, V4, V5, V6, V7]) := by
  refine zMet_of (by decide) (Nat.le_of_ble_eq_true rfl) (Nat.le_refl 0) fun _ => ?_
  show zR w kX12_isFull 0 0 0 (some (.int res)) (zE zds w [V0, V1, V2, V3, V4, V5, V6, V7]) 0 [(0, .ref (w.1 + 88)), (1, .int x1)] [] (zE zds w [V0, V1, V2, V3, V4, V5, V6, V7])
  unfold fX12_isFull at h
  refine zR_aload_n dX12_isFull_0 0 rfl ?_
  refine zG_getR dX12_isFull_1 zf_X12_40 zd_88 rfl rfl ?_
  refine zR_bipush (x := (9 : Int32)) dX12_isFull_4 rfl ?_
  refine zR_aload_n dX12_isFull_6 0 rfl ?_
  refine zG_getI dX12_isFull_7 zf_X12_299 zd_88 rfl rfl ?_
  refine zR_imul dX12_isFull_10 ?_
  refine zR_iload_n dX12_isFull_11 1 rfl ?_
  refine zR_iadd dX12_isFull_12 ?_
  obtain ⟨g2, h⟩ := zchk_some h
  refine zG_iald dX12_isFull_13 zd_96 rfl rfl g2 ?_
  obtain ⟨y3, e4, h⟩ := zlet_some h
  refine zR_nmI e4 ?_
  refine zR_istore_n (lv' := [(0, .ref (w.1 + 88)), (1, .int x1), (2, .int y3)]) dX12_isFull_14 (Nat.le_of_ble_eq_true rfl) rfl ?_
  refine zR_iload_n dX12_isFull_15 1 rfl ?_
  by_cases c5 : x1 = 0
  · have h := zif_t h c5
    refine zR_if_eq_t (tgt := 30) dX12_isFull_16 (by decide) c5 ?_
    refine zR_sub (lv' := [(2, .int y3)]) [2] rfl ?_
    exact wX12_isFull_b30 F V0 V1 V2 V3 V4 V5 V6 V7 y3 _ h
  · have h := zif_f h c5
    refine zR_if_eq_f (tgt := 30) dX12_isFull_16 (by decide) c5 ?_
    refine zR_iload_n dX12_isFull_19 1 rfl ?_
    refine zR_iconst (x := (3 : Int32)) dX12_isFull_20 rfl ?_
    by_cases c6 : x1 = (3 : Int32)
    · have h := zif_t h c6
      refine zR_icmp_eq_t (tgt := 30) dX12_isFull_21 (by decide) c6 ?_
      refine zR_sub (lv' := [(2, .int y3)]) [2] rfl ?_
      exact wX12_isFull_b30 F V0 V1 V2 V3 V4 V5 V6 V7 y3 _ h
    · have h := zif_f h c6
      refine zR_icmp_eq_f (tgt := 30) dX12_isFull_21 (by decide) c6 ?_
      refine zR_iload_n dX12_isFull_24 1 rfl ?_
      refine zR_bipush (x := (6 : Int32)) dX12_isFull_25 rfl ?_
      by_cases c7 : x1 = (6 : Int32)
      · have h := zif_t h c7
        refine zR_icmp_ne_f (tgt := 35) dX12_isFull_27 (by decide) c7 ?_
        refine zR_sub (lv' := [(2, .int y3)]) [2] rfl ?_
        exact wX12_isFull_b30 F V0 V1 V2 V3 V4 V5 V6 V7 y3 _ h
      · have h := zif_f h c7
        refine zR_icmp_ne_t (tgt := 35) dX12_isFull_27 (by decide) c7 ?_
        refine zR_iload_n dX12_isFull_35 1 rfl ?_
        refine zR_iconst (x := (1 : Int32)) dX12_isFull_36 rfl ?_
        by_cases c8 : x1 = (1 : Int32)
        · have h := zif_t h c8
          refine zR_icmp_eq_t (tgt := 50) dX12_isFull_37 (by decide) c8 ?_
          refine zR_sub (lv' := [(2, .int y3)]) [2] rfl ?_
          exact wX12_isFull_b50 F V0 V1 V2 V3 V4 V5 V6 V7 y3 _ h
        · have h := zif_f h c8
          refine zR_icmp_eq_f (tgt := 50) dX12_isFull_37 (by decide) c8 ?_
          refine zR_iload_n dX12_isFull_40 1 rfl ?_
          refine zR_iconst (x := (2 : Int32)) dX12_isFull_41 rfl ?_
          by_cases c9 : x1 = (2 : Int32)
          · have h := zif_t h c9
            refine zR_icmp_eq_t (tgt := 50) dX12_isFull_42 (by decide) c9 ?_
            refine zR_sub (lv' := [(2, .int y3)]) [2] rfl ?_
            exact wX12_isFull_b50 F V0 V1 V2 V3 V4 V5 V6 V7 y3 _ h
          · have h := zif_f h c9
            refine zR_icmp_eq_f (tgt := 50) dX12_isFull_42 (by decide) c9 ?_
            refine zR_iload_n dX12_isFull_45 1 rfl ?_
            refine zR_iconst (x := (4 : Int32)) dX12_isFull_46 rfl ?_
            by_cases c10 : x1 = (4 : Int32)
            · have h := zif_t h c10
              refine zR_icmp_ne_f (tgt := 55) dX12_isFull_47 (by decide) c10 ?_
              refine zR_sub (lv' := [(2, .int y3)]) [2] rfl ?_
              exact wX12_isFull_b50 F V0 V1 V2 V3 V4 V5 V6 V7 y3 _ h
            · have h := zif_f h c10
              refine zR_icmp_ne_t (tgt := 55) dX12_isFull_47 (by decide) c10 ?_
              refine zR_iload_n dX12_isFull_55 1 rfl ?_
              refine zR_iconst (x := (5 : Int32)) dX12_isFull_56 rfl ?_
              by_cases c11 : x1 = (5 : Int32)
              · have h := zif_t h c11
                refine zR_icmp_ne_f (tgt := 65) dX12_isFull_57 (by decide) c11 ?_
                refine zR_bipush (x := (24 : Int32)) dX12_isFull_60 rfl ?_
                refine zR_goto (tgt := 78) dX12_isFull_62 (by decide) ?_
                refine zR_sub (lv' := [(2, .int y3)]) [2] rfl ?_
                exact wX12_isFull_b78 F V0 V1 V2 V3 V4 V5 V6 V7 y3 (24 : Int32) _ h
              · have h := zif_f h c11
                refine zR_icmp_ne_t (tgt := 65) dX12_isFull_57 (by decide) c11 ?_
                refine zR_iload_n dX12_isFull_65 1 rfl ?_
                refine zR_bipush (x := (7 : Int32)) dX12_isFull_66 rfl ?_
                by_cases c12 : x1 = (7 : Int32)
                · have h := zif_t h c12
                  refine zR_icmp_ne_f (tgt := 76) dX12_isFull_68 (by decide) c12 ?_
                  refine zR_bipush (x := (12 : Int32)) dX12_isFull_71 rfl ?_
                  refine zR_goto (tgt := 78) dX12_isFull_73 (by decide) ?_
                  refine zR_sub (lv' := [(2, .int y3)]) [2] rfl ?_
                  exact wX12_isFull_b78 F V0 V1 V2 V3 V4 V5 V6 V7 y3 (12 : Int32) _ h
                · have h := zif_f h c12
                  refine zR_icmp_ne_t (tgt := 76) dX12_isFull_68 (by decide) c12 ?_
                  refine zR_bipush (x := (80 : Int32)) dX12_isFull_76 rfl ?_
                  refine zR_sub (lv' := [(2, .int y3)]) [2] rfl ?_
                  exact wX12_isFull_b78 F V0 V1 V2 V3 V4 V5 V6 V7 y3 (80 : Int32) _ h
set_option maxRecDepth 100000 in
set_option maxHeartbeats 4000000 in
theorem mX12_fail {w : zW} (F : Nat) (V0 V1 V2 V3 V4 V5 V6 V7 : zV) (x1 : Int32) (res : zV) (h : fX12_fail F V7 x1 = some res) : zMet w kX12_fail 0 0 0 [.ref (w.1 + 88), .int x1] (zE zds w [V0, V1, V2, V3, V4, V5, V6, V7]) none (zE zds w [V0, V1, V2, V3, V4, V5, V6, res]) := by
  refine zMet_of (by decide) (Nat.le_of_ble_eq_true rfl) (Nat.le_refl 0) fun _ => ?_
  show zR w kX12_fail 0 0 0 none (zE zds w [V0, V1, V2, V3, V4, V5, V6, res]) 0 [(0, .ref (w.1 + 88)), (1, .int x1)] [] (zE zds w [V0, V1, V2, V3, V4, V5, V6, V7])
  unfold fX12_fail at h
  refine zR_aload_n dX12_fail_0 0 rfl ?_
  refine zG_getI dX12_fail_1 zf_X12_261 zd_88 rfl rfl ?_
  by_cases c1 : (zI V7 0 13) ≤ 0
  · have h := zif_t h c1
    refine zR_if_le_t (tgt := 8) dX12_fail_4 (by decide) c1 ?_
    refine zR_aload_n dX12_fail_8 0 rfl ?_
    refine zR_iload_n dX12_fail_9 1 rfl ?_
    obtain ⟨V7_2, e3, h⟩ := zlet_some h
    refine zG_putI zds_ok dX12_fail_10 zf_X12_261 zt_X12_13 zd_88 rfl rfl e3 rfl ?_
    refine zR_aload_n dX12_fail_13 0 rfl ?_
    refine zR_aload_n dX12_fail_14 0 rfl ?_
    refine zG_getR dX12_fail_15 zf_X12_24 zd_88 rfl rfl ?_
    refine zR_aload_n dX12_fail_18 0 rfl ?_
    refine zG_getI dX12_fail_19 zf_X12_264 zd_88 rfl rfl ?_
    obtain ⟨g4, h⟩ := zchk_some h
    refine zG_iald dX12_fail_22 zd_92 rfl rfl g4 ?_
    obtain ⟨V7_5, e6, h⟩ := zlet_some h
    refine zG_putI zds_ok dX12_fail_23 zf_X12_267 zt_X12_14 zd_88 rfl rfl e6 rfl ?_
    have h := Option.some.inj h
    subst h
    exact zR_ret dX12_fail_26 rfl
  · have h := zif_f h c1
    refine zR_if_le_f (tgt := 8) dX12_fail_4 (by decide) c1 ?_
    have h := Option.some.inj h
    subst h
    exact zR_ret dX12_fail_7 rfl
set_option maxRecDepth 100000 in
set_option maxHeartbeats 4000000 in
theorem mX12_next {w : zW} (F : Nat) (V0 V1 V2 V3 V4 V5 V6 V7 : zV) (res : zV) (h : fX12_next F V7 = some res) : zMet w kX12_next 1 0 0 [.ref (w.1 + 88)] (zE zds w [V0, V1, V2, V3, V4, V5, V6, V7]) none (zE zds w [V0, V1, V2, V3, V4, V5, V6, res]) := by
  refine zMet_of (by decide) (Nat.le_of_ble_eq_true rfl) (Nat.le_refl 0) fun _ => ?_
  show zR w kX12_next 1 0 0 none (zE zds w [V0, V1, V2, V3, V4, V5, V6, res]) 0 [(0, .ref (w.1 + 88))] [] (zE zds w [V0, V1, V2, V3, V4, V5, V6, V7])
  unfold fX12_next at h
  refine zR_aload_n dX12_next_0 0 rfl ?_
  refine zG_getI dX12_next_1 zf_X12_264 zd_88 rfl rfl ?_
  refine zR_sipush (x := (1000 : Int32)) dX12_next_4 rfl ?_
  by_cases c1 : (zI V7 0 11) = (1000 : Int32)
  · have h := zif_t h c1
    refine zR_icmp_ne_f (tgt := 18) dX12_next_7 (by decide) c1 ?_
    refine zR_aload_n dX12_next_10 0 rfl ?_
    refine zR_iconst (x := (2 : Int32)) dX12_next_11 rfl ?_
    obtain ⟨q4, hq5, h⟩ := zbd_some h
    refine zR_cV (rest := []) (st1 := []) dX12_next_12 (mX12_fail F V0 V1 V2 V3 V4 V5 V6 V7 (2 : Int32) _ hq5) zc_X12_276 rfl (zE_at zd_88) ⟨_, _, rfl⟩ rfl (Nat.le_of_ble_eq_true rfl) (Nat.le_of_ble_eq_true rfl) rfl ?_
    refine zR_goto (tgt := 28) dX12_next_15 (by decide) ?_
    have h := Option.some.inj h
    subst h
    exact zR_ret dX12_next_28 rfl
  · have h := zif_f h c1
    refine zR_icmp_ne_t (tgt := 18) dX12_next_7 (by decide) c1 ?_
    refine zR_aload_n dX12_next_18 0 rfl ?_
    refine zR_dup dX12_next_19 rfl ?_
    refine zG_getI dX12_next_20 zf_X12_264 zd_88 rfl rfl ?_
    refine zR_iconst (x := (1 : Int32)) dX12_next_23 rfl ?_
    refine zR_iadd dX12_next_24 ?_
    obtain ⟨V7_2, e3, h⟩ := zlet_some h
    refine zG_putI zds_ok dX12_next_25 zf_X12_264 zt_X12_11 zd_88 rfl rfl e3 rfl ?_
    have h := Option.some.inj h
    subst h
    exact zR_ret dX12_next_28 rfl
set_option maxRecDepth 100000 in
set_option maxHeartbeats 4000000 in
theorem mX12_is {w : zW} (F : Nat) (V0 V1 V2 V3 V4 V5 V6 V7 : zV) (x1 : Int32) (res : Int32) (h : fX12_is F V7 x1 = some res) : zMet w kX12_is 0 0 0 [.ref (w.1 + 88), .int x1] (zE zds w [V0, V1, V2, V3, V4, V5, V6, V7]) (some (.int res)) (zE zds w [V0, V1, V2, V3, V4, V5, V6, V7]) := by
  refine zMet_of (by decide) (Nat.le_of_ble_eq_true rfl) (Nat.le_refl 0) fun _ => ?_
  show zR w kX12_is 0 0 0 (some (.int res)) (zE zds w [V0, V1, V2, V3, V4, V5, V6, V7]) 0 [(0, .ref (w.1 + 88)), (1, .int x1)] [] (zE zds w [V0, V1, V2, V3, V4, V5, V6, V7])
  unfold fX12_is at h
  refine zR_aload_n dX12_is_0 0 rfl ?_
  refine zG_getI dX12_is_1 zf_X12_261 zd_88 rfl rfl ?_
  by_cases c1 : (zI V7 0 13) = 0
  · have h := zif_t h c1
    refine zR_if_ne_f (tgt := 24) dX12_is_4 (by decide) c1 ?_
    refine zR_aload_n dX12_is_7 0 rfl ?_
    refine zG_getR dX12_is_8 zf_X12_20 zd_88 rfl rfl ?_
    refine zR_aload_n dX12_is_11 0 rfl ?_
    refine zG_getI dX12_is_12 zf_X12_264 zd_88 rfl rfl ?_
    obtain ⟨g2, h⟩ := zchk_some h
    refine zG_iald dX12_is_15 zd_91 rfl rfl g2 ?_
    refine zR_iload_n dX12_is_16 1 rfl ?_
    by_cases c3 : (zA V7 3 ((zI V7 0 11)).toNatClampNeg) = x1
    · have h := zif_t h c3
      refine zR_icmp_ne_f (tgt := 24) dX12_is_17 (by decide) c3 ?_
      refine zR_iconst (x := (1 : Int32)) dX12_is_20 rfl ?_
      refine zR_goto (tgt := 25) dX12_is_21 (by decide) ?_
      have h := Option.some.inj h
      subst h
      exact zR_iret (x := (1 : Int32)) dX12_is_25 rfl znar1
    · have h := zif_f h c3
      refine zR_icmp_ne_t (tgt := 24) dX12_is_17 (by decide) c3 ?_
      refine zR_iconst (x := (0 : Int32)) dX12_is_24 rfl ?_
      have h := Option.some.inj h
      subst h
      exact zR_iret (x := (0 : Int32)) dX12_is_25 rfl znar0
  · have h := zif_f h c1
    refine zR_if_ne_t (tgt := 24) dX12_is_4 (by decide) c1 ?_
    refine zR_iconst (x := (0 : Int32)) dX12_is_24 rfl ?_
    have h := Option.some.inj h
    subst h
    exact zR_iret (x := (0 : Int32)) dX12_is_25 rfl znar0
set_option maxRecDepth 100000 in
set_option maxHeartbeats 4000000 in
theorem mX12_must {w : zW} (F : Nat) (V0 V1 V2 V3 V4 V5 V6 V7 : zV) (x1 : Int32) (res : zV) (h : fX12_must F V7 x1 = some res) : zMet w kX12_must 2 0 0 [.ref (w.1 + 88), .int x1] (zE zds w [V0, V1, V2, V3, V4, V5, V6, V7]) none (zE zds w [V0, V1, V2, V3, V4, V5, V6, res]) := by
  refine zMet_of (by decide) (Nat.le_of_ble_eq_true rfl) (Nat.le_refl 0) fun _ => ?_
  show zR w kX12_must 2 0 0 none (zE zds w [V0, V1, V2, V3, V4, V5, V6, res]) 0 [(0, .ref (w.1 + 88)), (1, .int x1)] [] (zE zds w [V0, V1, V2, V3, V4, V5, V6, V7])
  unfold fX12_must at h
  refine zR_aload_n dX12_must_0 0 rfl ?_
  refine zR_iload_n dX12_must_1 1 rfl ?_
  obtain ⟨q1, hq2, h⟩ := zbd_some h
  refine zR_cV (rest := []) (st1 := [.int q1]) dX12_must_2 (mX12_is F V0 V1 V2 V3 V4 V5 V6 V7 x1 _ hq2) zc_X12_279 rfl (zE_at zd_88) ⟨_, _, rfl⟩ rfl (Nat.le_of_ble_eq_true rfl) (Nat.le_of_ble_eq_true rfl) rfl ?_
  by_cases c3 : q1 = 0
  · have h := zif_t h c3
    refine zR_if_eq_t (tgt := 15) dX12_must_5 (by decide) c3 ?_
    refine zR_aload_n dX12_must_15 0 rfl ?_
    refine zR_iconst (x := (1 : Int32)) dX12_must_16 rfl ?_
    obtain ⟨q4, hq5, h⟩ := zbd_some h
    refine zR_cV (rest := []) (st1 := []) dX12_must_17 (mX12_fail F V0 V1 V2 V3 V4 V5 V6 V7 (1 : Int32) _ hq5) zc_X12_276 rfl (zE_at zd_88) ⟨_, _, rfl⟩ rfl (Nat.le_of_ble_eq_true rfl) (Nat.le_of_ble_eq_true rfl) rfl ?_
    have h := Option.some.inj h
    subst h
    exact zR_ret dX12_must_20 rfl
  · have h := zif_f h c3
    refine zR_if_eq_f (tgt := 15) dX12_must_5 (by decide) c3 ?_
    refine zR_aload_n dX12_must_8 0 rfl ?_
    obtain ⟨q6, hq7, h⟩ := zbd_some h
    refine zR_cV (rest := []) (st1 := []) dX12_must_9 (mX12_next F V0 V1 V2 V3 V4 V5 V6 V7 _ hq7) zc_X12_282 rfl (zE_at zd_88) ⟨_, _, rfl⟩ rfl (Nat.le_of_ble_eq_true rfl) (Nat.le_of_ble_eq_true rfl) rfl ?_
    refine zR_goto (tgt := 20) dX12_must_12 (by decide) ?_
    have h := Option.some.inj h
    subst h
    exact zR_ret dX12_must_20 rfl
set_option maxRecDepth 100000 in
set_option maxHeartbeats 4000000 in
theorem wX12_wrong_b46 {w : zW} (F : Nat) (V0 V1 V2 V3 V4 V5 V6 V7 : zV) (x1 : Int32) (x3 : Int32) (res : zV) (h : fX12_wrong_b46 F V7 x1 x3 = some res) : zR w kX12_wrong 0 0 0 none (zE zds w [V0, V1, V2, V3, V4, V5, V6, res]) 46 [(0, .ref (w.1 + 88)), (1, .int x1), (3, .int x3)] [] (zE zds w [V0, V1, V2, V3, V4, V5, V6, V7]) := by
  unfold fX12_wrong_b46 at h
  refine zR_aload_n dX12_wrong_46 0 rfl ?_
  refine zR_iload_n dX12_wrong_47 1 rfl ?_
  obtain ⟨V7_1, e2, h⟩ := zlet_some h
  refine zG_putI zds_ok dX12_wrong_48 zf_X12_270 zt_X12_15 zd_88 rfl rfl e2 rfl ?_
  refine zR_aload_n dX12_wrong_51 0 rfl ?_
  refine zR_iload_n dX12_wrong_52 2 rfl ?_
  obtain ⟨V7_3, e4, h⟩ := zlet_some h
  refine zG_putI zds_ok dX12_wrong_53 zf_X12_273 zt_X12_16 zd_88 rfl rfl e4 rfl ?_
  have h := Option.some.inj h
  subst h
  exact zR_ret dX12_wrong_56 rfl
set_option maxRecDepth 100000 in
set_option maxHeartbeats 4000000 in
theorem mX12_wrong {w : zW} (F : Nat) (V0 V1 V2 V3 V4 V5 V6 V7 : zV) (x1 : Int32) (x2 : Int32) (res : zV) (h : fX12_wrong F V7 x1 x2 = some res) : zMet w kX12_wrong 0 0 0 [.ref (w.1 + 88), .int x1, .int x2] (zE zds w [V0, V1, V2, V3, V4, V5, V6, V7]) none (zE zds w [V0, V1, V2, V3, V4, V5, V6, res]) := by
  refine zMet_of (by decide) (Nat.le_of_ble_eq_true rfl) (Nat.le_refl 0) fun _ => ?_
  show zR w kX12_wrong 0 0 0 none (zE zds w [V0, V1, V2, V3, V4, V5, V6, res]) 0 [(0, .ref (w.1 + 88)), (1, .int x1), (2, .int x2)] [] (zE zds w [V0, V1, V2, V3, V4, V5, V6, V7])
  unfold fX12_wrong at h
  refine zR_aload_n dX12_wrong_0 0 rfl ?_
  refine zG_getR dX12_wrong_1 zf_X12_24 zd_88 rfl rfl ?_
  refine zR_iload_n dX12_wrong_4 2 rfl ?_
  obtain ⟨g5, h⟩ := zchk_some h
  refine zG_iald dX12_wrong_5 zd_92 rfl rfl g5 ?_
  obtain ⟨y6, e7, h⟩ := zlet_some h
  refine zR_nmI e7 ?_
  refine zR_istore_n (lv' := [(0, .ref (w.1 + 88)), (1, .int x1), (2, .int x2), (3, .int y6)]) dX12_wrong_6 (Nat.le_of_ble_eq_true rfl) rfl ?_
  refine zR_aload_n dX12_wrong_7 0 rfl ?_
  refine zG_getI dX12_wrong_8 zf_X12_261 zd_88 rfl rfl ?_
  by_cases c8 : 0 < (zI V7 0 13)
  · have h := zif_t h c8
    refine zR_if_gt_t (tgt := 45) dX12_wrong_11 (by decide) c8 ?_
    have h := Option.some.inj h
    subst h
    exact zR_ret dX12_wrong_45 rfl
  · have h := zif_f h c8
    refine zR_if_gt_f (tgt := 45) dX12_wrong_11 (by decide) c8 ?_
    refine zR_aload_n dX12_wrong_14 0 rfl ?_
    refine zG_getI dX12_wrong_15 zf_X12_270 zd_88 rfl rfl ?_
    by_cases c9 : (zI V7 0 15) = 0
    · have h := zif_t h c9
      refine zR_if_eq_t (tgt := 46) dX12_wrong_18 (by decide) c9 ?_
      refine zR_sub (lv' := [(0, .ref (w.1 + 88)), (1, .int x1), (3, .int y6)]) [0, 1, 3] rfl ?_
      exact wX12_wrong_b46 F V0 V1 V2 V3 V4 V5 V6 V7 x1 y6 _ h
    · have h := zif_f h c9
      refine zR_if_eq_f (tgt := 46) dX12_wrong_18 (by decide) c9 ?_
      refine zR_iload_n dX12_wrong_21 3 rfl ?_
      refine zR_aload_n dX12_wrong_22 0 rfl ?_
      refine zG_getI dX12_wrong_23 zf_X12_273 zd_88 rfl rfl ?_
      by_cases c10 : (zI V7 0 16) < y6
      · have h := zif_t h c10
        refine zR_icmp_gt_t (tgt := 45) dX12_wrong_26 (by decide) c10 ?_
        have h := Option.some.inj h
        subst h
        exact zR_ret dX12_wrong_45 rfl
      · have h := zif_f h c10
        refine zR_icmp_gt_f (tgt := 45) dX12_wrong_26 (by decide) c10 ?_
        refine zR_iload_n dX12_wrong_29 3 rfl ?_
        refine zR_aload_n dX12_wrong_30 0 rfl ?_
        refine zG_getI dX12_wrong_31 zf_X12_273 zd_88 rfl rfl ?_
        by_cases c11 : y6 = (zI V7 0 16)
        · have h := zif_t h c11
          refine zR_icmp_ne_f (tgt := 46) dX12_wrong_34 (by decide) c11 ?_
          refine zR_iload_n dX12_wrong_37 1 rfl ?_
          refine zR_aload_n dX12_wrong_38 0 rfl ?_
          refine zG_getI dX12_wrong_39 zf_X12_270 zd_88 rfl rfl ?_
          by_cases c12 : x1 < (zI V7 0 15)
          · have h := zif_t h c12
            refine zR_icmp_lt_t (tgt := 46) dX12_wrong_42 (by decide) c12 ?_
            refine zR_sub (lv' := [(0, .ref (w.1 + 88)), (1, .int x1), (3, .int y6)]) [0, 1, 3] rfl ?_
            exact wX12_wrong_b46 F V0 V1 V2 V3 V4 V5 V6 V7 x1 y6 _ h
          · have h := zif_f h c12
            refine zR_icmp_lt_f (tgt := 46) dX12_wrong_42 (by decide) c12 ?_
            have h := Option.some.inj h
            subst h
            exact zR_ret dX12_wrong_45 rfl
        · have h := zif_f h c11
          refine zR_icmp_ne_t (tgt := 46) dX12_wrong_34 (by decide) c11 ?_
          refine zR_sub (lv' := [(0, .ref (w.1 + 88)), (1, .int x1), (3, .int y6)]) [0, 1, 3] rfl ?_
          exact wX12_wrong_b46 F V0 V1 V2 V3 V4 V5 V6 V7 x1 y6 _ h
set_option maxRecDepth 100000 in
set_option maxHeartbeats 4000000 in
theorem wX12_tells_b40 {w : zW} (F : Nat) (k5 : zV → Int32 → Int32 → Int32 → Int32 → Option (zV)) (hk5 : ∀ (V0 V1 V2 V3 V4 V5 V6 V7 : zV) (x1 : Int32) (x2 : Int32) (x3 : Int32) (x4 : Int32) (res : zV), k5 V7 x1 x2 x3 x4 = some res → zR w kX12_tells 1 0 0 none (zE zds w [V0, V1, V2, V3, V4, V5, V6, res]) 5 [(0, .ref (w.1 + 88)), (1, .int x1), (2, .int x2), (3, .int x3), (4, .int x4)] [] (zE zds w [V0, V1, V2, V3, V4, V5, V6, V7])) (V0 V1 V2 V3 V4 V5 V6 V7 : zV) (x1 : Int32) (x2 : Int32) (x4 : Int32) (s0 : Int32) (res : zV) (h : fX12_tells_b40 F k5 V7 x1 x2 x4 s0 = some res) : zR w kX12_tells 1 0 0 none (zE zds w [V0, V1, V2, V3, V4, V5, V6, res]) 40 [(0, .ref (w.1 + 88)), (1, .int x1), (2, .int x2), (4, .int x4)] [.int s0] (zE zds w [V0, V1, V2, V3, V4, V5, V6, V7]) := by
  unfold fX12_tells_b40 at h
  refine zR_istore_n (lv' := [(0, .ref (w.1 + 88)), (1, .int x1), (2, .int x2), (4, .int x4), (3, .int s0)]) dX12_tells_40 (Nat.le_of_ble_eq_true rfl) rfl ?_
  refine zR_iinc (u := (x4 + 1)) (lv' := [(0, .ref (w.1 + 88)), (1, .int x1), (2, .int x2), (4, .int (x4 + 1)), (3, .int s0)]) dX12_tells_41 3 rfl rfl (Nat.le_of_ble_eq_true rfl) rfl ?_
  refine zR_goto (tgt := 5) dX12_tells_44 (by decide) ?_
  refine zR_sub (lv' := [(0, .ref (w.1 + 88)), (1, .int x1), (2, .int x2), (3, .int s0), (4, .int (x4 + 1))]) [0, 1, 2, 4, 3] rfl ?_
  exact hk5 V0 V1 V2 V3 V4 V5 V6 V7 x1 x2 s0 (x4 + 1) _ h
set_option maxRecDepth 100000 in
set_option maxHeartbeats 4000000 in
theorem wX12_tells_b35 {w : zW} (F : Nat) (k5 : zV → Int32 → Int32 → Int32 → Int32 → Option (zV)) (hk5 : ∀ (V0 V1 V2 V3 V4 V5 V6 V7 : zV) (x1 : Int32) (x2 : Int32) (x3 : Int32) (x4 : Int32) (res : zV), k5 V7 x1 x2 x3 x4 = some res → zR w kX12_tells 1 0 0 none (zE zds w [V0, V1, V2, V3, V4, V5, V6, res]) 5 [(0, .ref (w.1 + 88)), (1, .int x1), (2, .int x2), (3, .int x3), (4, .int x4)] [] (zE zds w [V0, V1, V2, V3, V4, V5, V6, V7])) (V0 V1 V2 V3 V4 V5 V6 V7 : zV) (x1 : Int32) (x2 : Int32) (x4 : Int32) (res : zV) (h : fX12_tells_b35 F k5 V7 x1 x2 x4 = some res) : zR w kX12_tells 1 0 0 none (zE zds w [V0, V1, V2, V3, V4, V5, V6, res]) 35 [(0, .ref (w.1 + 88)), (1, .int x1), (2, .int x2), (4, .int x4)] [] (zE zds w [V0, V1, V2, V3, V4, V5, V6, V7]) := by
  unfold fX12_tells_b35 at h
  refine zR_iconst (x := (1 : Int32)) dX12_tells_35 rfl ?_
  refine zR_goto (tgt := 40) dX12_tells_36 (by decide) ?_
  exact wX12_tells_b40 F k5 hk5 V0 V1 V2 V3 V4 V5 V6 V7 x1 x2 x4 (1 : Int32) _ h
set_option maxRecDepth 100000 in
set_option maxHeartbeats 4000000 in
theorem wX12_tells_l5 {w : zW} (F : Nat) : ∀ (n : Nat) (V0 V1 V2 V3 V4 V5 V6 V7 : zV) (x1 : Int32) (x2 : Int32) (x3 : Int32) (x4 : Int32) (res : zV), fX12_tells_l5 F n V7 x1 x2 x3 x4 = some res → zR w kX12_tells 1 0 0 none (zE zds w [V0, V1, V2, V3, V4, V5, V6, res]) 5 [(0, .ref (w.1 + 88)), (1, .int x1), (2, .int x2), (3, .int x3), (4, .int x4)] [] (zE zds w [V0, V1, V2, V3, V4, V5, V6, V7]) := by
  intro n
  induction n with
  | zero =>
    intro V0 V1 V2 V3 V4 V5 V6 V7 x1 x2 x3 x4 res h
    simp [fX12_tells_l5] at h
  | succ n ih =>
    intro V0 V1 V2 V3 V4 V5 V6 V7 x1 x2 x3 x4 res h
    rw [fX12_tells_l5] at h
    refine zR_iload dX12_tells_5 4 rfl ?_
    refine zR_aload_n dX12_tells_7 0 rfl ?_
    refine zG_getI dX12_tells_8 zf_X12_285 zd_88 rfl rfl ?_
    by_cases c1 : (zI V7 0 22) ≤ x4
    · have h := zif_t h c1
      refine zR_icmp_ge_t (tgt := 47) dX12_tells_11 (by decide) c1 ?_
      refine zR_iload_n dX12_tells_47 3 rfl ?_
      by_cases c2 : x3 = 0
      · have h := zif_t h c2
        refine zR_if_eq_t (tgt := 58) dX12_tells_48 (by decide) c2 ?_
        refine zR_aload_n dX12_tells_58 0 rfl ?_
        refine zG_getR dX12_tells_59 zf_X12_43 zd_88 rfl rfl ?_
        refine zR_aload_n dX12_tells_62 0 rfl ?_
        refine zG_getI dX12_tells_63 zf_X12_285 zd_88 rfl rfl ?_
        refine zR_aload_n dX12_tells_66 0 rfl ?_
        refine zG_getR dX12_tells_67 zf_X12_30 zd_88 rfl rfl ?_
        refine zR_iload_n dX12_tells_70 1 rfl ?_
        obtain ⟨g3, h⟩ := zchk_some h
        refine zG_lald dX12_tells_71 zd_94 rfl rfl g3 ?_
        obtain ⟨g4, h⟩ := zchk_some h
        obtain ⟨V7_5, e6, h⟩ := zlet_some h
        refine zG_last zds_ok dX12_tells_72 zd_97 rfl rfl g4 e6 rfl ?_
        refine zR_aload_n dX12_tells_73 0 rfl ?_
        refine zG_getR dX12_tells_74 zf_X12_46 zd_88 rfl rfl ?_
        refine zR_aload_n dX12_tells_77 0 rfl ?_
        refine zG_getI dX12_tells_78 zf_X12_285 zd_88 rfl rfl ?_
        refine zR_iload_n dX12_tells_81 2 rfl ?_
        obtain ⟨g7, h⟩ := zchk_some h
        obtain ⟨V7_8, e9, h⟩ := zlet_some h
        refine zG_iast zds_ok dX12_tells_82 zd_98 rfl rfl g7 e9 rfl ?_
        refine zR_aload_n dX12_tells_83 0 rfl ?_
        refine zG_getR dX12_tells_84 zf_X12_49 zd_88 rfl rfl ?_
        refine zR_aload_n dX12_tells_87 0 rfl ?_
        refine zG_getI dX12_tells_88 zf_X12_285 zd_88 rfl rfl ?_
        refine zR_aload_n dX12_tells_91 0 rfl ?_
        refine zG_getR dX12_tells_92 zf_X12_40 zd_88 rfl rfl ?_
        refine zR_bipush (x := (9 : Int32)) dX12_tells_95 rfl ?_
        refine zR_aload_n dX12_tells_97 0 rfl ?_
        refine zG_getI dX12_tells_98 zf_X12_299 zd_88 rfl rfl ?_
        refine zR_imul dX12_tells_101 ?_
        refine zR_iload_n dX12_tells_102 2 rfl ?_
        refine zR_iadd dX12_tells_103 ?_
        obtain ⟨g10, h⟩ := zchk_some h
        refine zG_iald dX12_tells_104 zd_96 rfl rfl g10 ?_
        obtain ⟨g11, h⟩ := zchk_some h
        obtain ⟨V7_12, e13, h⟩ := zlet_some h
        refine zG_iast zds_ok dX12_tells_105 zd_99 rfl rfl g11 e13 rfl ?_
        refine zR_aload_n dX12_tells_106 0 rfl ?_
        refine zR_dup dX12_tells_107 rfl ?_
        refine zG_getI dX12_tells_108 zf_X12_285 zd_88 rfl rfl ?_
        refine zR_iconst (x := (1 : Int32)) dX12_tells_111 rfl ?_
        refine zR_iadd dX12_tells_112 ?_
        obtain ⟨V7_14, e15, h⟩ := zlet_some h
        refine zG_putI zds_ok dX12_tells_113 zf_X12_285 zt_X12_22 zd_88 rfl rfl e15 rfl ?_
        have h := Option.some.inj h
        subst h
        exact zR_ret dX12_tells_116 rfl
      · have h := zif_f h c2
        refine zR_if_eq_f (tgt := 58) dX12_tells_48 (by decide) c2 ?_
        refine zR_aload_n dX12_tells_51 0 rfl ?_
        refine zR_iconst (x := (3 : Int32)) dX12_tells_52 rfl ?_
        refine zR_iload_n dX12_tells_53 1 rfl ?_
        obtain ⟨q16, hq17, h⟩ := zbd_some h
        refine zR_cV (rest := []) (st1 := []) dX12_tells_54 (mX12_wrong F V0 V1 V2 V3 V4 V5 V6 V7 (3 : Int32) x1 _ hq17) zc_X12_288 rfl (zE_at zd_88) ⟨_, _, rfl⟩ rfl (Nat.le_of_ble_eq_true rfl) (Nat.le_of_ble_eq_true rfl) rfl ?_
        have h := Option.some.inj h
        subst h
        exact zR_ret dX12_tells_57 rfl
    · have h := zif_f h c1
      refine zR_icmp_ge_f (tgt := 47) dX12_tells_11 (by decide) c1 ?_
      refine zR_iload_n dX12_tells_14 3 rfl ?_
      by_cases c18 : x3 = 0
      · have h := zif_t h c18
        refine zR_if_ne_f (tgt := 35) dX12_tells_15 (by decide) c18 ?_
        refine zR_aload_n dX12_tells_18 0 rfl ?_
        refine zG_getR dX12_tells_19 zf_X12_43 zd_88 rfl rfl ?_
        refine zR_iload dX12_tells_22 4 rfl ?_
        obtain ⟨g19, h⟩ := zchk_some h
        refine zG_lald dX12_tells_24 zd_97 rfl rfl g19 ?_
        refine zR_aload_n dX12_tells_25 0 rfl ?_
        refine zG_getR dX12_tells_26 zf_X12_30 zd_88 rfl rfl ?_
        refine zR_iload_n dX12_tells_29 1 rfl ?_
        obtain ⟨g20, h⟩ := zchk_some h
        refine zG_lald dX12_tells_30 zd_94 rfl rfl g20 ?_
        refine zR_lcmp dX12_tells_31 ?_
        by_cases c21 : (lg_cmp (zB V7 9 (x4).toNatClampNeg) (zB V7 6 (x1).toNatClampNeg)) = 0
        · have h := zif_t h c21
          refine zR_if_ne_f (tgt := 39) dX12_tells_32 (by decide) c21 ?_
          refine zR_sub (lv' := [(0, .ref (w.1 + 88)), (1, .int x1), (2, .int x2), (4, .int x4)]) [0, 1, 2, 4] rfl ?_
          exact wX12_tells_b35 F (fX12_tells_l5 F n) ih V0 V1 V2 V3 V4 V5 V6 V7 x1 x2 x4 _ h
        · have h := zif_f h c21
          refine zR_if_ne_t (tgt := 39) dX12_tells_32 (by decide) c21 ?_
          refine zR_iconst (x := (0 : Int32)) dX12_tells_39 rfl ?_
          refine zR_sub (lv' := [(0, .ref (w.1 + 88)), (1, .int x1), (2, .int x2), (4, .int x4)]) [0, 1, 2, 4] rfl ?_
          exact wX12_tells_b40 F (fX12_tells_l5 F n) ih V0 V1 V2 V3 V4 V5 V6 V7 x1 x2 x4 (0 : Int32) _ h
      · have h := zif_f h c18
        refine zR_if_ne_t (tgt := 35) dX12_tells_15 (by decide) c18 ?_
        refine zR_sub (lv' := [(0, .ref (w.1 + 88)), (1, .int x1), (2, .int x2), (4, .int x4)]) [0, 1, 2, 4] rfl ?_
        exact wX12_tells_b35 F (fX12_tells_l5 F n) ih V0 V1 V2 V3 V4 V5 V6 V7 x1 x2 x4 _ h
set_option maxRecDepth 100000 in
set_option maxHeartbeats 4000000 in
theorem mX12_tells {w : zW} (F : Nat) (V0 V1 V2 V3 V4 V5 V6 V7 : zV) (x1 : Int32) (x2 : Int32) (res : zV) (h : fX12_tells F V7 x1 x2 = some res) : zMet w kX12_tells 1 0 0 [.ref (w.1 + 88), .int x1, .int x2] (zE zds w [V0, V1, V2, V3, V4, V5, V6, V7]) none (zE zds w [V0, V1, V2, V3, V4, V5, V6, res]) := by
  refine zMet_of (by decide) (Nat.le_of_ble_eq_true rfl) (Nat.le_refl 0) fun _ => ?_
  show zR w kX12_tells 1 0 0 none (zE zds w [V0, V1, V2, V3, V4, V5, V6, res]) 0 [(0, .ref (w.1 + 88)), (1, .int x1), (2, .int x2)] [] (zE zds w [V0, V1, V2, V3, V4, V5, V6, V7])
  unfold fX12_tells at h
  refine zR_iconst (x := (0 : Int32)) dX12_tells_0 rfl ?_
  refine zR_istore_n (lv' := [(0, .ref (w.1 + 88)), (1, .int x1), (2, .int x2), (3, .int (0 : Int32))]) dX12_tells_1 (Nat.le_of_ble_eq_true rfl) rfl ?_
  refine zR_iconst (x := (0 : Int32)) dX12_tells_2 rfl ?_
  refine zR_istore (lv' := [(0, .ref (w.1 + 88)), (1, .int x1), (2, .int x2), (3, .int (0 : Int32)), (4, .int (0 : Int32))]) dX12_tells_3 (Nat.le_of_ble_eq_true rfl) rfl ?_
  exact wX12_tells_l5 F F V0 V1 V2 V3 V4 V5 V6 V7 x1 x2 (0 : Int32) (0 : Int32) _ h
set_option maxRecDepth 100000 in
set_option maxHeartbeats 4000000 in
theorem wX12_named_b43 {w : zW} (F : Nat) (k2 : zV → Int32 → Int32 → Int32 → Option (Int32 × zV)) (hk2 : ∀ (V0 V1 V2 V3 V4 V5 V6 V7 : zV) (x1 : Int32) (x2 : Int32) (x3 : Int32) (res : Int32 × zV), k2 V7 x1 x2 x3 = some res → zR w kX12_named 1 0 0 (some (.int res.1)) (zE zds w [V0, V1, V2, V3, V4, V5, V6, res.2]) 2 [(0, .ref (w.1 + 88)), (1, .int x1), (2, .int x2), (3, .int x3)] [] (zE zds w [V0, V1, V2, V3, V4, V5, V6, V7])) (V0 V1 V2 V3 V4 V5 V6 V7 : zV) (x1 : Int32) (x2 : Int32) (x3 : Int32) (res : Int32 × zV) (h : fX12_named_b43 F k2 V7 x1 x2 x3 = some res) : zR w kX12_named 1 0 0 (some (.int res.1)) (zE zds w [V0, V1, V2, V3, V4, V5, V6, res.2]) 43 [(0, .ref (w.1 + 88)), (1, .int x1), (2, .int x2), (3, .int x3)] [] (zE zds w [V0, V1, V2, V3, V4, V5, V6, V7]) := by
  unfold fX12_named_b43 at h
  refine zR_iinc (u := (x3 + 1)) (lv' := [(0, .ref (w.1 + 88)), (1, .int x1), (2, .int x2), (3, .int (x3 + 1))]) dX12_named_43 3 rfl rfl (Nat.le_of_ble_eq_true rfl) rfl ?_
  refine zR_goto (tgt := 2) dX12_named_46 (by decide) ?_
  exact hk2 V0 V1 V2 V3 V4 V5 V6 V7 x1 x2 (x3 + 1) _ h
set_option maxRecDepth 100000 in
set_option maxHeartbeats 4000000 in
theorem wX12_named_l2 {w : zW} (F : Nat) : ∀ (n : Nat) (V0 V1 V2 V3 V4 V5 V6 V7 : zV) (x1 : Int32) (x2 : Int32) (x3 : Int32) (res : Int32 × zV), fX12_named_l2 F n V7 x1 x2 x3 = some res → zR w kX12_named 1 0 0 (some (.int res.1)) (zE zds w [V0, V1, V2, V3, V4, V5, V6, res.2]) 2 [(0, .ref (w.1 + 88)), (1, .int x1), (2, .int x2), (3, .int x3)] [] (zE zds w [V0, V1, V2, V3, V4, V5, V6, V7]) := by
  intro n
  induction n with
  | zero =>
    intro V0 V1 V2 V3 V4 V5 V6 V7 x1 x2 x3 res h
    simp [fX12_named_l2] at h
  | succ n ih =>
    intro V0 V1 V2 V3 V4 V5 V6 V7 x1 x2 x3 res h
    rw [fX12_named_l2] at h
    refine zR_iload_n dX12_named_2 3 rfl ?_
    refine zR_aload_n dX12_named_3 0 rfl ?_
    refine zG_getI dX12_named_4 zf_X12_285 zd_88 rfl rfl ?_
    by_cases c1 : (zI V7 0 22) ≤ x3
    · have h := zif_t h c1
      refine zR_icmp_ge_t (tgt := 49) dX12_named_7 (by decide) c1 ?_
      refine zR_aload_n dX12_named_49 0 rfl ?_
      refine zR_iconst (x := (4 : Int32)) dX12_named_50 rfl ?_
      refine zR_iload_n dX12_named_51 1 rfl ?_
      obtain ⟨q2, hq3, h⟩ := zbd_some h
      refine zR_cV (rest := []) (st1 := []) dX12_named_52 (mX12_wrong F V0 V1 V2 V3 V4 V5 V6 V7 (4 : Int32) x1 _ hq3) zc_X12_288 rfl (zE_at zd_88) ⟨_, _, rfl⟩ rfl (Nat.le_of_ble_eq_true rfl) (Nat.le_of_ble_eq_true rfl) rfl ?_
      refine zR_iconst (x := (0 : Int32)) dX12_named_55 rfl ?_
      have h := Option.some.inj h
      subst h
      exact zR_iret (x := (0 : Int32)) dX12_named_56 rfl rfl
    · have h := zif_f h c1
      refine zR_icmp_ge_f (tgt := 49) dX12_named_7 (by decide) c1 ?_
      refine zR_aload_n dX12_named_10 0 rfl ?_
      refine zG_getR dX12_named_11 zf_X12_43 zd_88 rfl rfl ?_
      refine zR_iload_n dX12_named_14 3 rfl ?_
      obtain ⟨g4, h⟩ := zchk_some h
      refine zG_lald dX12_named_15 zd_97 rfl rfl g4 ?_
      refine zR_aload_n dX12_named_16 0 rfl ?_
      refine zG_getR dX12_named_17 zf_X12_30 zd_88 rfl rfl ?_
      refine zR_iload_n dX12_named_20 1 rfl ?_
      obtain ⟨g5, h⟩ := zchk_some h
      refine zG_lald dX12_named_21 zd_94 rfl rfl g5 ?_
      refine zR_lcmp dX12_named_22 ?_
      by_cases c6 : (lg_cmp (zB V7 9 (x3).toNatClampNeg) (zB V7 6 (x1).toNatClampNeg)) = 0
      · have h := zif_t h c6
        refine zR_if_ne_f (tgt := 43) dX12_named_23 (by decide) c6 ?_
        refine zR_aload_n dX12_named_26 0 rfl ?_
        refine zG_getR dX12_named_27 zf_X12_46 zd_88 rfl rfl ?_
        refine zR_iload_n dX12_named_30 3 rfl ?_
        obtain ⟨g7, h⟩ := zchk_some h
        refine zG_iald dX12_named_31 zd_98 rfl rfl g7 ?_
        refine zR_iload_n dX12_named_32 2 rfl ?_
        by_cases c8 : (zA V7 10 (x3).toNatClampNeg) = x2
        · have h := zif_t h c8
          refine zR_icmp_ne_f (tgt := 43) dX12_named_33 (by decide) c8 ?_
          refine zR_aload_n dX12_named_36 0 rfl ?_
          refine zG_getR dX12_named_37 zf_X12_49 zd_88 rfl rfl ?_
          refine zR_iload_n dX12_named_40 3 rfl ?_
          obtain ⟨g9, h⟩ := zchk_some h
          refine zG_iald dX12_named_41 zd_99 rfl rfl g9 ?_
          have h := Option.some.inj h
          subst h
          exact zR_iret (x := (zA V7 11 (x3).toNatClampNeg)) dX12_named_42 rfl rfl
        · have h := zif_f h c8
          refine zR_icmp_ne_t (tgt := 43) dX12_named_33 (by decide) c8 ?_
          exact wX12_named_b43 F (fX12_named_l2 F n) ih V0 V1 V2 V3 V4 V5 V6 V7 x1 x2 x3 _ h
      · have h := zif_f h c6
        refine zR_if_ne_t (tgt := 43) dX12_named_23 (by decide) c6 ?_
        exact wX12_named_b43 F (fX12_named_l2 F n) ih V0 V1 V2 V3 V4 V5 V6 V7 x1 x2 x3 _ h
set_option maxRecDepth 100000 in
set_option maxHeartbeats 4000000 in
theorem mX12_named {w : zW} (F : Nat) (V0 V1 V2 V3 V4 V5 V6 V7 : zV) (x1 : Int32) (x2 : Int32) (res : Int32 × zV) (h : fX12_named F V7 x1 x2 = some res) : zMet w kX12_named 1 0 0 [.ref (w.1 + 88), .int x1, .int x2] (zE zds w [V0, V1, V2, V3, V4, V5, V6, V7]) (some (.int res.1)) (zE zds w [V0, V1, V2, V3, V4, V5, V6, res.2]) := by
  refine zMet_of (by decide) (Nat.le_of_ble_eq_true rfl) (Nat.le_refl 0) fun _ => ?_
  show zR w kX12_named 1 0 0 (some (.int res.1)) (zE zds w [V0, V1, V2, V3, V4, V5, V6, res.2]) 0 [(0, .ref (w.1 + 88)), (1, .int x1), (2, .int x2)] [] (zE zds w [V0, V1, V2, V3, V4, V5, V6, V7])
  unfold fX12_named at h
  refine zR_iconst (x := (0 : Int32)) dX12_named_0 rfl ?_
  refine zR_istore_n (lv' := [(0, .ref (w.1 + 88)), (1, .int x1), (2, .int x2), (3, .int (0 : Int32))]) dX12_named_1 (Nat.le_of_ble_eq_true rfl) rfl ?_
  exact wX12_named_l2 F F V0 V1 V2 V3 V4 V5 V6 V7 x1 x2 (0 : Int32) _ h
set_option maxRecDepth 100000 in
set_option maxHeartbeats 4000000 in
theorem mX12_namedNext {w : zW} (F : Nat) (V0 V1 V2 V3 V4 V5 V6 V7 : zV) (x1 : Int32) (res : Int32 × zV) (h : fX12_namedNext F V7 x1 = some res) : zMet w kX12_namedNext 3 0 0 [.ref (w.1 + 88), .int x1] (zE zds w [V0, V1, V2, V3, V4, V5, V6, V7]) (some (.int res.1)) (zE zds w [V0, V1, V2, V3, V4, V5, V6, res.2]) := by
  refine zMet_of (by decide) (Nat.le_of_ble_eq_true rfl) (Nat.le_refl 0) fun _ => ?_
  show zR w kX12_namedNext 3 0 0 (some (.int res.1)) (zE zds w [V0, V1, V2, V3, V4, V5, V6, res.2]) 0 [(0, .ref (w.1 + 88)), (1, .int x1)] [] (zE zds w [V0, V1, V2, V3, V4, V5, V6, V7])
  unfold fX12_namedNext at h
  refine zR_aload_n dX12_namedNext_0 0 rfl ?_
  refine zG_getI dX12_namedNext_1 zf_X12_264 zd_88 rfl rfl ?_
  refine zR_istore_n (lv' := [(0, .ref (w.1 + 88)), (1, .int x1), (2, .int (zI V7 0 11))]) dX12_namedNext_4 (Nat.le_of_ble_eq_true rfl) rfl ?_
  refine zR_aload_n dX12_namedNext_5 0 rfl ?_
  refine zR_iconst (x := (1 : Int32)) dX12_namedNext_6 rfl ?_
  obtain ⟨q1, hq2, h⟩ := zbd_some h
  refine zR_cV (rest := []) (st1 := []) dX12_namedNext_7 (mX12_must F V0 V1 V2 V3 V4 V5 V6 V7 (1 : Int32) _ hq2) zc_X12_292 rfl (zE_at zd_88) ⟨_, _, rfl⟩ rfl (Nat.le_of_ble_eq_true rfl) (Nat.le_of_ble_eq_true rfl) rfl ?_
  refine zR_aload_n dX12_namedNext_10 0 rfl ?_
  refine zG_getI dX12_namedNext_11 zf_X12_261 zd_88 rfl rfl ?_
  by_cases c3 : (zI q1 0 13) ≤ 0
  · have h := zif_t h c3
    refine zR_if_le_t (tgt := 21) dX12_namedNext_14 (by decide) c3 ?_
    refine zR_aload_n dX12_namedNext_21 0 rfl ?_
    refine zR_iload_n dX12_namedNext_22 2 rfl ?_
    refine zR_iload_n dX12_namedNext_23 1 rfl ?_
    obtain ⟨q4, hq5, h⟩ := zbd_some h
    refine zR_cV (rest := []) (st1 := [.int q4.1]) dX12_namedNext_24 (mX12_named F V0 V1 V2 V3 V4 V5 V6 q1 (zI V7 0 11) x1 _ hq5) zc_X12_295 rfl (zE_at zd_88) ⟨_, _, rfl⟩ rfl (Nat.le_of_ble_eq_true rfl) (Nat.le_of_ble_eq_true rfl) rfl ?_
    have h := Option.some.inj h
    subst h
    exact zR_iret (x := q4.1) dX12_namedNext_27 rfl rfl
  · have h := zif_f h c3
    refine zR_if_le_f (tgt := 21) dX12_namedNext_14 (by decide) c3 ?_
    refine zR_iconst (x := (0 : Int32)) dX12_namedNext_17 rfl ?_
    refine zR_goto (tgt := 27) dX12_namedNext_18 (by decide) ?_
    have h := Option.some.inj h
    subst h
    exact zR_iret (x := (0 : Int32)) dX12_namedNext_27 rfl rfl
set_option maxRecDepth 100000 in
set_option maxHeartbeats 4000000 in
theorem wX12_tellPart_b533 {w : zW} (F : Nat) (V0 V1 V2 V3 V4 V5 V6 V7 : zV) (x1 : Int32) (res : zV) (h : fX12_tellPart_b533 F V7 x1 = some res) : zR w kX12_tellPart 4 0 0 none (zE zds w [V0, V1, V2, V3, V4, V5, V6, res]) 533 [(0, .ref (w.1 + 88)), (1, .int x1)] [] (zE zds w [V0, V1, V2, V3, V4, V5, V6, V7]) := by
  unfold fX12_tellPart_b533 at h
  refine zR_aload_n dX12_tellPart_533 0 rfl ?_
  refine zG_getR dX12_tellPart_534 zf_X12_40 zd_88 rfl rfl ?_
  refine zR_bipush (x := (9 : Int32)) dX12_tellPart_537 rfl ?_
  refine zR_aload_n dX12_tellPart_539 0 rfl ?_
  refine zG_getI dX12_tellPart_540 zf_X12_299 zd_88 rfl rfl ?_
  refine zR_imul dX12_tellPart_543 ?_
  refine zR_iload_n dX12_tellPart_544 1 rfl ?_
  refine zR_iadd dX12_tellPart_545 ?_
  refine zR_dup2 dX12_tellPart_546 rfl rfl ?_
  obtain ⟨g1, h⟩ := zchk_some h
  refine zG_iald dX12_tellPart_547 zd_96 rfl rfl g1 ?_
  refine zR_iconst (x := (1 : Int32)) dX12_tellPart_548 rfl ?_
  refine zR_iadd dX12_tellPart_549 ?_
  obtain ⟨g2, h⟩ := zchk_some h
  obtain ⟨V7_3, e4, h⟩ := zlet_some h
  refine zG_iast zds_ok dX12_tellPart_550 zd_96 rfl rfl g2 e4 rfl ?_
  have h := Option.some.inj h
  subst h
  exact zR_ret dX12_tellPart_551 rfl
set_option maxRecDepth 100000 in
set_option maxHeartbeats 4000000 in
theorem wX12_tellPart_b485 {w : zW} (F : Nat) (V0 V1 V2 V3 V4 V5 V6 V7 : zV) (x1 : Int32) (x2 : Int32) (x4 : Int32) (x6 : Int32) (x7 : Int32) (res : zV) (h : fX12_tellPart_b485 F V7 x1 x2 x4 x6 x7 = some res) : zR w kX12_tellPart 4 0 0 none (zE zds w [V0, V1, V2, V3, V4, V5, V6, res]) 485 [(0, .ref (w.1 + 88)), (1, .int x1), (2, .int x2), (4, .int x4), (6, .int x6), (7, .int x7)] [] (zE zds w [V0, V1, V2, V3, V4, V5, V6, V7]) := by
  unfold fX12_tellPart_b485 at h
  refine zR_aload_n dX12_tellPart_485 0 rfl ?_
  refine zG_getR dX12_tellPart_486 zf_X12_67 zd_88 rfl rfl ?_
  refine zR_bipush (x := (24 : Int32)) dX12_tellPart_489 rfl ?_
  refine zR_aload_n dX12_tellPart_491 0 rfl ?_
  refine zG_getI dX12_tellPart_492 zf_X12_299 zd_88 rfl rfl ?_
  refine zR_imul dX12_tellPart_495 ?_
  refine zR_iload_n dX12_tellPart_496 2 rfl ?_
  refine zR_iadd dX12_tellPart_497 ?_
  refine zR_iload dX12_tellPart_498 3 rfl ?_
  obtain ⟨g5, h⟩ := zchk_some h
  obtain ⟨V7_6, e7, h⟩ := zlet_some h
  refine zG_iast zds_ok dX12_tellPart_500 zd_105 rfl rfl g5 e7 rfl ?_
  refine zR_aload_n dX12_tellPart_501 0 rfl ?_
  refine zG_getR dX12_tellPart_502 zf_X12_70 zd_88 rfl rfl ?_
  refine zR_bipush (x := (24 : Int32)) dX12_tellPart_505 rfl ?_
  refine zR_aload_n dX12_tellPart_507 0 rfl ?_
  refine zG_getI dX12_tellPart_508 zf_X12_299 zd_88 rfl rfl ?_
  refine zR_imul dX12_tellPart_511 ?_
  refine zR_iload_n dX12_tellPart_512 2 rfl ?_
  refine zR_iadd dX12_tellPart_513 ?_
  refine zR_iload dX12_tellPart_514 4 rfl ?_
  obtain ⟨g8, h⟩ := zchk_some h
  obtain ⟨V7_9, e10, h⟩ := zlet_some h
  refine zG_iast zds_ok dX12_tellPart_516 zd_106 rfl rfl g8 e10 rfl ?_
  refine zR_aload_n dX12_tellPart_517 0 rfl ?_
  refine zG_getR dX12_tellPart_518 zf_X12_73 zd_88 rfl rfl ?_
  refine zR_bipush (x := (24 : Int32)) dX12_tellPart_521 rfl ?_
  refine zR_aload_n dX12_tellPart_523 0 rfl ?_
  refine zG_getI dX12_tellPart_524 zf_X12_299 zd_88 rfl rfl ?_
  refine zR_imul dX12_tellPart_527 ?_
  refine zR_iload_n dX12_tellPart_528 2 rfl ?_
  refine zR_iadd dX12_tellPart_529 ?_
  refine zR_iload dX12_tellPart_530 5 rfl ?_
  obtain ⟨g11, h⟩ := zchk_some h
  obtain ⟨V7_12, e13, h⟩ := zlet_some h
  refine zG_iast zds_ok dX12_tellPart_532 zd_107 rfl rfl g11 e13 rfl ?_
  refine zR_sub (lv' := [(0, .ref (w.1 + 88)), (1, .int x1)]) [0, 1] rfl ?_
  exact wX12_tellPart_b533 F V0 V1 V2 V3 V4 V5 V6 V7_12 x1 _ h
set_option maxRecDepth 100000 in
set_option maxHeartbeats 4000000 in
theorem wX12_tellPart_b448 {w : zW} (F : Nat) (V0 V1 V2 V3 V4 V5 V6 V7 : zV) (x1 : Int32) (x2 : Int32) (x3 : Int32) (x4 : Int32) (x5 : Int32) (x6 : Int32) (x7 : Int32) (res : zV) (h : fX12_tellPart_b448 F V7 x1 x2 x3 x4 x5 x6 x7 = some res) : zR w kX12_tellPart 4 0 0 none (zE zds w [V0, V1, V2, V3, V4, V5, V6, res]) 448 [(0, .ref (w.1 + 88)), (1, .int x1), (2, .int x2), (3, .int x3), (4, .int x4), (5, .int x5), (6, .int x6), (7, .int x7)] [] (zE zds w [V0, V1, V2, V3, V4, V5, V6, V7]) := by
  unfold fX12_tellPart_b448 at h
  refine zR_aload_n dX12_tellPart_448 0 rfl ?_
  refine zR_iconst (x := (4 : Int32)) dX12_tellPart_449 rfl ?_
  obtain ⟨q14, hq15, h⟩ := zbd_some h
  refine zR_cV (rest := []) (st1 := []) dX12_tellPart_450 (mX12_must F V0 V1 V2 V3 V4 V5 V6 V7 (4 : Int32) _ hq15) zc_X12_292 rfl (zE_at zd_88) ⟨_, _, rfl⟩ rfl (Nat.le_of_ble_eq_true rfl) (Nat.le_of_ble_eq_true rfl) rfl ?_
  refine zR_aload_n dX12_tellPart_453 0 rfl ?_
  refine zG_getI dX12_tellPart_454 zf_X12_261 zd_88 rfl rfl ?_
  by_cases c16 : (zI q14 0 13) ≤ 0
  · have h := zif_t h c16
    refine zR_if_le_t (tgt := 461) dX12_tellPart_457 (by decide) c16 ?_
    refine zR_aload_n dX12_tellPart_461 0 rfl ?_
    refine zG_getR dX12_tellPart_462 zf_X12_30 zd_88 rfl rfl ?_
    refine zR_iload_n dX12_tellPart_465 3 rfl ?_
    obtain ⟨g17, h⟩ := zchk_some h
    refine zG_lald dX12_tellPart_466 zd_94 rfl rfl g17 ?_
    refine zR_aload_n dX12_tellPart_467 0 rfl ?_
    refine zG_getR dX12_tellPart_468 zf_X12_30 zd_88 rfl rfl ?_
    refine zR_iload dX12_tellPart_471 5 rfl ?_
    obtain ⟨g18, h⟩ := zchk_some h
    refine zG_lald dX12_tellPart_473 zd_94 rfl rfl g18 ?_
    refine zR_lcmp dX12_tellPart_474 ?_
    by_cases c19 : (lg_cmp (zB q14 6 (x3).toNatClampNeg) (zB q14 6 (x5).toNatClampNeg)) = 0
    · have h := zif_t h c19
      refine zR_if_ne_f (tgt := 485) dX12_tellPart_475 (by decide) c19 ?_
      refine zR_aload_n dX12_tellPart_478 0 rfl ?_
      refine zR_iconst (x := (5 : Int32)) dX12_tellPart_479 rfl ?_
      refine zR_iload dX12_tellPart_480 5 rfl ?_
      obtain ⟨q20, hq21, h⟩ := zbd_some h
      refine zR_cV (rest := []) (st1 := []) dX12_tellPart_482 (mX12_wrong F V0 V1 V2 V3 V4 V5 V6 q14 (5 : Int32) x5 _ hq21) zc_X12_288 rfl (zE_at zd_88) ⟨_, _, rfl⟩ rfl (Nat.le_of_ble_eq_true rfl) (Nat.le_of_ble_eq_true rfl) rfl ?_
      refine zR_sub (lv' := [(0, .ref (w.1 + 88)), (1, .int x1), (2, .int x2), (4, .int x4), (6, .int x6), (7, .int x7)]) [0, 1, 2, 4, 6, 7] rfl ?_
      exact wX12_tellPart_b485 F V0 V1 V2 V3 V4 V5 V6 q20 x1 x2 x4 x6 x7 _ h
    · have h := zif_f h c19
      refine zR_if_ne_t (tgt := 485) dX12_tellPart_475 (by decide) c19 ?_
      refine zR_sub (lv' := [(0, .ref (w.1 + 88)), (1, .int x1), (2, .int x2), (4, .int x4), (6, .int x6), (7, .int x7)]) [0, 1, 2, 4, 6, 7] rfl ?_
      exact wX12_tellPart_b485 F V0 V1 V2 V3 V4 V5 V6 q14 x1 x2 x4 x6 x7 _ h
  · have h := zif_f h c16
    refine zR_if_le_f (tgt := 461) dX12_tellPart_457 (by decide) c16 ?_
    have h := Option.some.inj h
    subst h
    exact zR_ret dX12_tellPart_460 rfl
set_option maxRecDepth 100000 in
set_option maxHeartbeats 4000000 in
theorem wX12_tellPart_b405 {w : zW} (F : Nat) (V0 V1 V2 V3 V4 V5 V6 V7 : zV) (x1 : Int32) (x2 : Int32) (x3 : Int32) (res : zV) (h : fX12_tellPart_b405 F V7 x1 x2 x3 = some res) : zR w kX12_tellPart 4 0 0 none (zE zds w [V0, V1, V2, V3, V4, V5, V6, res]) 405 [(0, .ref (w.1 + 88)), (1, .int x1), (2, .int x2), (3, .int x3)] [] (zE zds w [V0, V1, V2, V3, V4, V5, V6, V7]) := by
  unfold fX12_tellPart_b405 at h
  refine zR_aload_n dX12_tellPart_405 0 rfl ?_
  refine zR_iconst (x := (4 : Int32)) dX12_tellPart_406 rfl ?_
  obtain ⟨q22, hq23, h⟩ := zbd_some h
  refine zR_cV (rest := []) (st1 := [.int q22.1]) dX12_tellPart_407 (mX12_namedNext F V0 V1 V2 V3 V4 V5 V6 V7 (4 : Int32) _ hq23) zc_X12_342 rfl (zE_at zd_88) ⟨_, _, rfl⟩ rfl (Nat.le_of_ble_eq_true rfl) (Nat.le_of_ble_eq_true rfl) rfl ?_
  refine zR_istore (lv' := [(0, .ref (w.1 + 88)), (1, .int x1), (2, .int x2), (3, .int x3), (4, .int q22.1)]) dX12_tellPart_410 (Nat.le_of_ble_eq_true rfl) rfl ?_
  refine zR_aload_n dX12_tellPart_412 0 rfl ?_
  refine zG_getI dX12_tellPart_413 zf_X12_264 zd_88 rfl rfl ?_
  refine zR_istore (lv' := [(0, .ref (w.1 + 88)), (1, .int x1), (2, .int x2), (3, .int x3), (4, .int q22.1), (5, .int (zI q22.2 0 11))]) dX12_tellPart_416 (Nat.le_of_ble_eq_true rfl) rfl ?_
  refine zR_aload_n dX12_tellPart_418 0 rfl ?_
  refine zR_iconst (x := (4 : Int32)) dX12_tellPart_419 rfl ?_
  obtain ⟨q24, hq25, h⟩ := zbd_some h
  refine zR_cV (rest := []) (st1 := [.int q24.1]) dX12_tellPart_420 (mX12_namedNext F V0 V1 V2 V3 V4 V5 V6 q22.2 (4 : Int32) _ hq25) zc_X12_342 rfl (zE_at zd_88) ⟨_, _, rfl⟩ rfl (Nat.le_of_ble_eq_true rfl) (Nat.le_of_ble_eq_true rfl) rfl ?_
  refine zR_istore (lv' := [(0, .ref (w.1 + 88)), (1, .int x1), (2, .int x2), (3, .int x3), (4, .int q22.1), (5, .int (zI q22.2 0 11)), (6, .int q24.1)]) dX12_tellPart_423 (Nat.le_of_ble_eq_true rfl) rfl ?_
  refine zR_iconst (x := (-1 : Int32)) dX12_tellPart_425 (by decide) ?_
  refine zR_istore (lv' := [(0, .ref (w.1 + 88)), (1, .int x1), (2, .int x2), (3, .int x3), (4, .int q22.1), (5, .int (zI q22.2 0 11)), (6, .int q24.1), (7, .int (-1 : Int32))]) dX12_tellPart_426 (Nat.le_of_ble_eq_true rfl) rfl ?_
  refine zR_aload_n dX12_tellPart_428 0 rfl ?_
  refine zR_bipush (x := (26 : Int32)) dX12_tellPart_429 rfl ?_
  obtain ⟨q26, hq27, h⟩ := zbd_some h
  refine zR_cV (rest := []) (st1 := [.int q26]) dX12_tellPart_431 (mX12_is F V0 V1 V2 V3 V4 V5 V6 q24.2 (26 : Int32) _ hq27) zc_X12_279 rfl (zE_at zd_88) ⟨_, _, rfl⟩ rfl (Nat.le_of_ble_eq_true rfl) (Nat.le_of_ble_eq_true rfl) rfl ?_
  by_cases c28 : q26 = 0
  · have h := zif_t h c28
    refine zR_if_eq_t (tgt := 448) dX12_tellPart_434 (by decide) c28 ?_
    exact wX12_tellPart_b448 F V0 V1 V2 V3 V4 V5 V6 q24.2 x1 x2 x3 q22.1 (zI q22.2 0 11) q24.1 (-1 : Int32) _ h
  · have h := zif_f h c28
    refine zR_if_eq_f (tgt := 448) dX12_tellPart_434 (by decide) c28 ?_
    refine zR_aload_n dX12_tellPart_437 0 rfl ?_
    obtain ⟨q29, hq30, h⟩ := zbd_some h
    refine zR_cV (rest := []) (st1 := []) dX12_tellPart_438 (mX12_next F V0 V1 V2 V3 V4 V5 V6 q24.2 _ hq30) zc_X12_282 rfl (zE_at zd_88) ⟨_, _, rfl⟩ rfl (Nat.le_of_ble_eq_true rfl) (Nat.le_of_ble_eq_true rfl) rfl ?_
    refine zR_aload_n dX12_tellPart_441 0 rfl ?_
    refine zR_iconst (x := (0 : Int32)) dX12_tellPart_442 rfl ?_
    obtain ⟨q31, hq32, h⟩ := zbd_some h
    refine zR_cV (rest := []) (st1 := [.int q31.1]) dX12_tellPart_443 (mX12_namedNext F V0 V1 V2 V3 V4 V5 V6 q29 (0 : Int32) _ hq32) zc_X12_342 rfl (zE_at zd_88) ⟨_, _, rfl⟩ rfl (Nat.le_of_ble_eq_true rfl) (Nat.le_of_ble_eq_true rfl) rfl ?_
    refine zR_istore (lv' := [(0, .ref (w.1 + 88)), (1, .int x1), (2, .int x2), (3, .int x3), (4, .int q22.1), (5, .int (zI q22.2 0 11)), (6, .int q24.1), (7, .int q31.1)]) dX12_tellPart_446 (Nat.le_of_ble_eq_true rfl) rfl ?_
    exact wX12_tellPart_b448 F V0 V1 V2 V3 V4 V5 V6 q31.2 x1 x2 x3 q22.1 (zI q22.2 0 11) q24.1 q31.1 _ h
set_option maxRecDepth 100000 in
set_option maxHeartbeats 4000000 in
theorem wX12_tellPart_b293 {w : zW} (F : Nat) (V0 V1 V2 V3 V4 V5 V6 V7 : zV) (x1 : Int32) (x2 : Int32) (x4 : Int32) (x6 : Int32) (res : zV) (h : fX12_tellPart_b293 F V7 x1 x2 x4 x6 = some res) : zR w kX12_tellPart 4 0 0 none (zE zds w [V0, V1, V2, V3, V4, V5, V6, res]) 293 [(0, .ref (w.1 + 88)), (1, .int x1), (2, .int x2), (4, .int x4), (6, .int x6)] [] (zE zds w [V0, V1, V2, V3, V4, V5, V6, V7]) := by
  unfold fX12_tellPart_b293 at h
  refine zR_aload_n dX12_tellPart_293 0 rfl ?_
  refine zG_getR dX12_tellPart_294 zf_X12_58 zd_88 rfl rfl ?_
  refine zR_bipush (x := (8 : Int32)) dX12_tellPart_297 rfl ?_
  refine zR_aload_n dX12_tellPart_299 0 rfl ?_
  refine zG_getI dX12_tellPart_300 zf_X12_299 zd_88 rfl rfl ?_
  refine zR_imul dX12_tellPart_303 ?_
  refine zR_iload_n dX12_tellPart_304 2 rfl ?_
  refine zR_iadd dX12_tellPart_305 ?_
  refine zR_iload dX12_tellPart_306 3 rfl ?_
  obtain ⟨g33, h⟩ := zchk_some h
  obtain ⟨V7_34, e35, h⟩ := zlet_some h
  refine zG_iast zds_ok dX12_tellPart_308 zd_102 rfl rfl g33 e35 rfl ?_
  refine zR_aload_n dX12_tellPart_309 0 rfl ?_
  refine zG_getR dX12_tellPart_310 zf_X12_61 zd_88 rfl rfl ?_
  refine zR_bipush (x := (8 : Int32)) dX12_tellPart_313 rfl ?_
  refine zR_aload_n dX12_tellPart_315 0 rfl ?_
  refine zG_getI dX12_tellPart_316 zf_X12_299 zd_88 rfl rfl ?_
  refine zR_imul dX12_tellPart_319 ?_
  refine zR_iload_n dX12_tellPart_320 2 rfl ?_
  refine zR_iadd dX12_tellPart_321 ?_
  refine zR_iload dX12_tellPart_322 4 rfl ?_
  obtain ⟨g36, h⟩ := zchk_some h
  obtain ⟨V7_37, e38, h⟩ := zlet_some h
  refine zG_iast zds_ok dX12_tellPart_324 zd_103 rfl rfl g36 e38 rfl ?_
  refine zR_goto (tgt := 533) dX12_tellPart_325 (by decide) ?_
  refine zR_sub (lv' := [(0, .ref (w.1 + 88)), (1, .int x1)]) [0, 1] rfl ?_
  exact wX12_tellPart_b533 F V0 V1 V2 V3 V4 V5 V6 V7_37 x1 _ h
set_option maxRecDepth 100000 in
set_option maxHeartbeats 4000000 in
theorem wX12_tellPart_b206 {w : zW} (F : Nat) (V0 V1 V2 V3 V4 V5 V6 V7 : zV) (x1 : Int32) (x2 : Int32) (x4 : Int32) (res : zV) (h : fX12_tellPart_b206 F V7 x1 x2 x4 = some res) : zR w kX12_tellPart 4 0 0 none (zE zds w [V0, V1, V2, V3, V4, V5, V6, res]) 206 [(0, .ref (w.1 + 88)), (1, .int x1), (2, .int x2), (4, .int x4)] [] (zE zds w [V0, V1, V2, V3, V4, V5, V6, V7]) := by
  unfold fX12_tellPart_b206 at h
  refine zR_iload_n dX12_tellPart_206 1 rfl ?_
  refine zR_bipush (x := (6 : Int32)) dX12_tellPart_207 rfl ?_
  by_cases c39 : x1 = (6 : Int32)
  · have h := zif_t h c39
    refine zR_icmp_ne_f (tgt := 533) dX12_tellPart_209 (by decide) c39 ?_
    refine zR_aload_n dX12_tellPart_212 0 rfl ?_
    refine zG_getR dX12_tellPart_213 zf_X12_76 zd_88 rfl rfl ?_
    refine zR_bipush (x := (16 : Int32)) dX12_tellPart_216 rfl ?_
    refine zR_aload_n dX12_tellPart_218 0 rfl ?_
    refine zG_getI dX12_tellPart_219 zf_X12_299 zd_88 rfl rfl ?_
    refine zR_imul dX12_tellPart_222 ?_
    refine zR_iload_n dX12_tellPart_223 2 rfl ?_
    refine zR_iadd dX12_tellPart_224 ?_
    refine zR_aload_n dX12_tellPart_225 0 rfl ?_
    refine zG_getR dX12_tellPart_226 zf_X12_27 zd_88 rfl rfl ?_
    refine zR_iload dX12_tellPart_229 3 rfl ?_
    obtain ⟨g40, h⟩ := zchk_some h
    refine zG_iald dX12_tellPart_231 zd_93 rfl rfl g40 ?_
    obtain ⟨g41, h⟩ := zchk_some h
    obtain ⟨V7_42, e43, h⟩ := zlet_some h
    refine zG_iast zds_ok dX12_tellPart_232 zd_108 rfl rfl g41 e43 rfl ?_
    refine zR_goto (tgt := 533) dX12_tellPart_233 (by decide) ?_
    refine zR_sub (lv' := [(0, .ref (w.1 + 88)), (1, .int x1)]) [0, 1] rfl ?_
    exact wX12_tellPart_b533 F V0 V1 V2 V3 V4 V5 V6 V7_42 x1 _ h
  · have h := zif_f h c39
    refine zR_icmp_ne_t (tgt := 533) dX12_tellPart_209 (by decide) c39 ?_
    refine zR_sub (lv' := [(0, .ref (w.1 + 88)), (1, .int x1)]) [0, 1] rfl ?_
    exact wX12_tellPart_b533 F V0 V1 V2 V3 V4 V5 V6 V7 x1 _ h
set_option maxRecDepth 100000 in
set_option maxHeartbeats 4000000 in
theorem wX12_tellPart_b180 {w : zW} (F : Nat) (V0 V1 V2 V3 V4 V5 V6 V7 : zV) (x1 : Int32) (x2 : Int32) (x4 : Int32) (res : zV) (h : fX12_tellPart_b180 F V7 x1 x2 x4 = some res) : zR w kX12_tellPart 4 0 0 none (zE zds w [V0, V1, V2, V3, V4, V5, V6, res]) 180 [(0, .ref (w.1 + 88)), (1, .int x1), (2, .int x2), (4, .int x4)] [] (zE zds w [V0, V1, V2, V3, V4, V5, V6, V7]) := by
  unfold fX12_tellPart_b180 at h
  refine zR_iload_n dX12_tellPart_180 1 rfl ?_
  refine zR_iconst (x := (1 : Int32)) dX12_tellPart_181 rfl ?_
  by_cases c44 : x1 = (1 : Int32)
  · have h := zif_t h c44
    refine zR_icmp_ne_f (tgt := 206) dX12_tellPart_182 (by decide) c44 ?_
    refine zR_aload_n dX12_tellPart_185 0 rfl ?_
    refine zG_getR dX12_tellPart_186 zf_X12_55 zd_88 rfl rfl ?_
    refine zR_bipush (x := (8 : Int32)) dX12_tellPart_189 rfl ?_
    refine zR_aload_n dX12_tellPart_191 0 rfl ?_
    refine zG_getI dX12_tellPart_192 zf_X12_299 zd_88 rfl rfl ?_
    refine zR_imul dX12_tellPart_195 ?_
    refine zR_iload_n dX12_tellPart_196 2 rfl ?_
    refine zR_iadd dX12_tellPart_197 ?_
    refine zR_aload_n dX12_tellPart_198 0 rfl ?_
    refine zG_getR dX12_tellPart_199 zf_X12_27 zd_88 rfl rfl ?_
    refine zR_iload dX12_tellPart_202 3 rfl ?_
    obtain ⟨g45, h⟩ := zchk_some h
    refine zG_iald dX12_tellPart_204 zd_93 rfl rfl g45 ?_
    obtain ⟨g46, h⟩ := zchk_some h
    obtain ⟨V7_47, e48, h⟩ := zlet_some h
    refine zG_iast zds_ok dX12_tellPart_205 zd_101 rfl rfl g46 e48 rfl ?_
    exact wX12_tellPart_b206 F V0 V1 V2 V3 V4 V5 V6 V7_47 x1 x2 x4 _ h
  · have h := zif_f h c44
    refine zR_icmp_ne_t (tgt := 206) dX12_tellPart_182 (by decide) c44 ?_
    exact wX12_tellPart_b206 F V0 V1 V2 V3 V4 V5 V6 V7 x1 x2 x4 _ h
set_option maxRecDepth 100000 in
set_option maxHeartbeats 4000000 in
theorem wX12_tellPart_b120 {w : zW} (F : Nat) (V0 V1 V2 V3 V4 V5 V6 V7 : zV) (x1 : Int32) (x2 : Int32) (x3 : Int32) (res : zV) (h : fX12_tellPart_b120 F V7 x1 x2 x3 = some res) : zR w kX12_tellPart 4 0 0 none (zE zds w [V0, V1, V2, V3, V4, V5, V6, res]) 120 [(0, .ref (w.1 + 88)), (1, .int x1), (2, .int x2), (3, .int x3)] [] (zE zds w [V0, V1, V2, V3, V4, V5, V6, V7]) := by
  unfold fX12_tellPart_b120 at h
  refine zR_aload_n dX12_tellPart_120 0 rfl ?_
  refine zR_iconst (x := (1 : Int32)) dX12_tellPart_121 rfl ?_
  obtain ⟨q49, hq50, h⟩ := zbd_some h
  refine zR_cV (rest := []) (st1 := []) dX12_tellPart_122 (mX12_must F V0 V1 V2 V3 V4 V5 V6 V7 (1 : Int32) _ hq50) zc_X12_292 rfl (zE_at zd_88) ⟨_, _, rfl⟩ rfl (Nat.le_of_ble_eq_true rfl) (Nat.le_of_ble_eq_true rfl) rfl ?_
  refine zR_aload_n dX12_tellPart_125 0 rfl ?_
  refine zG_getI dX12_tellPart_126 zf_X12_264 zd_88 rfl rfl ?_
  refine zR_istore (lv' := [(0, .ref (w.1 + 88)), (1, .int x1), (2, .int x2), (3, .int x3), (4, .int (zI q49 0 11))]) dX12_tellPart_129 (Nat.le_of_ble_eq_true rfl) rfl ?_
  refine zR_aload_n dX12_tellPart_131 0 rfl ?_
  refine zR_iconst (x := (2 : Int32)) dX12_tellPart_132 rfl ?_
  obtain ⟨q51, hq52, h⟩ := zbd_some h
  refine zR_cV (rest := []) (st1 := []) dX12_tellPart_133 (mX12_must F V0 V1 V2 V3 V4 V5 V6 q49 (2 : Int32) _ hq52) zc_X12_292 rfl (zE_at zd_88) ⟨_, _, rfl⟩ rfl (Nat.le_of_ble_eq_true rfl) (Nat.le_of_ble_eq_true rfl) rfl ?_
  refine zR_aload_n dX12_tellPart_136 0 rfl ?_
  refine zR_iconst (x := (4 : Int32)) dX12_tellPart_137 rfl ?_
  obtain ⟨q53, hq54, h⟩ := zbd_some h
  refine zR_cV (rest := []) (st1 := []) dX12_tellPart_138 (mX12_must F V0 V1 V2 V3 V4 V5 V6 q51 (4 : Int32) _ hq54) zc_X12_292 rfl (zE_at zd_88) ⟨_, _, rfl⟩ rfl (Nat.le_of_ble_eq_true rfl) (Nat.le_of_ble_eq_true rfl) rfl ?_
  refine zR_aload_n dX12_tellPart_141 0 rfl ?_
  refine zG_getI dX12_tellPart_142 zf_X12_261 zd_88 rfl rfl ?_
  by_cases c55 : (zI q53 0 13) ≤ 0
  · have h := zif_t h c55
    refine zR_if_le_t (tgt := 149) dX12_tellPart_145 (by decide) c55 ?_
    refine zR_aload_n dX12_tellPart_149 0 rfl ?_
    refine zR_iload_n dX12_tellPart_150 3 rfl ?_
    refine zR_iload_n dX12_tellPart_151 1 rfl ?_
    obtain ⟨q56, hq57, h⟩ := zbd_some h
    refine zR_cV (rest := []) (st1 := []) dX12_tellPart_152 (mX12_tells F V0 V1 V2 V3 V4 V5 V6 q53 x3 x1 _ hq57) zc_X12_339 rfl (zE_at zd_88) ⟨_, _, rfl⟩ rfl (Nat.le_of_ble_eq_true rfl) (Nat.le_of_ble_eq_true rfl) rfl ?_
    refine zR_iload_n dX12_tellPart_155 1 rfl ?_
    by_cases c58 : x1 = 0
    · have h := zif_t h c58
      refine zR_if_ne_f (tgt := 180) dX12_tellPart_156 (by decide) c58 ?_
      refine zR_aload_n dX12_tellPart_159 0 rfl ?_
      refine zG_getR dX12_tellPart_160 zf_X12_52 zd_88 rfl rfl ?_
      refine zR_bipush (x := (16 : Int32)) dX12_tellPart_163 rfl ?_
      refine zR_aload_n dX12_tellPart_165 0 rfl ?_
      refine zG_getI dX12_tellPart_166 zf_X12_299 zd_88 rfl rfl ?_
      refine zR_imul dX12_tellPart_169 ?_
      refine zR_iload_n dX12_tellPart_170 2 rfl ?_
      refine zR_iadd dX12_tellPart_171 ?_
      refine zR_aload_n dX12_tellPart_172 0 rfl ?_
      refine zG_getR dX12_tellPart_173 zf_X12_27 zd_88 rfl rfl ?_
      refine zR_iload dX12_tellPart_176 4 rfl ?_
      obtain ⟨g59, h⟩ := zchk_some h
      refine zG_iald dX12_tellPart_178 zd_93 rfl rfl g59 ?_
      obtain ⟨g60, h⟩ := zchk_some h
      obtain ⟨V7_61, e62, h⟩ := zlet_some h
      refine zG_iast zds_ok dX12_tellPart_179 zd_100 rfl rfl g60 e62 rfl ?_
      refine zR_sub (lv' := [(0, .ref (w.1 + 88)), (1, .int x1), (2, .int x2), (4, .int (zI q49 0 11))]) [0, 1, 2, 4] rfl ?_
      exact wX12_tellPart_b180 F V0 V1 V2 V3 V4 V5 V6 V7_61 x1 x2 (zI q49 0 11) _ h
    · have h := zif_f h c58
      refine zR_if_ne_t (tgt := 180) dX12_tellPart_156 (by decide) c58 ?_
      refine zR_sub (lv' := [(0, .ref (w.1 + 88)), (1, .int x1), (2, .int x2), (4, .int (zI q49 0 11))]) [0, 1, 2, 4] rfl ?_
      exact wX12_tellPart_b180 F V0 V1 V2 V3 V4 V5 V6 q56 x1 x2 (zI q49 0 11) _ h
  · have h := zif_f h c55
    refine zR_if_le_f (tgt := 149) dX12_tellPart_145 (by decide) c55 ?_
    have h := Option.some.inj h
    subst h
    exact zR_ret dX12_tellPart_148 rfl
set_option maxRecDepth 100000 in
set_option maxHeartbeats 4000000 in
theorem wX12_tellPart_b45 {w : zW} (F : Nat) (V0 V1 V2 V3 V4 V5 V6 V7 : zV) (x1 : Int32) (res : zV) (h : fX12_tellPart_b45 F V7 x1 = some res) : zR w kX12_tellPart 4 0 0 none (zE zds w [V0, V1, V2, V3, V4, V5, V6, res]) 45 [(0, .ref (w.1 + 88)), (1, .int x1)] [] (zE zds w [V0, V1, V2, V3, V4, V5, V6, V7]) := by
  unfold fX12_tellPart_b45 at h
  refine zR_aload_n dX12_tellPart_45 0 rfl ?_
  obtain ⟨q63, hq64, h⟩ := zbd_some h
  refine zR_cV (rest := []) (st1 := []) dX12_tellPart_46 (mX12_next F V0 V1 V2 V3 V4 V5 V6 V7 _ hq64) zc_X12_282 rfl (zE_at zd_88) ⟨_, _, rfl⟩ rfl (Nat.le_of_ble_eq_true rfl) (Nat.le_of_ble_eq_true rfl) rfl ?_
  refine zR_aload_n dX12_tellPart_49 0 rfl ?_
  refine zG_getI dX12_tellPart_50 zf_X12_261 zd_88 rfl rfl ?_
  by_cases c65 : (zI q63 0 13) ≤ 0
  · have h := zif_t h c65
    refine zR_if_le_t (tgt := 57) dX12_tellPart_53 (by decide) c65 ?_
    refine zR_aload_n dX12_tellPart_57 0 rfl ?_
    refine zG_getR dX12_tellPart_58 zf_X12_40 zd_88 rfl rfl ?_
    refine zR_bipush (x := (9 : Int32)) dX12_tellPart_61 rfl ?_
    refine zR_aload_n dX12_tellPart_63 0 rfl ?_
    refine zG_getI dX12_tellPart_64 zf_X12_299 zd_88 rfl rfl ?_
    refine zR_imul dX12_tellPart_67 ?_
    refine zR_iload_n dX12_tellPart_68 1 rfl ?_
    refine zR_iadd dX12_tellPart_69 ?_
    obtain ⟨g66, h⟩ := zchk_some h
    refine zG_iald dX12_tellPart_70 zd_96 rfl rfl g66 ?_
    obtain ⟨y67, e68, h⟩ := zlet_some h
    refine zR_nmI e68 ?_
    refine zR_istore_n (lv' := [(0, .ref (w.1 + 88)), (1, .int x1), (2, .int y67)]) dX12_tellPart_71 (Nat.le_of_ble_eq_true rfl) rfl ?_
    refine zR_aload_n dX12_tellPart_72 0 rfl ?_
    refine zG_getI dX12_tellPart_73 zf_X12_264 zd_88 rfl rfl ?_
    refine zR_istore_n (lv' := [(0, .ref (w.1 + 88)), (1, .int x1), (2, .int y67), (3, .int (zI q63 0 11))]) dX12_tellPart_76 (Nat.le_of_ble_eq_true rfl) rfl ?_
    refine zR_iload_n dX12_tellPart_77 1 rfl ?_
    by_cases c69 : x1 = (0 : Int32)
    · have h := zif_t h c69
      refine zR_tabc (tgt := 120) dX12_tellPart_78 c69 rfl (by decide) ?_
      exact wX12_tellPart_b120 F V0 V1 V2 V3 V4 V5 V6 q63 x1 y67 (zI q63 0 11) _ h
    · have h := zif_f h c69
      by_cases c70 : x1 = (1 : Int32)
      · have h := zif_t h c70
        refine zR_tabc (tgt := 120) dX12_tellPart_78 c70 rfl (by decide) ?_
        exact wX12_tellPart_b120 F V0 V1 V2 V3 V4 V5 V6 q63 x1 y67 (zI q63 0 11) _ h
      · have h := zif_f h c70
        by_cases c71 : x1 = (2 : Int32)
        · have h := zif_t h c71
          refine zR_tabc (tgt := 236) dX12_tellPart_78 c71 rfl (by decide) ?_
          refine zR_aload_n dX12_tellPart_236 0 rfl ?_
          refine zR_iconst (x := (1 : Int32)) dX12_tellPart_237 rfl ?_
          obtain ⟨q72, hq73, h⟩ := zbd_some h
          refine zR_cV (rest := []) (st1 := [.int q72.1]) dX12_tellPart_238 (mX12_namedNext F V0 V1 V2 V3 V4 V5 V6 q63 (1 : Int32) _ hq73) zc_X12_342 rfl (zE_at zd_88) ⟨_, _, rfl⟩ rfl (Nat.le_of_ble_eq_true rfl) (Nat.le_of_ble_eq_true rfl) rfl ?_
          refine zR_istore (lv' := [(0, .ref (w.1 + 88)), (1, .int x1), (2, .int y67), (3, .int (zI q63 0 11)), (4, .int q72.1)]) dX12_tellPart_241 (Nat.le_of_ble_eq_true rfl) rfl ?_
          refine zR_aload_n dX12_tellPart_243 0 rfl ?_
          refine zG_getI dX12_tellPart_244 zf_X12_264 zd_88 rfl rfl ?_
          refine zR_istore (lv' := [(0, .ref (w.1 + 88)), (1, .int x1), (2, .int y67), (3, .int (zI q63 0 11)), (4, .int q72.1), (5, .int (zI q72.2 0 11))]) dX12_tellPart_247 (Nat.le_of_ble_eq_true rfl) rfl ?_
          refine zR_aload_n dX12_tellPart_249 0 rfl ?_
          refine zR_iconst (x := (1 : Int32)) dX12_tellPart_250 rfl ?_
          obtain ⟨q74, hq75, h⟩ := zbd_some h
          refine zR_cV (rest := []) (st1 := [.int q74.1]) dX12_tellPart_251 (mX12_namedNext F V0 V1 V2 V3 V4 V5 V6 q72.2 (1 : Int32) _ hq75) zc_X12_342 rfl (zE_at zd_88) ⟨_, _, rfl⟩ rfl (Nat.le_of_ble_eq_true rfl) (Nat.le_of_ble_eq_true rfl) rfl ?_
          refine zR_istore (lv' := [(0, .ref (w.1 + 88)), (1, .int x1), (2, .int y67), (3, .int (zI q63 0 11)), (4, .int q72.1), (5, .int (zI q72.2 0 11)), (6, .int q74.1)]) dX12_tellPart_254 (Nat.le_of_ble_eq_true rfl) rfl ?_
          refine zR_aload_n dX12_tellPart_256 0 rfl ?_
          refine zR_iconst (x := (4 : Int32)) dX12_tellPart_257 rfl ?_
          obtain ⟨q76, hq77, h⟩ := zbd_some h
          refine zR_cV (rest := []) (st1 := []) dX12_tellPart_258 (mX12_must F V0 V1 V2 V3 V4 V5 V6 q74.2 (4 : Int32) _ hq77) zc_X12_292 rfl (zE_at zd_88) ⟨_, _, rfl⟩ rfl (Nat.le_of_ble_eq_true rfl) (Nat.le_of_ble_eq_true rfl) rfl ?_
          refine zR_aload_n dX12_tellPart_261 0 rfl ?_
          refine zG_getI dX12_tellPart_262 zf_X12_261 zd_88 rfl rfl ?_
          by_cases c78 : (zI q76 0 13) ≤ 0
          · have h := zif_t h c78
            refine zR_if_le_t (tgt := 269) dX12_tellPart_265 (by decide) c78 ?_
            refine zR_aload_n dX12_tellPart_269 0 rfl ?_
            refine zG_getR dX12_tellPart_270 zf_X12_30 zd_88 rfl rfl ?_
            refine zR_iload_n dX12_tellPart_273 3 rfl ?_
            obtain ⟨g79, h⟩ := zchk_some h
            refine zG_lald dX12_tellPart_274 zd_94 rfl rfl g79 ?_
            refine zR_aload_n dX12_tellPart_275 0 rfl ?_
            refine zG_getR dX12_tellPart_276 zf_X12_30 zd_88 rfl rfl ?_
            refine zR_iload dX12_tellPart_279 5 rfl ?_
            obtain ⟨g80, h⟩ := zchk_some h
            refine zG_lald dX12_tellPart_281 zd_94 rfl rfl g80 ?_
            refine zR_lcmp dX12_tellPart_282 ?_
            by_cases c81 : (lg_cmp (zB q76 6 ((zI q63 0 11)).toNatClampNeg) (zB q76 6 ((zI q72.2 0 11)).toNatClampNeg)) = 0
            · have h := zif_t h c81
              refine zR_if_ne_f (tgt := 293) dX12_tellPart_283 (by decide) c81 ?_
              refine zR_aload_n dX12_tellPart_286 0 rfl ?_
              refine zR_iconst (x := (5 : Int32)) dX12_tellPart_287 rfl ?_
              refine zR_iload dX12_tellPart_288 5 rfl ?_
              obtain ⟨q82, hq83, h⟩ := zbd_some h
              refine zR_cV (rest := []) (st1 := []) dX12_tellPart_290 (mX12_wrong F V0 V1 V2 V3 V4 V5 V6 q76 (5 : Int32) (zI q72.2 0 11) _ hq83) zc_X12_288 rfl (zE_at zd_88) ⟨_, _, rfl⟩ rfl (Nat.le_of_ble_eq_true rfl) (Nat.le_of_ble_eq_true rfl) rfl ?_
              refine zR_sub (lv' := [(0, .ref (w.1 + 88)), (1, .int x1), (2, .int y67), (4, .int q72.1), (6, .int q74.1)]) [0, 1, 2, 4, 6] rfl ?_
              exact wX12_tellPart_b293 F V0 V1 V2 V3 V4 V5 V6 q82 x1 y67 q72.1 q74.1 _ h
            · have h := zif_f h c81
              refine zR_if_ne_t (tgt := 293) dX12_tellPart_283 (by decide) c81 ?_
              refine zR_sub (lv' := [(0, .ref (w.1 + 88)), (1, .int x1), (2, .int y67), (4, .int q72.1), (6, .int q74.1)]) [0, 1, 2, 4, 6] rfl ?_
              exact wX12_tellPart_b293 F V0 V1 V2 V3 V4 V5 V6 q76 x1 y67 q72.1 q74.1 _ h
          · have h := zif_f h c78
            refine zR_if_le_f (tgt := 269) dX12_tellPart_265 (by decide) c78 ?_
            have h := Option.some.inj h
            subst h
            exact zR_ret dX12_tellPart_268 rfl
        · have h := zif_f h c71
          by_cases c84 : x1 = (3 : Int32)
          · have h := zif_t h c84
            refine zR_tabc (tgt := 328) dX12_tellPart_78 c84 rfl (by decide) ?_
            refine zR_aload_n dX12_tellPart_328 0 rfl ?_
            refine zR_iconst (x := (1 : Int32)) dX12_tellPart_329 rfl ?_
            obtain ⟨q85, hq86, h⟩ := zbd_some h
            refine zR_cV (rest := []) (st1 := []) dX12_tellPart_330 (mX12_must F V0 V1 V2 V3 V4 V5 V6 q63 (1 : Int32) _ hq86) zc_X12_292 rfl (zE_at zd_88) ⟨_, _, rfl⟩ rfl (Nat.le_of_ble_eq_true rfl) (Nat.le_of_ble_eq_true rfl) rfl ?_
            refine zR_aload_n dX12_tellPart_333 0 rfl ?_
            refine zR_iconst (x := (0 : Int32)) dX12_tellPart_334 rfl ?_
            obtain ⟨q87, hq88, h⟩ := zbd_some h
            refine zR_cV (rest := []) (st1 := [.int q87.1]) dX12_tellPart_335 (mX12_namedNext F V0 V1 V2 V3 V4 V5 V6 q85 (0 : Int32) _ hq88) zc_X12_342 rfl (zE_at zd_88) ⟨_, _, rfl⟩ rfl (Nat.le_of_ble_eq_true rfl) (Nat.le_of_ble_eq_true rfl) rfl ?_
            refine zR_istore (lv' := [(0, .ref (w.1 + 88)), (1, .int x1), (2, .int y67), (3, .int (zI q63 0 11)), (4, .int q87.1)]) dX12_tellPart_338 (Nat.le_of_ble_eq_true rfl) rfl ?_
            refine zR_aload_n dX12_tellPart_340 0 rfl ?_
            refine zR_iconst (x := (4 : Int32)) dX12_tellPart_341 rfl ?_
            obtain ⟨q89, hq90, h⟩ := zbd_some h
            refine zR_cV (rest := []) (st1 := []) dX12_tellPart_342 (mX12_must F V0 V1 V2 V3 V4 V5 V6 q87.2 (4 : Int32) _ hq90) zc_X12_292 rfl (zE_at zd_88) ⟨_, _, rfl⟩ rfl (Nat.le_of_ble_eq_true rfl) (Nat.le_of_ble_eq_true rfl) rfl ?_
            refine zR_aload_n dX12_tellPart_345 0 rfl ?_
            refine zG_getI dX12_tellPart_346 zf_X12_261 zd_88 rfl rfl ?_
            by_cases c91 : (zI q89 0 13) ≤ 0
            · have h := zif_t h c91
              refine zR_if_le_t (tgt := 353) dX12_tellPart_349 (by decide) c91 ?_
              refine zR_aload_n dX12_tellPart_353 0 rfl ?_
              refine zR_iload_n dX12_tellPart_354 3 rfl ?_
              refine zR_iconst (x := (3 : Int32)) dX12_tellPart_355 rfl ?_
              obtain ⟨q92, hq93, h⟩ := zbd_some h
              refine zR_cV (rest := []) (st1 := []) dX12_tellPart_356 (mX12_tells F V0 V1 V2 V3 V4 V5 V6 q89 (zI q63 0 11) (3 : Int32) _ hq93) zc_X12_339 rfl (zE_at zd_88) ⟨_, _, rfl⟩ rfl (Nat.le_of_ble_eq_true rfl) (Nat.le_of_ble_eq_true rfl) rfl ?_
              refine zR_aload_n dX12_tellPart_359 0 rfl ?_
              refine zG_getR dX12_tellPart_360 zf_X12_64 zd_88 rfl rfl ?_
              refine zR_bipush (x := (16 : Int32)) dX12_tellPart_363 rfl ?_
              refine zR_aload_n dX12_tellPart_365 0 rfl ?_
              refine zG_getI dX12_tellPart_366 zf_X12_299 zd_88 rfl rfl ?_
              refine zR_imul dX12_tellPart_369 ?_
              refine zR_iload_n dX12_tellPart_370 2 rfl ?_
              refine zR_iadd dX12_tellPart_371 ?_
              refine zR_iload dX12_tellPart_372 4 rfl ?_
              obtain ⟨g94, h⟩ := zchk_some h
              obtain ⟨V7_95, e96, h⟩ := zlet_some h
              refine zG_iast zds_ok dX12_tellPart_374 zd_104 rfl rfl g94 e96 rfl ?_
              refine zR_goto (tgt := 533) dX12_tellPart_375 (by decide) ?_
              refine zR_sub (lv' := [(0, .ref (w.1 + 88)), (1, .int x1)]) [0, 1] rfl ?_
              exact wX12_tellPart_b533 F V0 V1 V2 V3 V4 V5 V6 V7_95 x1 _ h
            · have h := zif_f h c91
              refine zR_if_le_f (tgt := 353) dX12_tellPart_349 (by decide) c91 ?_
              have h := Option.some.inj h
              subst h
              exact zR_ret dX12_tellPart_352 rfl
          · have h := zif_f h c84
            by_cases c97 : x1 = (4 : Int32)
            · have h := zif_t h c97
              refine zR_tabc (tgt := 378) dX12_tellPart_78 c97 rfl (by decide) ?_
              refine zR_aload_n dX12_tellPart_378 0 rfl ?_
              refine zR_iconst (x := (1 : Int32)) dX12_tellPart_379 rfl ?_
              obtain ⟨q98, hq99, h⟩ := zbd_some h
              refine zR_cV (rest := []) (st1 := []) dX12_tellPart_380 (mX12_must F V0 V1 V2 V3 V4 V5 V6 q63 (1 : Int32) _ hq99) zc_X12_292 rfl (zE_at zd_88) ⟨_, _, rfl⟩ rfl (Nat.le_of_ble_eq_true rfl) (Nat.le_of_ble_eq_true rfl) rfl ?_
              refine zR_aload_n dX12_tellPart_383 0 rfl ?_
              refine zR_iconst (x := (4 : Int32)) dX12_tellPart_384 rfl ?_
              obtain ⟨q100, hq101, h⟩ := zbd_some h
              refine zR_cV (rest := []) (st1 := []) dX12_tellPart_385 (mX12_must F V0 V1 V2 V3 V4 V5 V6 q98 (4 : Int32) _ hq101) zc_X12_292 rfl (zE_at zd_88) ⟨_, _, rfl⟩ rfl (Nat.le_of_ble_eq_true rfl) (Nat.le_of_ble_eq_true rfl) rfl ?_
              refine zR_aload_n dX12_tellPart_388 0 rfl ?_
              refine zG_getI dX12_tellPart_389 zf_X12_261 zd_88 rfl rfl ?_
              by_cases c102 : (zI q100 0 13) ≤ 0
              · have h := zif_t h c102
                refine zR_if_le_t (tgt := 396) dX12_tellPart_392 (by decide) c102 ?_
                refine zR_aload_n dX12_tellPart_396 0 rfl ?_
                refine zR_iload_n dX12_tellPart_397 3 rfl ?_
                refine zR_iconst (x := (4 : Int32)) dX12_tellPart_398 rfl ?_
                obtain ⟨q103, hq104, h⟩ := zbd_some h
                refine zR_cV (rest := []) (st1 := []) dX12_tellPart_399 (mX12_tells F V0 V1 V2 V3 V4 V5 V6 q100 (zI q63 0 11) (4 : Int32) _ hq104) zc_X12_339 rfl (zE_at zd_88) ⟨_, _, rfl⟩ rfl (Nat.le_of_ble_eq_true rfl) (Nat.le_of_ble_eq_true rfl) rfl ?_
                refine zR_goto (tgt := 533) dX12_tellPart_402 (by decide) ?_
                refine zR_sub (lv' := [(0, .ref (w.1 + 88)), (1, .int x1)]) [0, 1] rfl ?_
                exact wX12_tellPart_b533 F V0 V1 V2 V3 V4 V5 V6 q103 x1 _ h
              · have h := zif_f h c102
                refine zR_if_le_f (tgt := 396) dX12_tellPart_392 (by decide) c102 ?_
                have h := Option.some.inj h
                subst h
                exact zR_ret dX12_tellPart_395 rfl
            · have h := zif_f h c97
              by_cases c105 : x1 = (5 : Int32)
              · have h := zif_t h c105
                refine zR_tabc (tgt := 405) dX12_tellPart_78 c105 rfl (by decide) ?_
                exact wX12_tellPart_b405 F V0 V1 V2 V3 V4 V5 V6 q63 x1 y67 (zI q63 0 11) _ h
              · have h := zif_f h c105
                by_cases c106 : x1 = (6 : Int32)
                · have h := zif_t h c106
                  refine zR_tabc (tgt := 120) dX12_tellPart_78 c106 rfl (by decide) ?_
                  exact wX12_tellPart_b120 F V0 V1 V2 V3 V4 V5 V6 q63 x1 y67 (zI q63 0 11) _ h
                · have h := zif_f h c106
                  refine zR_tabO (tgt := 405) dX12_tellPart_78 (by have u0 := zne c69 (n := 0) rfl; have u1 := zne c70 (n := 1) rfl; have u2 := zne c71 (n := 2) rfl; have u3 := zne c84 (n := 3) rfl; have u4 := zne c97 (n := 4) rfl; have u5 := zne c105 (n := 5) rfl; have u6 := zne c106 (n := 6) rfl; omega) (by decide) ?_
                  exact wX12_tellPart_b405 F V0 V1 V2 V3 V4 V5 V6 q63 x1 y67 (zI q63 0 11) _ h
  · have h := zif_f h c65
    refine zR_if_le_f (tgt := 57) dX12_tellPart_53 (by decide) c65 ?_
    have h := Option.some.inj h
    subst h
    exact zR_ret dX12_tellPart_56 rfl
set_option maxRecDepth 100000 in
set_option maxHeartbeats 4000000 in
theorem wX12_tellPart_b31 {w : zW} (F : Nat) (V0 V1 V2 V3 V4 V5 V6 V7 : zV) (s0 : Int32) (res : zV) (h : fX12_tellPart_b31 F V7 s0 = some res) : zR w kX12_tellPart 4 0 0 none (zE zds w [V0, V1, V2, V3, V4, V5, V6, res]) 31 [(0, .ref (w.1 + 88))] [.int s0] (zE zds w [V0, V1, V2, V3, V4, V5, V6, V7]) := by
  unfold fX12_tellPart_b31 at h
  refine zR_istore_n (lv' := [(0, .ref (w.1 + 88)), (1, .int s0)]) dX12_tellPart_31 (Nat.le_of_ble_eq_true rfl) rfl ?_
  refine zR_aload_n dX12_tellPart_32 0 rfl ?_
  refine zR_iload_n dX12_tellPart_33 1 rfl ?_
  obtain ⟨q107, hq108, h⟩ := zbd_some h
  refine zR_cV (rest := []) (st1 := [.int q107]) dX12_tellPart_34 (mX12_isFull F V0 V1 V2 V3 V4 V5 V6 V7 s0 _ hq108) zc_X12_336 rfl (zE_at zd_88) ⟨_, _, rfl⟩ rfl (Nat.le_of_ble_eq_true rfl) (Nat.le_of_ble_eq_true rfl) rfl ?_
  by_cases c109 : q107 = 0
  · have h := zif_t h c109
    refine zR_if_eq_t (tgt := 45) dX12_tellPart_37 (by decide) c109 ?_
    exact wX12_tellPart_b45 F V0 V1 V2 V3 V4 V5 V6 V7 s0 _ h
  · have h := zif_f h c109
    refine zR_if_eq_f (tgt := 45) dX12_tellPart_37 (by decide) c109 ?_
    refine zR_aload_n dX12_tellPart_40 0 rfl ?_
    refine zR_iconst (x := (2 : Int32)) dX12_tellPart_41 rfl ?_
    obtain ⟨q110, hq111, h⟩ := zbd_some h
    refine zR_cV (rest := []) (st1 := []) dX12_tellPart_42 (mX12_fail F V0 V1 V2 V3 V4 V5 V6 V7 (2 : Int32) _ hq111) zc_X12_276 rfl (zE_at zd_88) ⟨_, _, rfl⟩ rfl (Nat.le_of_ble_eq_true rfl) (Nat.le_of_ble_eq_true rfl) rfl ?_
    exact wX12_tellPart_b45 F V0 V1 V2 V3 V4 V5 V6 q110 s0 _ h
set_option maxRecDepth 100000 in
set_option maxHeartbeats 4000000 in
theorem mX12_tellPart {w : zW} (F : Nat) (V0 V1 V2 V3 V4 V5 V6 V7 : zV) (res : zV) (h : fX12_tellPart F V7 = some res) : zMet w kX12_tellPart 4 0 0 [.ref (w.1 + 88)] (zE zds w [V0, V1, V2, V3, V4, V5, V6, V7]) none (zE zds w [V0, V1, V2, V3, V4, V5, V6, res]) := by
  refine zMet_of (by decide) (Nat.le_of_ble_eq_true rfl) (Nat.le_refl 0) fun _ => ?_
  show zR w kX12_tellPart 4 0 0 none (zE zds w [V0, V1, V2, V3, V4, V5, V6, res]) 0 [(0, .ref (w.1 + 88))] [] (zE zds w [V0, V1, V2, V3, V4, V5, V6, V7])
  unfold fX12_tellPart at h
  refine zR_aload_n dX12_tellPart_0 0 rfl ?_
  refine zG_getR dX12_tellPart_1 zf_X12_20 zd_88 rfl rfl ?_
  refine zR_aload_n dX12_tellPart_4 0 rfl ?_
  refine zG_getI dX12_tellPart_5 zf_X12_264 zd_88 rfl rfl ?_
  obtain ⟨g112, h⟩ := zchk_some h
  refine zG_iald dX12_tellPart_8 zd_91 rfl rfl g112 ?_
  refine zR_bipush (x := (27 : Int32)) dX12_tellPart_9 rfl ?_
  by_cases c113 : (zA V7 3 ((zI V7 0 11)).toNatClampNeg) = (27 : Int32)
  · have h := zif_t h c113
    refine zR_icmp_ne_f (tgt := 19) dX12_tellPart_11 (by decide) c113 ?_
    refine zR_bipush (x := (6 : Int32)) dX12_tellPart_14 rfl ?_
    refine zR_goto (tgt := 31) dX12_tellPart_16 (by decide) ?_
    exact wX12_tellPart_b31 F V0 V1 V2 V3 V4 V5 V6 V7 (6 : Int32) _ h
  · have h := zif_f h c113
    refine zR_icmp_ne_t (tgt := 19) dX12_tellPart_11 (by decide) c113 ?_
    refine zR_aload_n dX12_tellPart_19 0 rfl ?_
    refine zG_getR dX12_tellPart_20 zf_X12_20 zd_88 rfl rfl ?_
    refine zR_aload_n dX12_tellPart_23 0 rfl ?_
    refine zG_getI dX12_tellPart_24 zf_X12_264 zd_88 rfl rfl ?_
    obtain ⟨g114, h⟩ := zchk_some h
    refine zG_iald dX12_tellPart_27 zd_91 rfl rfl g114 ?_
    refine zR_bipush (x := (20 : Int32)) dX12_tellPart_28 rfl ?_
    refine zR_isub dX12_tellPart_30 ?_
    exact wX12_tellPart_b31 F V0 V1 V2 V3 V4 V5 V6 V7 ((zA V7 3 ((zI V7 0 11)).toNatClampNeg) - (20 : Int32)) _ h
set_option maxRecDepth 100000 in
set_option maxHeartbeats 4000000 in
theorem mX12_emit {w : zW} (F : Nat) (V0 V1 V2 V3 V4 V5 V6 V7 : zV) (x1 : Int32) (x2 : Int32) (res : zV) (h : fX12_emit F V7 x1 x2 = some res) : zMet w kX12_emit 0 0 0 [.ref (w.1 + 88), .int x1, .int x2] (zE zds w [V0, V1, V2, V3, V4, V5, V6, V7]) none (zE zds w [V0, V1, V2, V3, V4, V5, V6, res]) := by
  refine zMet_of (by decide) (Nat.le_of_ble_eq_true rfl) (Nat.le_refl 0) fun _ => ?_
  show zR w kX12_emit 0 0 0 none (zE zds w [V0, V1, V2, V3, V4, V5, V6, res]) 0 [(0, .ref (w.1 + 88)), (1, .int x1), (2, .int x2)] [] (zE zds w [V0, V1, V2, V3, V4, V5, V6, V7])
  unfold fX12_emit at h
  refine zR_aload_n dX12_emit_0 0 rfl ?_
  refine zG_getR dX12_emit_1 zf_X12_127 zd_88 rfl rfl ?_
  refine zR_aload_n dX12_emit_4 0 rfl ?_
  refine zG_getI dX12_emit_5 zf_X12_317 zd_88 rfl rfl ?_
  refine zR_iload_n dX12_emit_8 1 rfl ?_
  obtain ⟨g1, h⟩ := zchk_some h
  obtain ⟨V7_2, e3, h⟩ := zlet_some h
  refine zG_iast zds_ok dX12_emit_9 zd_125 rfl rfl g1 e3 rfl ?_
  refine zR_aload_n dX12_emit_10 0 rfl ?_
  refine zG_getR dX12_emit_11 zf_X12_130 zd_88 rfl rfl ?_
  refine zR_aload_n dX12_emit_14 0 rfl ?_
  refine zG_getI dX12_emit_15 zf_X12_317 zd_88 rfl rfl ?_
  refine zR_iload_n dX12_emit_18 2 rfl ?_
  obtain ⟨g4, h⟩ := zchk_some h
  obtain ⟨V7_5, e6, h⟩ := zlet_some h
  refine zG_iast zds_ok dX12_emit_19 zd_126 rfl rfl g4 e6 rfl ?_
  refine zR_aload_n dX12_emit_20 0 rfl ?_
  refine zR_dup dX12_emit_21 rfl ?_
  refine zG_getI dX12_emit_22 zf_X12_317 zd_88 rfl rfl ?_
  refine zR_iconst (x := (1 : Int32)) dX12_emit_25 rfl ?_
  refine zR_iadd dX12_emit_26 ?_
  obtain ⟨V7_7, e8, h⟩ := zlet_some h
  refine zG_putI zds_ok dX12_emit_27 zf_X12_317 zt_X12_54 zd_88 rfl rfl e8 rfl ?_
  have h := Option.some.inj h
  subst h
  exact zR_ret dX12_emit_30 rfl
set_option maxRecDepth 100000 in
set_option maxHeartbeats 4000000 in
theorem wX12_comesOut_b97 {w : zW} (F : Nat) (k0 : zV → Int32 → Option (zV)) (hk0 : ∀ (V0 V1 V2 V3 V4 V5 V6 V7 : zV) (x1 : Int32) (res : zV), k0 V7 x1 = some res → zR w kX12_comesOut 1 0 0 none (zE zds w [V0, V1, V2, V3, V4, V5, V6, res]) 0 [(0, .ref (w.1 + 88)), (1, .int x1)] [] (zE zds w [V0, V1, V2, V3, V4, V5, V6, V7])) (V0 V1 V2 V3 V4 V5 V6 V7 : zV) (x1 : Int32) (s1 : Int32) (res : zV) (h : fX12_comesOut_b97 F k0 V7 x1 s1 = some res) : zR w kX12_comesOut 1 0 0 none (zE zds w [V0, V1, V2, V3, V4, V5, V6, res]) 97 [(0, .ref (w.1 + 88)), (1, .int x1)] [.int s1, .ref (w.1 + 88)] (zE zds w [V0, V1, V2, V3, V4, V5, V6, V7]) := by
  unfold fX12_comesOut_b97 at h
  refine zR_iconst (x := (0 : Int32)) dX12_comesOut_97 rfl ?_
  obtain ⟨q1, hq2, h⟩ := zbd_some h
  refine zR_cV (rest := []) (st1 := []) dX12_comesOut_98 (mX12_emit F V0 V1 V2 V3 V4 V5 V6 V7 s1 (0 : Int32) _ hq2) zc_X12_360 rfl (zE_at zd_88) ⟨_, _, rfl⟩ rfl (Nat.le_of_ble_eq_true rfl) (Nat.le_of_ble_eq_true rfl) rfl ?_
  refine zR_goto (tgt := 0) dX12_comesOut_101 (by decide) ?_
  exact hk0 V0 V1 V2 V3 V4 V5 V6 q1 x1 _ h
set_option maxRecDepth 100000 in
set_option maxHeartbeats 4000000 in
theorem wX12_comesOut_b43 {w : zW} (F : Nat) (k0 : zV → Int32 → Option (zV)) (hk0 : ∀ (V0 V1 V2 V3 V4 V5 V6 V7 : zV) (x1 : Int32) (res : zV), k0 V7 x1 = some res → zR w kX12_comesOut 1 0 0 none (zE zds w [V0, V1, V2, V3, V4, V5, V6, res]) 0 [(0, .ref (w.1 + 88)), (1, .int x1)] [] (zE zds w [V0, V1, V2, V3, V4, V5, V6, V7])) (V0 V1 V2 V3 V4 V5 V6 V7 : zV) (x1 : Int32) (res : zV) (h : fX12_comesOut_b43 F k0 V7 x1 = some res) : zR w kX12_comesOut 1 0 0 none (zE zds w [V0, V1, V2, V3, V4, V5, V6, res]) 43 [(0, .ref (w.1 + 88)), (1, .int x1)] [] (zE zds w [V0, V1, V2, V3, V4, V5, V6, V7]) := by
  unfold fX12_comesOut_b43 at h
  refine zR_aload_n dX12_comesOut_43 0 rfl ?_
  refine zR_dup dX12_comesOut_44 rfl ?_
  refine zG_getI dX12_comesOut_45 zf_X12_357 zd_88 rfl rfl ?_
  refine zR_iconst (x := (1 : Int32)) dX12_comesOut_48 rfl ?_
  refine zR_isub dX12_comesOut_49 ?_
  obtain ⟨V7_3, e4, h⟩ := zlet_some h
  refine zG_putI zds_ok dX12_comesOut_50 zf_X12_357 zt_X12_58 zd_88 rfl rfl e4 rfl ?_
  refine zR_aload_n dX12_comesOut_53 0 rfl ?_
  refine zG_getR dX12_comesOut_54 zf_X12_133 zd_88 rfl rfl ?_
  refine zR_aload_n dX12_comesOut_57 0 rfl ?_
  refine zG_getI dX12_comesOut_58 zf_X12_357 zd_88 rfl rfl ?_
  obtain ⟨g5, h⟩ := zchk_some h
  refine zG_iald dX12_comesOut_61 zd_127 rfl rfl g5 ?_
  obtain ⟨y6, e7, h⟩ := zlet_some h
  refine zR_nmI e7 ?_
  refine zR_istore_n (lv' := [(0, .ref (w.1 + 88)), (1, .int x1), (2, .int y6)]) dX12_comesOut_62 (Nat.le_of_ble_eq_true rfl) rfl ?_
  refine zR_aload_n dX12_comesOut_63 0 rfl ?_
  refine zR_iload_n dX12_comesOut_64 2 rfl ?_
  refine zR_bipush (x := (9 : Int32)) dX12_comesOut_65 rfl ?_
  by_cases c8 : y6 = (9 : Int32)
  · have h := zif_t h c8
    refine zR_icmp_ne_f (tgt := 74) dX12_comesOut_67 (by decide) c8 ?_
    refine zR_iconst (x := (4 : Int32)) dX12_comesOut_70 rfl ?_
    refine zR_goto (tgt := 97) dX12_comesOut_71 (by decide) ?_
    refine zR_sub (lv' := [(0, .ref (w.1 + 88)), (1, .int x1)]) [0, 1] rfl ?_
    exact wX12_comesOut_b97 F k0 hk0 V0 V1 V2 V3 V4 V5 V6 V7_3 x1 (4 : Int32) _ h
  · have h := zif_f h c8
    refine zR_icmp_ne_t (tgt := 74) dX12_comesOut_67 (by decide) c8 ?_
    refine zR_iload_n dX12_comesOut_74 2 rfl ?_
    refine zR_bipush (x := (10 : Int32)) dX12_comesOut_75 rfl ?_
    by_cases c9 : y6 = (10 : Int32)
    · have h := zif_t h c9
      refine zR_icmp_ne_f (tgt := 84) dX12_comesOut_77 (by decide) c9 ?_
      refine zR_iconst (x := (5 : Int32)) dX12_comesOut_80 rfl ?_
      refine zR_goto (tgt := 97) dX12_comesOut_81 (by decide) ?_
      refine zR_sub (lv' := [(0, .ref (w.1 + 88)), (1, .int x1)]) [0, 1] rfl ?_
      exact wX12_comesOut_b97 F k0 hk0 V0 V1 V2 V3 V4 V5 V6 V7_3 x1 (5 : Int32) _ h
    · have h := zif_f h c9
      refine zR_icmp_ne_t (tgt := 84) dX12_comesOut_77 (by decide) c9 ?_
      refine zR_iload_n dX12_comesOut_84 2 rfl ?_
      refine zR_bipush (x := (11 : Int32)) dX12_comesOut_85 rfl ?_
      by_cases c10 : y6 = (11 : Int32)
      · have h := zif_t h c10
        refine zR_icmp_ne_f (tgt := 95) dX12_comesOut_87 (by decide) c10 ?_
        refine zR_bipush (x := (6 : Int32)) dX12_comesOut_90 rfl ?_
        refine zR_goto (tgt := 97) dX12_comesOut_92 (by decide) ?_
        refine zR_sub (lv' := [(0, .ref (w.1 + 88)), (1, .int x1)]) [0, 1] rfl ?_
        exact wX12_comesOut_b97 F k0 hk0 V0 V1 V2 V3 V4 V5 V6 V7_3 x1 (6 : Int32) _ h
      · have h := zif_f h c10
        refine zR_icmp_ne_t (tgt := 95) dX12_comesOut_87 (by decide) c10 ?_
        refine zR_bipush (x := (7 : Int32)) dX12_comesOut_95 rfl ?_
        refine zR_sub (lv' := [(0, .ref (w.1 + 88)), (1, .int x1)]) [0, 1] rfl ?_
        exact wX12_comesOut_b97 F k0 hk0 V0 V1 V2 V3 V4 V5 V6 V7_3 x1 (7 : Int32) _ h
set_option maxRecDepth 100000 in
set_option maxHeartbeats 4000000 in
theorem wX12_comesOut_l0 {w : zW} (F : Nat) : ∀ (n : Nat) (V0 V1 V2 V3 V4 V5 V6 V7 : zV) (x1 : Int32) (res : zV), fX12_comesOut_l0 F n V7 x1 = some res → zR w kX12_comesOut 1 0 0 none (zE zds w [V0, V1, V2, V3, V4, V5, V6, res]) 0 [(0, .ref (w.1 + 88)), (1, .int x1)] [] (zE zds w [V0, V1, V2, V3, V4, V5, V6, V7]) := by
  intro n
  induction n with
  | zero =>
    intro V0 V1 V2 V3 V4 V5 V6 V7 x1 res h
    simp [fX12_comesOut_l0] at h
  | succ n ih =>
    intro V0 V1 V2 V3 V4 V5 V6 V7 x1 res h
    rw [fX12_comesOut_l0] at h
    refine zR_aload_n dX12_comesOut_0 0 rfl ?_
    refine zG_getI dX12_comesOut_1 zf_X12_357 zd_88 rfl rfl ?_
    by_cases c11 : (zI V7 0 58) ≤ 0
    · have h := zif_t h c11
      refine zR_if_le_t (tgt := 104) dX12_comesOut_4 (by decide) c11 ?_
      have h := Option.some.inj h
      subst h
      exact zR_ret dX12_comesOut_104 rfl
    · have h := zif_f h c11
      refine zR_if_le_f (tgt := 104) dX12_comesOut_4 (by decide) c11 ?_
      refine zR_aload_n dX12_comesOut_7 0 rfl ?_
      refine zG_getR dX12_comesOut_8 zf_X12_133 zd_88 rfl rfl ?_
      refine zR_aload_n dX12_comesOut_11 0 rfl ?_
      refine zG_getI dX12_comesOut_12 zf_X12_357 zd_88 rfl rfl ?_
      refine zR_iconst (x := (1 : Int32)) dX12_comesOut_15 rfl ?_
      refine zR_isub dX12_comesOut_16 ?_
      obtain ⟨g12, h⟩ := zchk_some h
      refine zG_iald dX12_comesOut_17 zd_127 rfl rfl g12 ?_
      refine zR_bipush (x := (7 : Int32)) dX12_comesOut_18 rfl ?_
      by_cases c13 : (zA V7 39 (((zI V7 0 58) - (1 : Int32))).toNatClampNeg) = (7 : Int32)
      · have h := zif_t h c13
        refine zR_icmp_eq_t (tgt := 104) dX12_comesOut_20 (by decide) c13 ?_
        have h := Option.some.inj h
        subst h
        exact zR_ret dX12_comesOut_104 rfl
      · have h := zif_f h c13
        refine zR_icmp_eq_f (tgt := 104) dX12_comesOut_20 (by decide) c13 ?_
        refine zR_iload_n dX12_comesOut_23 1 rfl ?_
        by_cases c14 : x1 = 0
        · have h := zif_t h c14
          refine zR_if_eq_t (tgt := 43) dX12_comesOut_24 (by decide) c14 ?_
          exact wX12_comesOut_b43 F (fX12_comesOut_l0 F n) ih V0 V1 V2 V3 V4 V5 V6 V7 x1 _ h
        · have h := zif_f h c14
          refine zR_if_eq_f (tgt := 43) dX12_comesOut_24 (by decide) c14 ?_
          refine zR_aload_n dX12_comesOut_27 0 rfl ?_
          refine zG_getR dX12_comesOut_28 zf_X12_133 zd_88 rfl rfl ?_
          refine zR_aload_n dX12_comesOut_31 0 rfl ?_
          refine zG_getI dX12_comesOut_32 zf_X12_357 zd_88 rfl rfl ?_
          refine zR_iconst (x := (1 : Int32)) dX12_comesOut_35 rfl ?_
          refine zR_isub dX12_comesOut_36 ?_
          obtain ⟨g15, h⟩ := zchk_some h
          refine zG_iald dX12_comesOut_37 zd_127 rfl rfl g15 ?_
          refine zR_bipush (x := (11 : Int32)) dX12_comesOut_38 rfl ?_
          by_cases c16 : (zA V7 39 (((zI V7 0 58) - (1 : Int32))).toNatClampNeg) = (11 : Int32)
          · have h := zif_t h c16
            refine zR_icmp_ne_f (tgt := 104) dX12_comesOut_40 (by decide) c16 ?_
            exact wX12_comesOut_b43 F (fX12_comesOut_l0 F n) ih V0 V1 V2 V3 V4 V5 V6 V7 x1 _ h
          · have h := zif_f h c16
            refine zR_icmp_ne_t (tgt := 104) dX12_comesOut_40 (by decide) c16 ?_
            have h := Option.some.inj h
            subst h
            exact zR_ret dX12_comesOut_104 rfl
set_option maxRecDepth 100000 in
set_option maxHeartbeats 4000000 in
theorem mX12_comesOut {w : zW} (F : Nat) (V0 V1 V2 V3 V4 V5 V6 V7 : zV) (x1 : Int32) (res : zV) (h : fX12_comesOut F V7 x1 = some res) : zMet w kX12_comesOut 1 0 0 [.ref (w.1 + 88), .int x1] (zE zds w [V0, V1, V2, V3, V4, V5, V6, V7]) none (zE zds w [V0, V1, V2, V3, V4, V5, V6, res]) := by
  refine zMet_of (by decide) (Nat.le_of_ble_eq_true rfl) (Nat.le_refl 0) fun _ => ?_
  show zR w kX12_comesOut 1 0 0 none (zE zds w [V0, V1, V2, V3, V4, V5, V6, res]) 0 [(0, .ref (w.1 + 88)), (1, .int x1)] [] (zE zds w [V0, V1, V2, V3, V4, V5, V6, V7])
  unfold fX12_comesOut at h
  exact wX12_comesOut_l0 F F V0 V1 V2 V3 V4 V5 V6 V7 x1 _ h
set_option maxRecDepth 100000 in
set_option maxHeartbeats 4000000 in
theorem wX12_expression_b393 {w : zW} (F : Nat) (k14 : zV → Int32 → Int32 → Int32 → Option (zV)) (hk14 : ∀ (V0 V1 V2 V3 V4 V5 V6 V7 : zV) (x1 : Int32) (x2 : Int32) (x3 : Int32) (res : zV), k14 V7 x1 x2 x3 = some res → zR w kX12_expression 2 0 0 none (zE zds w [V0, V1, V2, V3, V4, V5, V6, res]) 14 [(0, .ref (w.1 + 88)), (1, .int x1), (2, .int x2), (3, .int x3)] [] (zE zds w [V0, V1, V2, V3, V4, V5, V6, V7])) (V0 V1 V2 V3 V4 V5 V6 V7 : zV) (x1 : Int32) (x2 : Int32) (x3 : Int32) (x5 : Int32) (s1 : Int32) (res : zV) (h : fX12_expression_b393 F k14 V7 x1 x2 x3 x5 s1 = some res) : zR w kX12_expression 2 0 0 none (zE zds w [V0, V1, V2, V3, V4, V5, V6, res]) 393 [(0, .ref (w.1 + 88)), (1, .int x1), (2, .int x2), (3, .int x3), (5, .int x5)] [.int s1, .ref (w.1 + 88)] (zE zds w [V0, V1, V2, V3, V4, V5, V6, V7]) := by
  unfold fX12_expression_b393 at h
  obtain ⟨q1, hq2, h⟩ := zbd_some h
  refine zR_cV (rest := []) (st1 := []) dX12_expression_393 (mX12_comesOut F V0 V1 V2 V3 V4 V5 V6 V7 s1 _ hq2) zc_X12_363 rfl (zE_at zd_88) ⟨_, _, rfl⟩ rfl (Nat.le_of_ble_eq_true rfl) (Nat.le_of_ble_eq_true rfl) rfl ?_
  refine zR_aload_n dX12_expression_396 0 rfl ?_
  refine zG_getR dX12_expression_397 zf_X12_133 zd_88 rfl rfl ?_
  refine zR_aload_n dX12_expression_400 0 rfl ?_
  refine zG_getI dX12_expression_401 zf_X12_357 zd_88 rfl rfl ?_
  refine zR_iload dX12_expression_404 4 rfl ?_
  obtain ⟨g3, h⟩ := zchk_some h
  obtain ⟨V7_4, e5, h⟩ := zlet_some h
  refine zG_iast zds_ok dX12_expression_406 zd_127 rfl rfl g3 e5 rfl ?_
  refine zR_aload_n dX12_expression_407 0 rfl ?_
  refine zR_dup dX12_expression_408 rfl ?_
  refine zG_getI dX12_expression_409 zf_X12_357 zd_88 rfl rfl ?_
  refine zR_iconst (x := (1 : Int32)) dX12_expression_412 rfl ?_
  refine zR_iadd dX12_expression_413 ?_
  obtain ⟨V7_6, e7, h⟩ := zlet_some h
  refine zG_putI zds_ok dX12_expression_414 zf_X12_357 zt_X12_58 zd_88 rfl rfl e7 rfl ?_
  refine zR_aload_n dX12_expression_417 0 rfl ?_
  obtain ⟨q8, hq9, h⟩ := zbd_some h
  refine zR_cV (rest := []) (st1 := []) dX12_expression_418 (mX12_next F V0 V1 V2 V3 V4 V5 V6 V7_6 _ hq9) zc_X12_282 rfl (zE_at zd_88) ⟨_, _, rfl⟩ rfl (Nat.le_of_ble_eq_true rfl) (Nat.le_of_ble_eq_true rfl) rfl ?_
  refine zR_goto (tgt := 14) dX12_expression_421 (by decide) ?_
  refine zR_sub (lv' := [(0, .ref (w.1 + 88)), (1, .int x1), (2, .int x2), (3, .int x3)]) [0, 1, 2, 3] rfl ?_
  exact hk14 V0 V1 V2 V3 V4 V5 V6 q8 x1 x2 x3 _ h
set_option maxRecDepth 100000 in
set_option maxHeartbeats 4000000 in
theorem wX12_expression_b363 {w : zW} (F : Nat) (V0 V1 V2 V3 V4 V5 V6 V7 : zV) (res : zV) (h : fX12_expression_b363 F V7 = some res) : zR w kX12_expression 2 0 0 none (zE zds w [V0, V1, V2, V3, V4, V5, V6, res]) 363 [(0, .ref (w.1 + 88))] [] (zE zds w [V0, V1, V2, V3, V4, V5, V6, V7]) := by
  unfold fX12_expression_b363 at h
  refine zR_aload_n dX12_expression_363 0 rfl ?_
  refine zR_iconst (x := (0 : Int32)) dX12_expression_364 rfl ?_
  obtain ⟨q10, hq11, h⟩ := zbd_some h
  refine zR_cV (rest := []) (st1 := []) dX12_expression_365 (mX12_comesOut F V0 V1 V2 V3 V4 V5 V6 V7 (0 : Int32) _ hq11) zc_X12_363 rfl (zE_at zd_88) ⟨_, _, rfl⟩ rfl (Nat.le_of_ble_eq_true rfl) (Nat.le_of_ble_eq_true rfl) rfl ?_
  have h := Option.some.inj h
  subst h
  exact zR_ret dX12_expression_368 rfl
set_option maxRecDepth 100000 in
set_option maxHeartbeats 4000000 in
theorem wX12_expression_b345 {w : zW} (F : Nat) (k14 : zV → Int32 → Int32 → Int32 → Option (zV)) (hk14 : ∀ (V0 V1 V2 V3 V4 V5 V6 V7 : zV) (x1 : Int32) (x2 : Int32) (x3 : Int32) (res : zV), k14 V7 x1 x2 x3 = some res → zR w kX12_expression 2 0 0 none (zE zds w [V0, V1, V2, V3, V4, V5, V6, res]) 14 [(0, .ref (w.1 + 88)), (1, .int x1), (2, .int x2), (3, .int x3)] [] (zE zds w [V0, V1, V2, V3, V4, V5, V6, V7])) (V0 V1 V2 V3 V4 V5 V6 V7 : zV) (x1 : Int32) (x2 : Int32) (s0 : Int32) (res : zV) (h : fX12_expression_b345 F k14 V7 x1 x2 s0 = some res) : zR w kX12_expression 2 0 0 none (zE zds w [V0, V1, V2, V3, V4, V5, V6, res]) 345 [(0, .ref (w.1 + 88)), (1, .int x1), (2, .int x2)] [.int s0] (zE zds w [V0, V1, V2, V3, V4, V5, V6, V7]) := by
  unfold fX12_expression_b345 at h
  refine zR_istore_n (lv' := [(0, .ref (w.1 + 88)), (1, .int x1), (2, .int x2), (3, .int s0)]) dX12_expression_345 (Nat.le_of_ble_eq_true rfl) rfl ?_
  refine zR_iload_n dX12_expression_346 3 rfl ?_
  by_cases c12 : s0 = 0
  · have h := zif_t h c12
    refine zR_if_ne_f (tgt := 369) dX12_expression_347 (by decide) c12 ?_
    refine zR_aload_n dX12_expression_350 0 rfl ?_
    refine zG_getI dX12_expression_351 zf_X12_305 zd_88 rfl rfl ?_
    refine zR_iload_n dX12_expression_354 1 rfl ?_
    by_cases c17 : (zI V7 0 12) ≤ x1
    · have h := zif_t h c17
      refine zR_icmp_le_t (tgt := 363) dX12_expression_355 (by decide) c17 ?_
      refine zR_sub (lv' := [(0, .ref (w.1 + 88))]) [0] rfl ?_
      exact wX12_expression_b363 F V0 V1 V2 V3 V4 V5 V6 V7 _ h
    · have h := zif_f h c17
      refine zR_icmp_le_f (tgt := 363) dX12_expression_355 (by decide) c17 ?_
      refine zR_aload_n dX12_expression_358 0 rfl ?_
      refine zR_iconst (x := (1 : Int32)) dX12_expression_359 rfl ?_
      obtain ⟨q18, hq19, h⟩ := zbd_some h
      refine zR_cV (rest := []) (st1 := []) dX12_expression_360 (mX12_fail F V0 V1 V2 V3 V4 V5 V6 V7 (1 : Int32) _ hq19) zc_X12_276 rfl (zE_at zd_88) ⟨_, _, rfl⟩ rfl (Nat.le_of_ble_eq_true rfl) (Nat.le_of_ble_eq_true rfl) rfl ?_
      refine zR_sub (lv' := [(0, .ref (w.1 + 88))]) [0] rfl ?_
      exact wX12_expression_b363 F V0 V1 V2 V3 V4 V5 V6 q18 _ h
  · have h := zif_f h c12
    refine zR_if_ne_t (tgt := 369) dX12_expression_347 (by decide) c12 ?_
    refine zR_aload_n dX12_expression_369 0 rfl ?_
    refine zG_getR dX12_expression_370 zf_X12_20 zd_88 rfl rfl ?_
    refine zR_aload_n dX12_expression_373 0 rfl ?_
    refine zG_getI dX12_expression_374 zf_X12_264 zd_88 rfl rfl ?_
    obtain ⟨g13, h⟩ := zchk_some h
    refine zG_iald dX12_expression_377 zd_91 rfl rfl g13 ?_
    obtain ⟨y14, e15, h⟩ := zlet_some h
    refine zR_nmI e15 ?_
    refine zR_istore (lv' := [(0, .ref (w.1 + 88)), (1, .int x1), (2, .int x2), (3, .int s0), (5, .int y14)]) dX12_expression_378 (Nat.le_of_ble_eq_true rfl) rfl ?_
    refine zR_aload_n dX12_expression_380 0 rfl ?_
    refine zR_iload dX12_expression_381 4 rfl ?_
    refine zR_bipush (x := (11 : Int32)) dX12_expression_383 rfl ?_
    by_cases c16 : y14 = (11 : Int32)
    · have h := zif_t h c16
      refine zR_icmp_ne_f (tgt := 392) dX12_expression_385 (by decide) c16 ?_
      refine zR_iconst (x := (1 : Int32)) dX12_expression_388 rfl ?_
      refine zR_goto (tgt := 393) dX12_expression_389 (by decide) ?_
      exact wX12_expression_b393 F k14 hk14 V0 V1 V2 V3 V4 V5 V6 V7 x1 x2 s0 y14 (1 : Int32) _ h
    · have h := zif_f h c16
      refine zR_icmp_ne_t (tgt := 392) dX12_expression_385 (by decide) c16 ?_
      refine zR_iconst (x := (0 : Int32)) dX12_expression_392 rfl ?_
      exact wX12_expression_b393 F k14 hk14 V0 V1 V2 V3 V4 V5 V6 V7 x1 x2 s0 y14 (0 : Int32) _ h
set_option maxRecDepth 100000 in
set_option maxHeartbeats 4000000 in
theorem wX12_expression_b340 {w : zW} (F : Nat) (k14 : zV → Int32 → Int32 → Int32 → Option (zV)) (hk14 : ∀ (V0 V1 V2 V3 V4 V5 V6 V7 : zV) (x1 : Int32) (x2 : Int32) (x3 : Int32) (res : zV), k14 V7 x1 x2 x3 = some res → zR w kX12_expression 2 0 0 none (zE zds w [V0, V1, V2, V3, V4, V5, V6, res]) 14 [(0, .ref (w.1 + 88)), (1, .int x1), (2, .int x2), (3, .int x3)] [] (zE zds w [V0, V1, V2, V3, V4, V5, V6, V7])) (V0 V1 V2 V3 V4 V5 V6 V7 : zV) (x1 : Int32) (x2 : Int32) (res : zV) (h : fX12_expression_b340 F k14 V7 x1 x2 = some res) : zR w kX12_expression 2 0 0 none (zE zds w [V0, V1, V2, V3, V4, V5, V6, res]) 340 [(0, .ref (w.1 + 88)), (1, .int x1), (2, .int x2)] [] (zE zds w [V0, V1, V2, V3, V4, V5, V6, V7]) := by
  unfold fX12_expression_b340 at h
  refine zR_iconst (x := (1 : Int32)) dX12_expression_340 rfl ?_
  refine zR_goto (tgt := 345) dX12_expression_341 (by decide) ?_
  exact wX12_expression_b345 F k14 hk14 V0 V1 V2 V3 V4 V5 V6 V7 x1 x2 (1 : Int32) _ h
set_option maxRecDepth 100000 in
set_option maxHeartbeats 4000000 in
theorem wX12_expression_b313 {w : zW} (F : Nat) (k14 : zV → Int32 → Int32 → Int32 → Option (zV)) (hk14 : ∀ (V0 V1 V2 V3 V4 V5 V6 V7 : zV) (x1 : Int32) (x2 : Int32) (x3 : Int32) (res : zV), k14 V7 x1 x2 x3 = some res → zR w kX12_expression 2 0 0 none (zE zds w [V0, V1, V2, V3, V4, V5, V6, res]) 14 [(0, .ref (w.1 + 88)), (1, .int x1), (2, .int x2), (3, .int x3)] [] (zE zds w [V0, V1, V2, V3, V4, V5, V6, V7])) (V0 V1 V2 V3 V4 V5 V6 V7 : zV) (x1 : Int32) (x2 : Int32) (res : zV) (h : fX12_expression_b313 F k14 V7 x1 x2 = some res) : zR w kX12_expression 2 0 0 none (zE zds w [V0, V1, V2, V3, V4, V5, V6, res]) 313 [(0, .ref (w.1 + 88)), (1, .int x1), (2, .int x2)] [] (zE zds w [V0, V1, V2, V3, V4, V5, V6, V7]) := by
  unfold fX12_expression_b313 at h
  refine zR_aload_n dX12_expression_313 0 rfl ?_
  refine zR_bipush (x := (9 : Int32)) dX12_expression_314 rfl ?_
  obtain ⟨q20, hq21, h⟩ := zbd_some h
  refine zR_cV (rest := []) (st1 := [.int q20]) dX12_expression_316 (mX12_is F V0 V1 V2 V3 V4 V5 V6 V7 (9 : Int32) _ hq21) zc_X12_279 rfl (zE_at zd_88) ⟨_, _, rfl⟩ rfl (Nat.le_of_ble_eq_true rfl) (Nat.le_of_ble_eq_true rfl) rfl ?_
  by_cases c22 : q20 = 0
  · have h := zif_t h c22
    refine zR_if_ne_f (tgt := 340) dX12_expression_319 (by decide) c22 ?_
    refine zR_aload_n dX12_expression_322 0 rfl ?_
    refine zR_bipush (x := (10 : Int32)) dX12_expression_323 rfl ?_
    obtain ⟨q23, hq24, h⟩ := zbd_some h
    refine zR_cV (rest := []) (st1 := [.int q23]) dX12_expression_325 (mX12_is F V0 V1 V2 V3 V4 V5 V6 V7 (10 : Int32) _ hq24) zc_X12_279 rfl (zE_at zd_88) ⟨_, _, rfl⟩ rfl (Nat.le_of_ble_eq_true rfl) (Nat.le_of_ble_eq_true rfl) rfl ?_
    by_cases c25 : q23 = 0
    · have h := zif_t h c25
      refine zR_if_ne_f (tgt := 340) dX12_expression_328 (by decide) c25 ?_
      refine zR_aload_n dX12_expression_331 0 rfl ?_
      refine zR_bipush (x := (11 : Int32)) dX12_expression_332 rfl ?_
      obtain ⟨q26, hq27, h⟩ := zbd_some h
      refine zR_cV (rest := []) (st1 := [.int q26]) dX12_expression_334 (mX12_is F V0 V1 V2 V3 V4 V5 V6 V7 (11 : Int32) _ hq27) zc_X12_279 rfl (zE_at zd_88) ⟨_, _, rfl⟩ rfl (Nat.le_of_ble_eq_true rfl) (Nat.le_of_ble_eq_true rfl) rfl ?_
      by_cases c28 : q26 = 0
      · have h := zif_t h c28
        refine zR_if_eq_t (tgt := 344) dX12_expression_337 (by decide) c28 ?_
        refine zR_iconst (x := (0 : Int32)) dX12_expression_344 rfl ?_
        exact wX12_expression_b345 F k14 hk14 V0 V1 V2 V3 V4 V5 V6 V7 x1 x2 (0 : Int32) _ h
      · have h := zif_f h c28
        refine zR_if_eq_f (tgt := 344) dX12_expression_337 (by decide) c28 ?_
        exact wX12_expression_b340 F k14 hk14 V0 V1 V2 V3 V4 V5 V6 V7 x1 x2 _ h
    · have h := zif_f h c25
      refine zR_if_ne_t (tgt := 340) dX12_expression_328 (by decide) c25 ?_
      exact wX12_expression_b340 F k14 hk14 V0 V1 V2 V3 V4 V5 V6 V7 x1 x2 _ h
  · have h := zif_f h c22
    refine zR_if_ne_t (tgt := 340) dX12_expression_319 (by decide) c22 ?_
    exact wX12_expression_b340 F k14 hk14 V0 V1 V2 V3 V4 V5 V6 V7 x1 x2 _ h
set_option maxRecDepth 100000 in
set_option maxHeartbeats 4000000 in
theorem wX12_expression_l264 {w : zW} (F : Nat) (k14 : zV → Int32 → Int32 → Int32 → Option (zV)) (hk14 : ∀ (V0 V1 V2 V3 V4 V5 V6 V7 : zV) (x1 : Int32) (x2 : Int32) (x3 : Int32) (res : zV), k14 V7 x1 x2 x3 = some res → zR w kX12_expression 2 0 0 none (zE zds w [V0, V1, V2, V3, V4, V5, V6, res]) 14 [(0, .ref (w.1 + 88)), (1, .int x1), (2, .int x2), (3, .int x3)] [] (zE zds w [V0, V1, V2, V3, V4, V5, V6, V7])) : ∀ (n : Nat) (V0 V1 V2 V3 V4 V5 V6 V7 : zV) (x1 : Int32) (x2 : Int32) (res : zV), fX12_expression_l264 F k14 n V7 x1 x2 = some res → zR w kX12_expression 2 0 0 none (zE zds w [V0, V1, V2, V3, V4, V5, V6, res]) 264 [(0, .ref (w.1 + 88)), (1, .int x1), (2, .int x2)] [] (zE zds w [V0, V1, V2, V3, V4, V5, V6, V7]) := by
  intro n
  induction n with
  | zero =>
    intro V0 V1 V2 V3 V4 V5 V6 V7 x1 x2 res h
    simp [fX12_expression_l264] at h
  | succ n ih =>
    intro V0 V1 V2 V3 V4 V5 V6 V7 x1 x2 res h
    rw [fX12_expression_l264] at h
    refine zR_aload_n dX12_expression_264 0 rfl ?_
    refine zR_bipush (x := (8 : Int32)) dX12_expression_265 rfl ?_
    obtain ⟨q29, hq30, h⟩ := zbd_some h
    refine zR_cV (rest := []) (st1 := [.int q29]) dX12_expression_267 (mX12_is F V0 V1 V2 V3 V4 V5 V6 V7 (8 : Int32) _ hq30) zc_X12_279 rfl (zE_at zd_88) ⟨_, _, rfl⟩ rfl (Nat.le_of_ble_eq_true rfl) (Nat.le_of_ble_eq_true rfl) rfl ?_
    by_cases c31 : q29 = 0
    · have h := zif_t h c31
      refine zR_if_eq_t (tgt := 313) dX12_expression_270 (by decide) c31 ?_
      exact wX12_expression_b313 F k14 hk14 V0 V1 V2 V3 V4 V5 V6 V7 x1 x2 _ h
    · have h := zif_f h c31
      refine zR_if_eq_f (tgt := 313) dX12_expression_270 (by decide) c31 ?_
      refine zR_aload_n dX12_expression_273 0 rfl ?_
      refine zG_getI dX12_expression_274 zf_X12_305 zd_88 rfl rfl ?_
      refine zR_iload_n dX12_expression_277 1 rfl ?_
      by_cases c32 : (zI V7 0 12) ≤ x1
      · have h := zif_t h c32
        refine zR_icmp_le_t (tgt := 313) dX12_expression_278 (by decide) c32 ?_
        exact wX12_expression_b313 F k14 hk14 V0 V1 V2 V3 V4 V5 V6 V7 x1 x2 _ h
      · have h := zif_f h c32
        refine zR_icmp_le_f (tgt := 313) dX12_expression_278 (by decide) c32 ?_
        refine zR_aload_n dX12_expression_281 0 rfl ?_
        refine zR_iconst (x := (0 : Int32)) dX12_expression_282 rfl ?_
        obtain ⟨q33, hq34, h⟩ := zbd_some h
        refine zR_cV (rest := []) (st1 := []) dX12_expression_283 (mX12_comesOut F V0 V1 V2 V3 V4 V5 V6 V7 (0 : Int32) _ hq34) zc_X12_363 rfl (zE_at zd_88) ⟨_, _, rfl⟩ rfl (Nat.le_of_ble_eq_true rfl) (Nat.le_of_ble_eq_true rfl) rfl ?_
        refine zR_aload_n dX12_expression_286 0 rfl ?_
        refine zR_dup dX12_expression_287 rfl ?_
        refine zG_getI dX12_expression_288 zf_X12_357 zd_88 rfl rfl ?_
        refine zR_iconst (x := (1 : Int32)) dX12_expression_291 rfl ?_
        refine zR_isub dX12_expression_292 ?_
        obtain ⟨V7_35, e36, h⟩ := zlet_some h
        refine zG_putI zds_ok dX12_expression_293 zf_X12_357 zt_X12_58 zd_88 rfl rfl e36 rfl ?_
        refine zR_aload_n dX12_expression_296 0 rfl ?_
        refine zR_dup dX12_expression_297 rfl ?_
        refine zG_getI dX12_expression_298 zf_X12_305 zd_88 rfl rfl ?_
        refine zR_iconst (x := (1 : Int32)) dX12_expression_301 rfl ?_
        refine zR_isub dX12_expression_302 ?_
        obtain ⟨V7_37, e38, h⟩ := zlet_some h
        refine zG_putI zds_ok dX12_expression_303 zf_X12_305 zt_X12_12 zd_88 rfl rfl e38 rfl ?_
        refine zR_aload_n dX12_expression_306 0 rfl ?_
        obtain ⟨q39, hq40, h⟩ := zbd_some h
        refine zR_cV (rest := []) (st1 := []) dX12_expression_307 (mX12_next F V0 V1 V2 V3 V4 V5 V6 V7_37 _ hq40) zc_X12_282 rfl (zE_at zd_88) ⟨_, _, rfl⟩ rfl (Nat.le_of_ble_eq_true rfl) (Nat.le_of_ble_eq_true rfl) rfl ?_
        refine zR_goto (tgt := 264) dX12_expression_310 (by decide) ?_
        exact ih V0 V1 V2 V3 V4 V5 V6 q39 x1 x2 _ h
set_option maxRecDepth 100000 in
set_option maxHeartbeats 4000000 in
theorem wX12_expression_b260 {w : zW} (F : Nat) (k14 : zV → Int32 → Int32 → Int32 → Option (zV)) (hk14 : ∀ (V0 V1 V2 V3 V4 V5 V6 V7 : zV) (x1 : Int32) (x2 : Int32) (x3 : Int32) (res : zV), k14 V7 x1 x2 x3 = some res → zR w kX12_expression 2 0 0 none (zE zds w [V0, V1, V2, V3, V4, V5, V6, res]) 14 [(0, .ref (w.1 + 88)), (1, .int x1), (2, .int x2), (3, .int x3)] [] (zE zds w [V0, V1, V2, V3, V4, V5, V6, V7])) (V0 V1 V2 V3 V4 V5 V6 V7 : zV) (x1 : Int32) (x2 : Int32) (res : zV) (h : fX12_expression_b260 F k14 V7 x1 x2 = some res) : zR w kX12_expression 2 0 0 none (zE zds w [V0, V1, V2, V3, V4, V5, V6, res]) 260 [(0, .ref (w.1 + 88)), (1, .int x1), (2, .int x2)] [] (zE zds w [V0, V1, V2, V3, V4, V5, V6, V7]) := by
  unfold fX12_expression_b260 at h
  refine zR_aload_n dX12_expression_260 0 rfl ?_
  obtain ⟨q41, hq42, h⟩ := zbd_some h
  refine zR_cV (rest := []) (st1 := []) dX12_expression_261 (mX12_next F V0 V1 V2 V3 V4 V5 V6 V7 _ hq42) zc_X12_282 rfl (zE_at zd_88) ⟨_, _, rfl⟩ rfl (Nat.le_of_ble_eq_true rfl) (Nat.le_of_ble_eq_true rfl) rfl ?_
  exact wX12_expression_l264 F k14 hk14 F V0 V1 V2 V3 V4 V5 V6 q41 x1 x2 _ h
set_option maxRecDepth 100000 in
set_option maxHeartbeats 4000000 in
theorem wX12_expression_b256 {w : zW} (F : Nat) (k14 : zV → Int32 → Int32 → Int32 → Option (zV)) (hk14 : ∀ (V0 V1 V2 V3 V4 V5 V6 V7 : zV) (x1 : Int32) (x2 : Int32) (x3 : Int32) (res : zV), k14 V7 x1 x2 x3 = some res → zR w kX12_expression 2 0 0 none (zE zds w [V0, V1, V2, V3, V4, V5, V6, res]) 14 [(0, .ref (w.1 + 88)), (1, .int x1), (2, .int x2), (3, .int x3)] [] (zE zds w [V0, V1, V2, V3, V4, V5, V6, V7])) (V0 V1 V2 V3 V4 V5 V6 V7 : zV) (x1 : Int32) (x2 : Int32) (s1 : Int32) (res : zV) (h : fX12_expression_b256 F k14 V7 x1 x2 s1 = some res) : zR w kX12_expression 2 0 0 none (zE zds w [V0, V1, V2, V3, V4, V5, V6, res]) 256 [(0, .ref (w.1 + 88)), (1, .int x1), (2, .int x2)] [.int s1, .ref (w.1 + 88)] (zE zds w [V0, V1, V2, V3, V4, V5, V6, V7]) := by
  unfold fX12_expression_b256 at h
  refine zR_iconst (x := (0 : Int32)) dX12_expression_256 rfl ?_
  obtain ⟨q43, hq44, h⟩ := zbd_some h
  refine zR_cV (rest := []) (st1 := []) dX12_expression_257 (mX12_emit F V0 V1 V2 V3 V4 V5 V6 V7 s1 (0 : Int32) _ hq44) zc_X12_360 rfl (zE_at zd_88) ⟨_, _, rfl⟩ rfl (Nat.le_of_ble_eq_true rfl) (Nat.le_of_ble_eq_true rfl) rfl ?_
  exact wX12_expression_b260 F k14 hk14 V0 V1 V2 V3 V4 V5 V6 q43 x1 x2 _ h
set_option maxRecDepth 100000 in
set_option maxHeartbeats 4000000 in
theorem wX12_expression_b188 {w : zW} (F : Nat) (k14 : zV → Int32 → Int32 → Int32 → Option (zV)) (hk14 : ∀ (V0 V1 V2 V3 V4 V5 V6 V7 : zV) (x1 : Int32) (x2 : Int32) (x3 : Int32) (res : zV), k14 V7 x1 x2 x3 = some res → zR w kX12_expression 2 0 0 none (zE zds w [V0, V1, V2, V3, V4, V5, V6, res]) 14 [(0, .ref (w.1 + 88)), (1, .int x1), (2, .int x2), (3, .int x3)] [] (zE zds w [V0, V1, V2, V3, V4, V5, V6, V7])) (V0 V1 V2 V3 V4 V5 V6 V7 : zV) (x1 : Int32) (x2 : Int32) (x4 : Int32) (res : zV) (h : fX12_expression_b188 F k14 V7 x1 x2 x4 = some res) : zR w kX12_expression 2 0 0 none (zE zds w [V0, V1, V2, V3, V4, V5, V6, res]) 188 [(0, .ref (w.1 + 88)), (1, .int x1), (2, .int x2), (4, .int x4)] [] (zE zds w [V0, V1, V2, V3, V4, V5, V6, V7]) := by
  unfold fX12_expression_b188 at h
  refine zR_aload_n dX12_expression_188 0 rfl ?_
  refine zG_getI dX12_expression_189 zf_X12_261 zd_88 rfl rfl ?_
  by_cases c45 : (zI V7 0 13) ≤ 0
  · have h := zif_t h c45
    refine zR_if_le_t (tgt := 196) dX12_expression_192 (by decide) c45 ?_
    refine zR_iload dX12_expression_196 3 rfl ?_
    refine zR_iconst (x := (2 : Int32)) dX12_expression_198 rfl ?_
    by_cases c46 : x4 = (2 : Int32)
    · have h := zif_t h c46
      refine zR_icmp_ne_f (tgt := 219) dX12_expression_199 (by decide) c46 ?_
      refine zR_aload_n dX12_expression_202 0 rfl ?_
      refine zR_iconst (x := (0 : Int32)) dX12_expression_203 rfl ?_
      refine zR_aload_n dX12_expression_204 0 rfl ?_
      refine zG_getR dX12_expression_205 zf_X12_27 zd_88 rfl rfl ?_
      refine zR_aload_n dX12_expression_208 0 rfl ?_
      refine zG_getI dX12_expression_209 zf_X12_264 zd_88 rfl rfl ?_
      obtain ⟨g53, h⟩ := zchk_some h
      refine zG_iald dX12_expression_212 zd_93 rfl rfl g53 ?_
      obtain ⟨q54, hq55, h⟩ := zbd_some h
      refine zR_cV (rest := []) (st1 := []) dX12_expression_213 (mX12_emit F V0 V1 V2 V3 V4 V5 V6 V7 (0 : Int32) (zA V7 5 ((zI V7 0 11)).toNatClampNeg) _ hq55) zc_X12_360 rfl (zE_at zd_88) ⟨_, _, rfl⟩ rfl (Nat.le_of_ble_eq_true rfl) (Nat.le_of_ble_eq_true rfl) rfl ?_
      refine zR_goto (tgt := 260) dX12_expression_216 (by decide) ?_
      refine zR_sub (lv' := [(0, .ref (w.1 + 88)), (1, .int x1), (2, .int x2)]) [0, 1, 2] rfl ?_
      exact wX12_expression_b260 F k14 hk14 V0 V1 V2 V3 V4 V5 V6 q54 x1 x2 _ h
    · have h := zif_f h c46
      refine zR_icmp_ne_t (tgt := 219) dX12_expression_199 (by decide) c46 ?_
      refine zR_iload dX12_expression_219 3 rfl ?_
      refine zR_iconst (x := (1 : Int32)) dX12_expression_221 rfl ?_
      by_cases c47 : x4 = (1 : Int32)
      · have h := zif_t h c47
        refine zR_icmp_ne_f (tgt := 243) dX12_expression_222 (by decide) c47 ?_
        refine zR_aload_n dX12_expression_225 0 rfl ?_
        refine zR_iconst (x := (1 : Int32)) dX12_expression_226 rfl ?_
        refine zR_aload_n dX12_expression_227 0 rfl ?_
        refine zR_aload_n dX12_expression_228 0 rfl ?_
        refine zG_getI dX12_expression_229 zf_X12_264 zd_88 rfl rfl ?_
        refine zR_bipush (x := (6 : Int32)) dX12_expression_232 rfl ?_
        obtain ⟨q49, hq50, h⟩ := zbd_some h
        refine zR_cV (rest := [.int (1 : Int32), .ref (w.1 + 88)]) (st1 := [.int q49.1, .int (1 : Int32), .ref (w.1 + 88)]) dX12_expression_234 (mX12_named F V0 V1 V2 V3 V4 V5 V6 V7 (zI V7 0 11) (6 : Int32) _ hq50) zc_X12_295 rfl (zE_at zd_88) ⟨_, _, rfl⟩ rfl (Nat.le_of_ble_eq_true rfl) (Nat.le_of_ble_eq_true rfl) rfl ?_
        obtain ⟨q51, hq52, h⟩ := zbd_some h
        refine zR_cV (rest := []) (st1 := []) dX12_expression_237 (mX12_emit F V0 V1 V2 V3 V4 V5 V6 q49.2 (1 : Int32) q49.1 _ hq52) zc_X12_360 rfl (zE_at zd_88) ⟨_, _, rfl⟩ rfl (Nat.le_of_ble_eq_true rfl) (Nat.le_of_ble_eq_true rfl) rfl ?_
        refine zR_goto (tgt := 260) dX12_expression_240 (by decide) ?_
        refine zR_sub (lv' := [(0, .ref (w.1 + 88)), (1, .int x1), (2, .int x2)]) [0, 1, 2] rfl ?_
        exact wX12_expression_b260 F k14 hk14 V0 V1 V2 V3 V4 V5 V6 q51 x1 x2 _ h
      · have h := zif_f h c47
        refine zR_icmp_ne_t (tgt := 243) dX12_expression_222 (by decide) c47 ?_
        refine zR_aload_n dX12_expression_243 0 rfl ?_
        refine zR_iload dX12_expression_244 3 rfl ?_
        refine zR_bipush (x := (45 : Int32)) dX12_expression_246 rfl ?_
        by_cases c48 : x4 = (45 : Int32)
        · have h := zif_t h c48
          refine zR_icmp_ne_f (tgt := 255) dX12_expression_248 (by decide) c48 ?_
          refine zR_iconst (x := (2 : Int32)) dX12_expression_251 rfl ?_
          refine zR_goto (tgt := 256) dX12_expression_252 (by decide) ?_
          refine zR_sub (lv' := [(0, .ref (w.1 + 88)), (1, .int x1), (2, .int x2)]) [0, 1, 2] rfl ?_
          exact wX12_expression_b256 F k14 hk14 V0 V1 V2 V3 V4 V5 V6 V7 x1 x2 (2 : Int32) _ h
        · have h := zif_f h c48
          refine zR_icmp_ne_t (tgt := 255) dX12_expression_248 (by decide) c48 ?_
          refine zR_iconst (x := (3 : Int32)) dX12_expression_255 rfl ?_
          refine zR_sub (lv' := [(0, .ref (w.1 + 88)), (1, .int x1), (2, .int x2)]) [0, 1, 2] rfl ?_
          exact wX12_expression_b256 F k14 hk14 V0 V1 V2 V3 V4 V5 V6 V7 x1 x2 (3 : Int32) _ h
  · have h := zif_f h c45
    refine zR_if_le_f (tgt := 196) dX12_expression_192 (by decide) c45 ?_
    have h := Option.some.inj h
    subst h
    exact zR_ret dX12_expression_195 rfl
set_option maxRecDepth 100000 in
set_option maxHeartbeats 4000000 in
theorem wX12_expression_b155 {w : zW} (F : Nat) (k14 : zV → Int32 → Int32 → Int32 → Option (zV)) (hk14 : ∀ (V0 V1 V2 V3 V4 V5 V6 V7 : zV) (x1 : Int32) (x2 : Int32) (x3 : Int32) (res : zV), k14 V7 x1 x2 x3 = some res → zR w kX12_expression 2 0 0 none (zE zds w [V0, V1, V2, V3, V4, V5, V6, res]) 14 [(0, .ref (w.1 + 88)), (1, .int x1), (2, .int x2), (3, .int x3)] [] (zE zds w [V0, V1, V2, V3, V4, V5, V6, V7])) (V0 V1 V2 V3 V4 V5 V6 V7 : zV) (x1 : Int32) (x2 : Int32) (s0 : Int32) (res : zV) (h : fX12_expression_b155 F k14 V7 x1 x2 s0 = some res) : zR w kX12_expression 2 0 0 none (zE zds w [V0, V1, V2, V3, V4, V5, V6, res]) 155 [(0, .ref (w.1 + 88)), (1, .int x1), (2, .int x2)] [.int s0] (zE zds w [V0, V1, V2, V3, V4, V5, V6, V7]) := by
  unfold fX12_expression_b155 at h
  refine zR_istore (lv' := [(0, .ref (w.1 + 88)), (1, .int x1), (2, .int x2), (4, .int s0)]) dX12_expression_155 (Nat.le_of_ble_eq_true rfl) rfl ?_
  refine zR_iload dX12_expression_157 3 rfl ?_
  refine zR_iconst (x := (2 : Int32)) dX12_expression_159 rfl ?_
  by_cases c56 : s0 = (2 : Int32)
  · have h := zif_t h c56
    refine zR_icmp_eq_t (tgt := 188) dX12_expression_160 (by decide) c56 ?_
    exact wX12_expression_b188 F k14 hk14 V0 V1 V2 V3 V4 V5 V6 V7 x1 x2 s0 _ h
  · have h := zif_f h c56
    refine zR_icmp_eq_f (tgt := 188) dX12_expression_160 (by decide) c56 ?_
    refine zR_iload dX12_expression_163 3 rfl ?_
    refine zR_iconst (x := (1 : Int32)) dX12_expression_165 rfl ?_
    by_cases c57 : s0 = (1 : Int32)
    · have h := zif_t h c57
      refine zR_icmp_eq_t (tgt := 188) dX12_expression_166 (by decide) c57 ?_
      exact wX12_expression_b188 F k14 hk14 V0 V1 V2 V3 V4 V5 V6 V7 x1 x2 s0 _ h
    · have h := zif_f h c57
      refine zR_icmp_eq_f (tgt := 188) dX12_expression_166 (by decide) c57 ?_
      refine zR_iload dX12_expression_169 3 rfl ?_
      refine zR_bipush (x := (45 : Int32)) dX12_expression_171 rfl ?_
      by_cases c58 : s0 = (45 : Int32)
      · have h := zif_t h c58
        refine zR_icmp_eq_t (tgt := 188) dX12_expression_173 (by decide) c58 ?_
        exact wX12_expression_b188 F k14 hk14 V0 V1 V2 V3 V4 V5 V6 V7 x1 x2 s0 _ h
      · have h := zif_f h c58
        refine zR_icmp_eq_f (tgt := 188) dX12_expression_173 (by decide) c58 ?_
        refine zR_iload dX12_expression_176 3 rfl ?_
        refine zR_bipush (x := (46 : Int32)) dX12_expression_178 rfl ?_
        by_cases c59 : s0 = (46 : Int32)
        · have h := zif_t h c59
          refine zR_icmp_eq_t (tgt := 188) dX12_expression_180 (by decide) c59 ?_
          exact wX12_expression_b188 F k14 hk14 V0 V1 V2 V3 V4 V5 V6 V7 x1 x2 s0 _ h
        · have h := zif_f h c59
          refine zR_icmp_eq_f (tgt := 188) dX12_expression_180 (by decide) c59 ?_
          refine zR_aload_n dX12_expression_183 0 rfl ?_
          refine zR_iconst (x := (1 : Int32)) dX12_expression_184 rfl ?_
          obtain ⟨q60, hq61, h⟩ := zbd_some h
          refine zR_cV (rest := []) (st1 := []) dX12_expression_185 (mX12_fail F V0 V1 V2 V3 V4 V5 V6 V7 (1 : Int32) _ hq61) zc_X12_276 rfl (zE_at zd_88) ⟨_, _, rfl⟩ rfl (Nat.le_of_ble_eq_true rfl) (Nat.le_of_ble_eq_true rfl) rfl ?_
          exact wX12_expression_b188 F k14 hk14 V0 V1 V2 V3 V4 V5 V6 q60 x1 x2 s0 _ h
set_option maxRecDepth 100000 in
set_option maxHeartbeats 4000000 in
theorem wX12_expression_b85 {w : zW} (F : Nat) (k14 : zV → Int32 → Int32 → Int32 → Option (zV)) (hk14 : ∀ (V0 V1 V2 V3 V4 V5 V6 V7 : zV) (x1 : Int32) (x2 : Int32) (x3 : Int32) (res : zV), k14 V7 x1 x2 x3 = some res → zR w kX12_expression 2 0 0 none (zE zds w [V0, V1, V2, V3, V4, V5, V6, res]) 14 [(0, .ref (w.1 + 88)), (1, .int x1), (2, .int x2), (3, .int x3)] [] (zE zds w [V0, V1, V2, V3, V4, V5, V6, V7])) (V0 V1 V2 V3 V4 V5 V6 V7 : zV) (x1 : Int32) (x3 : Int32) (res : zV) (h : fX12_expression_b85 F k14 V7 x1 x3 = some res) : zR w kX12_expression 2 0 0 none (zE zds w [V0, V1, V2, V3, V4, V5, V6, res]) 85 [(0, .ref (w.1 + 88)), (1, .int x1), (3, .int x3)] [] (zE zds w [V0, V1, V2, V3, V4, V5, V6, V7]) := by
  unfold fX12_expression_b85 at h
  refine zR_aload_n dX12_expression_85 0 rfl ?_
  refine zG_getI dX12_expression_86 zf_X12_261 zd_88 rfl rfl ?_
  by_cases c62 : (zI V7 0 13) ≤ 0
  · have h := zif_t h c62
    refine zR_if_le_t (tgt := 93) dX12_expression_89 (by decide) c62 ?_
    refine zR_aload_n dX12_expression_93 0 rfl ?_
    refine zR_dup dX12_expression_94 rfl ?_
    refine zG_getI dX12_expression_95 zf_X12_305 zd_88 rfl rfl ?_
    refine zR_iconst (x := (1 : Int32)) dX12_expression_98 rfl ?_
    refine zR_iadd dX12_expression_99 ?_
    obtain ⟨V7_63, e64, h⟩ := zlet_some h
    refine zG_putI zds_ok dX12_expression_100 zf_X12_305 zt_X12_12 zd_88 rfl rfl e64 rfl ?_
    refine zR_aload_n dX12_expression_103 0 rfl ?_
    obtain ⟨q65, hq66, h⟩ := zbd_some h
    refine zR_cV (rest := []) (st1 := []) dX12_expression_104 (mX12_next F V0 V1 V2 V3 V4 V5 V6 V7_63 _ hq66) zc_X12_282 rfl (zE_at zd_88) ⟨_, _, rfl⟩ rfl (Nat.le_of_ble_eq_true rfl) (Nat.le_of_ble_eq_true rfl) rfl ?_
    refine zR_aload_n dX12_expression_107 0 rfl ?_
    refine zG_getR dX12_expression_108 zf_X12_133 zd_88 rfl rfl ?_
    refine zR_aload_n dX12_expression_111 0 rfl ?_
    refine zG_getI dX12_expression_112 zf_X12_357 zd_88 rfl rfl ?_
    refine zR_bipush (x := (7 : Int32)) dX12_expression_115 rfl ?_
    obtain ⟨g67, h⟩ := zchk_some h
    obtain ⟨V7_68, e69, h⟩ := zlet_some h
    refine zG_iast zds_ok dX12_expression_117 zd_127 rfl rfl g67 e69 rfl ?_
    refine zR_aload_n dX12_expression_118 0 rfl ?_
    refine zR_dup dX12_expression_119 rfl ?_
    refine zG_getI dX12_expression_120 zf_X12_357 zd_88 rfl rfl ?_
    refine zR_iconst (x := (1 : Int32)) dX12_expression_123 rfl ?_
    refine zR_iadd dX12_expression_124 ?_
    obtain ⟨V7_70, e71, h⟩ := zlet_some h
    refine zG_putI zds_ok dX12_expression_125 zf_X12_357 zt_X12_58 zd_88 rfl rfl e71 rfl ?_
    refine zR_iconst (x := (1 : Int32)) dX12_expression_128 rfl ?_
    refine zR_istore_n (lv' := [(0, .ref (w.1 + 88)), (1, .int x1), (3, .int x3), (2, .int (1 : Int32))]) dX12_expression_129 (Nat.le_of_ble_eq_true rfl) rfl ?_
    refine zR_goto (tgt := 14) dX12_expression_130 (by decide) ?_
    refine zR_sub (lv' := [(0, .ref (w.1 + 88)), (1, .int x1), (2, .int (1 : Int32)), (3, .int x3)]) [0, 1, 3, 2] rfl ?_
    exact hk14 V0 V1 V2 V3 V4 V5 V6 V7_70 x1 (1 : Int32) x3 _ h
  · have h := zif_f h c62
    refine zR_if_le_f (tgt := 93) dX12_expression_89 (by decide) c62 ?_
    have h := Option.some.inj h
    subst h
    exact zR_ret dX12_expression_92 rfl
set_option maxRecDepth 100000 in
set_option maxHeartbeats 4000000 in
theorem wX12_expression_b62 {w : zW} (F : Nat) (k14 : zV → Int32 → Int32 → Int32 → Option (zV)) (hk14 : ∀ (V0 V1 V2 V3 V4 V5 V6 V7 : zV) (x1 : Int32) (x2 : Int32) (x3 : Int32) (res : zV), k14 V7 x1 x2 x3 = some res → zR w kX12_expression 2 0 0 none (zE zds w [V0, V1, V2, V3, V4, V5, V6, res]) 14 [(0, .ref (w.1 + 88)), (1, .int x1), (2, .int x2), (3, .int x3)] [] (zE zds w [V0, V1, V2, V3, V4, V5, V6, V7])) (V0 V1 V2 V3 V4 V5 V6 V7 : zV) (x1 : Int32) (x3 : Int32) (res : zV) (h : fX12_expression_b62 F k14 V7 x1 x3 = some res) : zR w kX12_expression 2 0 0 none (zE zds w [V0, V1, V2, V3, V4, V5, V6, res]) 62 [(0, .ref (w.1 + 88)), (1, .int x1), (3, .int x3)] [] (zE zds w [V0, V1, V2, V3, V4, V5, V6, V7]) := by
  unfold fX12_expression_b62 at h
  refine zR_aload_n dX12_expression_62 0 rfl ?_
  refine zR_bipush (x := (7 : Int32)) dX12_expression_63 rfl ?_
  obtain ⟨q72, hq73, h⟩ := zbd_some h
  refine zR_cV (rest := []) (st1 := [.int q72]) dX12_expression_65 (mX12_is F V0 V1 V2 V3 V4 V5 V6 V7 (7 : Int32) _ hq73) zc_X12_279 rfl (zE_at zd_88) ⟨_, _, rfl⟩ rfl (Nat.le_of_ble_eq_true rfl) (Nat.le_of_ble_eq_true rfl) rfl ?_
  by_cases c74 : q72 = 0
  · have h := zif_t h c74
    refine zR_if_eq_t (tgt := 133) dX12_expression_68 (by decide) c74 ?_
    refine zR_iconst (x := (0 : Int32)) dX12_expression_133 rfl ?_
    refine zR_istore_n (lv' := [(0, .ref (w.1 + 88)), (1, .int x1), (3, .int x3), (2, .int (0 : Int32))]) dX12_expression_134 (Nat.le_of_ble_eq_true rfl) rfl ?_
    refine zR_aload_n dX12_expression_135 0 rfl ?_
    refine zG_getI dX12_expression_136 zf_X12_261 zd_88 rfl rfl ?_
    by_cases c75 : (zI V7 0 13) ≤ 0
    · have h := zif_t h c75
      refine zR_if_le_t (tgt := 146) dX12_expression_139 (by decide) c75 ?_
      refine zR_aload_n dX12_expression_146 0 rfl ?_
      refine zG_getR dX12_expression_147 zf_X12_20 zd_88 rfl rfl ?_
      refine zR_aload_n dX12_expression_150 0 rfl ?_
      refine zG_getI dX12_expression_151 zf_X12_264 zd_88 rfl rfl ?_
      obtain ⟨g76, h⟩ := zchk_some h
      refine zG_iald dX12_expression_154 zd_91 rfl rfl g76 ?_
      refine zR_sub (lv' := [(0, .ref (w.1 + 88)), (1, .int x1), (2, .int (0 : Int32))]) [0, 1, 3] rfl ?_
      exact wX12_expression_b155 F k14 hk14 V0 V1 V2 V3 V4 V5 V6 V7 x1 (0 : Int32) (zA V7 3 ((zI V7 0 11)).toNatClampNeg) _ h
    · have h := zif_f h c75
      refine zR_if_le_f (tgt := 146) dX12_expression_139 (by decide) c75 ?_
      refine zR_iconst (x := (3 : Int32)) dX12_expression_142 rfl ?_
      refine zR_goto (tgt := 155) dX12_expression_143 (by decide) ?_
      refine zR_sub (lv' := [(0, .ref (w.1 + 88)), (1, .int x1), (2, .int (0 : Int32))]) [0, 1, 3] rfl ?_
      exact wX12_expression_b155 F k14 hk14 V0 V1 V2 V3 V4 V5 V6 V7 x1 (0 : Int32) (3 : Int32) _ h
  · have h := zif_f h c74
    refine zR_if_eq_f (tgt := 133) dX12_expression_68 (by decide) c74 ?_
    refine zR_aload_n dX12_expression_71 0 rfl ?_
    refine zG_getI dX12_expression_72 zf_X12_305 zd_88 rfl rfl ?_
    refine zR_bipush (x := (6 : Int32)) dX12_expression_75 rfl ?_
    by_cases c77 : (zI V7 0 12) = (6 : Int32)
    · have h := zif_t h c77
      refine zR_icmp_ne_f (tgt := 85) dX12_expression_77 (by decide) c77 ?_
      refine zR_aload_n dX12_expression_80 0 rfl ?_
      refine zR_iconst (x := (2 : Int32)) dX12_expression_81 rfl ?_
      obtain ⟨q78, hq79, h⟩ := zbd_some h
      refine zR_cV (rest := []) (st1 := []) dX12_expression_82 (mX12_fail F V0 V1 V2 V3 V4 V5 V6 V7 (2 : Int32) _ hq79) zc_X12_276 rfl (zE_at zd_88) ⟨_, _, rfl⟩ rfl (Nat.le_of_ble_eq_true rfl) (Nat.le_of_ble_eq_true rfl) rfl ?_
      exact wX12_expression_b85 F k14 hk14 V0 V1 V2 V3 V4 V5 V6 q78 x1 x3 _ h
    · have h := zif_f h c77
      refine zR_icmp_ne_t (tgt := 85) dX12_expression_77 (by decide) c77 ?_
      exact wX12_expression_b85 F k14 hk14 V0 V1 V2 V3 V4 V5 V6 V7 x1 x3 _ h
set_option maxRecDepth 100000 in
set_option maxHeartbeats 4000000 in
theorem wX12_expression_l14 {w : zW} (F : Nat) : ∀ (n : Nat) (V0 V1 V2 V3 V4 V5 V6 V7 : zV) (x1 : Int32) (x2 : Int32) (x3 : Int32) (res : zV), fX12_expression_l14 F n V7 x1 x2 x3 = some res → zR w kX12_expression 2 0 0 none (zE zds w [V0, V1, V2, V3, V4, V5, V6, res]) 14 [(0, .ref (w.1 + 88)), (1, .int x1), (2, .int x2), (3, .int x3)] [] (zE zds w [V0, V1, V2, V3, V4, V5, V6, V7]) := by
  intro n
  induction n with
  | zero =>
    intro V0 V1 V2 V3 V4 V5 V6 V7 x1 x2 x3 res h
    simp [fX12_expression_l14] at h
  | succ n ih =>
    intro V0 V1 V2 V3 V4 V5 V6 V7 x1 x2 x3 res h
    rw [fX12_expression_l14] at h
    refine zR_iload_n dX12_expression_14 3 rfl ?_
    by_cases c80 : x3 = 0
    · have h := zif_t h c80
      refine zR_if_eq_t (tgt := 424) dX12_expression_15 (by decide) c80 ?_
      have h := Option.some.inj h
      subst h
      exact zR_ret dX12_expression_424 rfl
    · have h := zif_f h c80
      refine zR_if_eq_f (tgt := 424) dX12_expression_15 (by decide) c80 ?_
      refine zR_aload_n dX12_expression_18 0 rfl ?_
      refine zG_getI dX12_expression_19 zf_X12_261 zd_88 rfl rfl ?_
      by_cases c81 : (zI V7 0 13) = 0
      · have h := zif_t h c81
        refine zR_if_ne_f (tgt := 424) dX12_expression_22 (by decide) c81 ?_
        refine zR_iload_n dX12_expression_25 2 rfl ?_
        by_cases c82 : x2 = 0
        · have h := zif_t h c82
          refine zR_if_eq_t (tgt := 62) dX12_expression_26 (by decide) c82 ?_
          refine zR_sub (lv' := [(0, .ref (w.1 + 88)), (1, .int x1), (3, .int x3)]) [0, 1, 3] rfl ?_
          exact wX12_expression_b62 F (fX12_expression_l14 F n) ih V0 V1 V2 V3 V4 V5 V6 V7 x1 x3 _ h
        · have h := zif_f h c82
          refine zR_if_eq_f (tgt := 62) dX12_expression_26 (by decide) c82 ?_
          refine zR_aload_n dX12_expression_29 0 rfl ?_
          refine zR_bipush (x := (10 : Int32)) dX12_expression_30 rfl ?_
          obtain ⟨q83, hq84, h⟩ := zbd_some h
          refine zR_cV (rest := []) (st1 := [.int q83]) dX12_expression_32 (mX12_is F V0 V1 V2 V3 V4 V5 V6 V7 (10 : Int32) _ hq84) zc_X12_279 rfl (zE_at zd_88) ⟨_, _, rfl⟩ rfl (Nat.le_of_ble_eq_true rfl) (Nat.le_of_ble_eq_true rfl) rfl ?_
          by_cases c85 : q83 = 0
          · have h := zif_t h c85
            refine zR_if_eq_t (tgt := 62) dX12_expression_35 (by decide) c85 ?_
            refine zR_sub (lv' := [(0, .ref (w.1 + 88)), (1, .int x1), (3, .int x3)]) [0, 1, 3] rfl ?_
            exact wX12_expression_b62 F (fX12_expression_l14 F n) ih V0 V1 V2 V3 V4 V5 V6 V7 x1 x3 _ h
          · have h := zif_f h c85
            refine zR_if_eq_f (tgt := 62) dX12_expression_35 (by decide) c85 ?_
            refine zR_aload_n dX12_expression_38 0 rfl ?_
            obtain ⟨q86, hq87, h⟩ := zbd_some h
            refine zR_cV (rest := []) (st1 := []) dX12_expression_39 (mX12_next F V0 V1 V2 V3 V4 V5 V6 V7 _ hq87) zc_X12_282 rfl (zE_at zd_88) ⟨_, _, rfl⟩ rfl (Nat.le_of_ble_eq_true rfl) (Nat.le_of_ble_eq_true rfl) rfl ?_
            refine zR_aload_n dX12_expression_42 0 rfl ?_
            refine zG_getR dX12_expression_43 zf_X12_133 zd_88 rfl rfl ?_
            refine zR_aload_n dX12_expression_46 0 rfl ?_
            refine zG_getI dX12_expression_47 zf_X12_357 zd_88 rfl rfl ?_
            refine zR_iconst (x := (3 : Int32)) dX12_expression_50 rfl ?_
            obtain ⟨g88, h⟩ := zchk_some h
            obtain ⟨V7_89, e90, h⟩ := zlet_some h
            refine zG_iast zds_ok dX12_expression_51 zd_127 rfl rfl g88 e90 rfl ?_
            refine zR_aload_n dX12_expression_52 0 rfl ?_
            refine zR_dup dX12_expression_53 rfl ?_
            refine zG_getI dX12_expression_54 zf_X12_357 zd_88 rfl rfl ?_
            refine zR_iconst (x := (1 : Int32)) dX12_expression_57 rfl ?_
            refine zR_iadd dX12_expression_58 ?_
            obtain ⟨V7_91, e92, h⟩ := zlet_some h
            refine zG_putI zds_ok dX12_expression_59 zf_X12_357 zt_X12_58 zd_88 rfl rfl e92 rfl ?_
            refine zR_sub (lv' := [(0, .ref (w.1 + 88)), (1, .int x1), (3, .int x3)]) [0, 1, 3] rfl ?_
            exact wX12_expression_b62 F (fX12_expression_l14 F n) ih V0 V1 V2 V3 V4 V5 V6 V7_91 x1 x3 _ h
      · have h := zif_f h c81
        refine zR_if_ne_t (tgt := 424) dX12_expression_22 (by decide) c81 ?_
        have h := Option.some.inj h
        subst h
        exact zR_ret dX12_expression_424 rfl
set_option maxRecDepth 100000 in
set_option maxHeartbeats 4000000 in
theorem mX12_expression {w : zW} (F : Nat) (V0 V1 V2 V3 V4 V5 V6 V7 : zV) (res : zV) (h : fX12_expression F V7 = some res) : zMet w kX12_expression 2 0 0 [.ref (w.1 + 88)] (zE zds w [V0, V1, V2, V3, V4, V5, V6, V7]) none (zE zds w [V0, V1, V2, V3, V4, V5, V6, res]) := by
  refine zMet_of (by decide) (Nat.le_of_ble_eq_true rfl) (Nat.le_refl 0) fun _ => ?_
  show zR w kX12_expression 2 0 0 none (zE zds w [V0, V1, V2, V3, V4, V5, V6, res]) 0 [(0, .ref (w.1 + 88))] [] (zE zds w [V0, V1, V2, V3, V4, V5, V6, V7])
  unfold fX12_expression at h
  refine zR_aload_n dX12_expression_0 0 rfl ?_
  refine zR_iconst (x := (0 : Int32)) dX12_expression_1 rfl ?_
  obtain ⟨V7_93, e94, h⟩ := zlet_some h
  refine zG_putI zds_ok dX12_expression_2 zf_X12_357 zt_X12_58 zd_88 rfl rfl e94 rfl ?_
  refine zR_aload_n dX12_expression_5 0 rfl ?_
  refine zG_getI dX12_expression_6 zf_X12_305 zd_88 rfl rfl ?_
  refine zR_istore_n (lv' := [(0, .ref (w.1 + 88)), (1, .int (zI V7_93 0 12))]) dX12_expression_9 (Nat.le_of_ble_eq_true rfl) rfl ?_
  refine zR_iconst (x := (1 : Int32)) dX12_expression_10 rfl ?_
  refine zR_istore_n (lv' := [(0, .ref (w.1 + 88)), (1, .int (zI V7_93 0 12)), (2, .int (1 : Int32))]) dX12_expression_11 (Nat.le_of_ble_eq_true rfl) rfl ?_
  refine zR_iconst (x := (1 : Int32)) dX12_expression_12 rfl ?_
  refine zR_istore_n (lv' := [(0, .ref (w.1 + 88)), (1, .int (zI V7_93 0 12)), (2, .int (1 : Int32)), (3, .int (1 : Int32))]) dX12_expression_13 (Nat.le_of_ble_eq_true rfl) rfl ?_
  exact wX12_expression_l14 F F V0 V1 V2 V3 V4 V5 V6 V7_93 (zI V7_93 0 12) (1 : Int32) (1 : Int32) _ h
set_option maxRecDepth 100000 in
set_option maxHeartbeats 4000000 in
theorem wX12_relation_b54 {w : zW} (F : Nat) (V0 V1 V2 V3 V4 V5 V6 V7 : zV) (x1 : Int32) (x2 : Int32) (res : zV) (h : fX12_relation_b54 F V7 x1 x2 = some res) : zR w kX12_relation 3 0 0 none (zE zds w [V0, V1, V2, V3, V4, V5, V6, res]) 54 [(0, .ref (w.1 + 88)), (1, .int x1), (2, .int x2)] [] (zE zds w [V0, V1, V2, V3, V4, V5, V6, V7]) := by
  unfold fX12_relation_b54 at h
  refine zR_aload_n dX12_relation_54 0 rfl ?_
  obtain ⟨q1, hq2, h⟩ := zbd_some h
  refine zR_cV (rest := []) (st1 := []) dX12_relation_55 (mX12_next F V0 V1 V2 V3 V4 V5 V6 V7 _ hq2) zc_X12_282 rfl (zE_at zd_88) ⟨_, _, rfl⟩ rfl (Nat.le_of_ble_eq_true rfl) (Nat.le_of_ble_eq_true rfl) rfl ?_
  refine zR_aload_n dX12_relation_58 0 rfl ?_
  refine zG_getI dX12_relation_59 zf_X12_317 zd_88 rfl rfl ?_
  refine zR_istore_n (lv' := [(0, .ref (w.1 + 88)), (1, .int x1), (2, .int x2), (3, .int (zI q1 0 54))]) dX12_relation_62 (Nat.le_of_ble_eq_true rfl) rfl ?_
  refine zR_aload_n dX12_relation_63 0 rfl ?_
  obtain ⟨q3, hq4, h⟩ := zbd_some h
  refine zR_cV (rest := []) (st1 := []) dX12_relation_64 (mX12_expression F V0 V1 V2 V3 V4 V5 V6 q1 _ hq4) zc_X12_354 rfl (zE_at zd_88) ⟨_, _, rfl⟩ rfl (Nat.le_of_ble_eq_true rfl) (Nat.le_of_ble_eq_true rfl) rfl ?_
  refine zR_aload_n dX12_relation_67 0 rfl ?_
  refine zG_getI dX12_relation_68 zf_X12_261 zd_88 rfl rfl ?_
  by_cases c5 : (zI q3 0 13) ≤ 0
  · have h := zif_t h c5
    refine zR_if_le_t (tgt := 75) dX12_relation_71 (by decide) c5 ?_
    refine zR_aload_n dX12_relation_75 0 rfl ?_
    refine zG_getR dX12_relation_76 zf_X12_97 zd_88 rfl rfl ?_
    refine zR_aload_n dX12_relation_79 0 rfl ?_
    refine zG_getI dX12_relation_80 zf_X12_311 zd_88 rfl rfl ?_
    refine zR_iload_n dX12_relation_83 2 rfl ?_
    obtain ⟨g6, h⟩ := zchk_some h
    obtain ⟨V7_7, e8, h⟩ := zlet_some h
    refine zG_iast zds_ok dX12_relation_84 zd_115 rfl rfl g6 e8 rfl ?_
    refine zR_aload_n dX12_relation_85 0 rfl ?_
    refine zG_getR dX12_relation_86 zf_X12_100 zd_88 rfl rfl ?_
    refine zR_aload_n dX12_relation_89 0 rfl ?_
    refine zG_getI dX12_relation_90 zf_X12_311 zd_88 rfl rfl ?_
    refine zR_iload_n dX12_relation_93 1 rfl ?_
    obtain ⟨g9, h⟩ := zchk_some h
    obtain ⟨V7_10, e11, h⟩ := zlet_some h
    refine zG_iast zds_ok dX12_relation_94 zd_116 rfl rfl g9 e11 rfl ?_
    refine zR_aload_n dX12_relation_95 0 rfl ?_
    refine zG_getR dX12_relation_96 zf_X12_103 zd_88 rfl rfl ?_
    refine zR_aload_n dX12_relation_99 0 rfl ?_
    refine zG_getI dX12_relation_100 zf_X12_311 zd_88 rfl rfl ?_
    refine zR_iload_n dX12_relation_103 3 rfl ?_
    obtain ⟨g12, h⟩ := zchk_some h
    obtain ⟨V7_13, e14, h⟩ := zlet_some h
    refine zG_iast zds_ok dX12_relation_104 zd_117 rfl rfl g12 e14 rfl ?_
    refine zR_aload_n dX12_relation_105 0 rfl ?_
    refine zG_getR dX12_relation_106 zf_X12_106 zd_88 rfl rfl ?_
    refine zR_aload_n dX12_relation_109 0 rfl ?_
    refine zG_getI dX12_relation_110 zf_X12_311 zd_88 rfl rfl ?_
    refine zR_aload_n dX12_relation_113 0 rfl ?_
    refine zG_getI dX12_relation_114 zf_X12_317 zd_88 rfl rfl ?_
    obtain ⟨g15, h⟩ := zchk_some h
    obtain ⟨V7_16, e17, h⟩ := zlet_some h
    refine zG_iast zds_ok dX12_relation_117 zd_118 rfl rfl g15 e17 rfl ?_
    refine zR_aload_n dX12_relation_118 0 rfl ?_
    refine zR_dup dX12_relation_119 rfl ?_
    refine zG_getI dX12_relation_120 zf_X12_311 zd_88 rfl rfl ?_
    refine zR_iconst (x := (1 : Int32)) dX12_relation_123 rfl ?_
    refine zR_iadd dX12_relation_124 ?_
    obtain ⟨V7_18, e19, h⟩ := zlet_some h
    refine zG_putI zds_ok dX12_relation_125 zf_X12_311 zt_X12_41 zd_88 rfl rfl e19 rfl ?_
    have h := Option.some.inj h
    subst h
    exact zR_ret dX12_relation_128 rfl
  · have h := zif_f h c5
    refine zR_if_le_f (tgt := 75) dX12_relation_71 (by decide) c5 ?_
    have h := Option.some.inj h
    subst h
    exact zR_ret dX12_relation_74 rfl
set_option maxRecDepth 100000 in
set_option maxHeartbeats 4000000 in
theorem wX12_relation_b49 {w : zW} (F : Nat) (V0 V1 V2 V3 V4 V5 V6 V7 : zV) (x1 : Int32) (x2 : Int32) (res : zV) (h : fX12_relation_b49 F V7 x1 x2 = some res) : zR w kX12_relation 3 0 0 none (zE zds w [V0, V1, V2, V3, V4, V5, V6, res]) 49 [(0, .ref (w.1 + 88)), (1, .int x1), (2, .int x2)] [] (zE zds w [V0, V1, V2, V3, V4, V5, V6, V7]) := by
  unfold fX12_relation_b49 at h
  refine zR_aload_n dX12_relation_49 0 rfl ?_
  refine zR_iconst (x := (1 : Int32)) dX12_relation_50 rfl ?_
  obtain ⟨q20, hq21, h⟩ := zbd_some h
  refine zR_cV (rest := []) (st1 := []) dX12_relation_51 (mX12_fail F V0 V1 V2 V3 V4 V5 V6 V7 (1 : Int32) _ hq21) zc_X12_276 rfl (zE_at zd_88) ⟨_, _, rfl⟩ rfl (Nat.le_of_ble_eq_true rfl) (Nat.le_of_ble_eq_true rfl) rfl ?_
  exact wX12_relation_b54 F V0 V1 V2 V3 V4 V5 V6 q20 x1 x2 _ h
set_option maxRecDepth 100000 in
set_option maxHeartbeats 4000000 in
theorem wX12_relation_b32 {w : zW} (F : Nat) (V0 V1 V2 V3 V4 V5 V6 V7 : zV) (x1 : Int32) (s0 : Int32) (res : zV) (h : fX12_relation_b32 F V7 x1 s0 = some res) : zR w kX12_relation 3 0 0 none (zE zds w [V0, V1, V2, V3, V4, V5, V6, res]) 32 [(0, .ref (w.1 + 88)), (1, .int x1)] [.int s0] (zE zds w [V0, V1, V2, V3, V4, V5, V6, V7]) := by
  unfold fX12_relation_b32 at h
  refine zR_istore_n (lv' := [(0, .ref (w.1 + 88)), (1, .int x1), (2, .int s0)]) dX12_relation_32 (Nat.le_of_ble_eq_true rfl) rfl ?_
  refine zR_aload_n dX12_relation_33 0 rfl ?_
  refine zG_getI dX12_relation_34 zf_X12_261 zd_88 rfl rfl ?_
  by_cases c22 : (zI V7 0 13) = 0
  · have h := zif_t h c22
    refine zR_if_ne_f (tgt := 54) dX12_relation_37 (by decide) c22 ?_
    refine zR_iload_n dX12_relation_40 2 rfl ?_
    by_cases c23 : s0 < 0
    · have h := zif_t h c23
      refine zR_if_lt_t (tgt := 49) dX12_relation_41 (by decide) c23 ?_
      exact wX12_relation_b49 F V0 V1 V2 V3 V4 V5 V6 V7 x1 s0 _ h
    · have h := zif_f h c23
      refine zR_if_lt_f (tgt := 49) dX12_relation_41 (by decide) c23 ?_
      refine zR_iload_n dX12_relation_44 2 rfl ?_
      refine zR_iconst (x := (3 : Int32)) dX12_relation_45 rfl ?_
      by_cases c24 : s0 ≤ (3 : Int32)
      · have h := zif_t h c24
        refine zR_icmp_le_t (tgt := 54) dX12_relation_46 (by decide) c24 ?_
        exact wX12_relation_b54 F V0 V1 V2 V3 V4 V5 V6 V7 x1 s0 _ h
      · have h := zif_f h c24
        refine zR_icmp_le_f (tgt := 54) dX12_relation_46 (by decide) c24 ?_
        exact wX12_relation_b49 F V0 V1 V2 V3 V4 V5 V6 V7 x1 s0 _ h
  · have h := zif_f h c22
    refine zR_if_ne_t (tgt := 54) dX12_relation_37 (by decide) c22 ?_
    exact wX12_relation_b54 F V0 V1 V2 V3 V4 V5 V6 V7 x1 s0 _ h
set_option maxRecDepth 100000 in
set_option maxHeartbeats 4000000 in
theorem mX12_relation {w : zW} (F : Nat) (V0 V1 V2 V3 V4 V5 V6 V7 : zV) (res : zV) (h : fX12_relation F V7 = some res) : zMet w kX12_relation 3 0 0 [.ref (w.1 + 88)] (zE zds w [V0, V1, V2, V3, V4, V5, V6, V7]) none (zE zds w [V0, V1, V2, V3, V4, V5, V6, res]) := by
  refine zMet_of (by decide) (Nat.le_of_ble_eq_true rfl) (Nat.le_refl 0) fun _ => ?_
  show zR w kX12_relation 3 0 0 none (zE zds w [V0, V1, V2, V3, V4, V5, V6, res]) 0 [(0, .ref (w.1 + 88))] [] (zE zds w [V0, V1, V2, V3, V4, V5, V6, V7])
  unfold fX12_relation at h
  refine zR_aload_n dX12_relation_0 0 rfl ?_
  refine zG_getI dX12_relation_1 zf_X12_317 zd_88 rfl rfl ?_
  refine zR_istore_n (lv' := [(0, .ref (w.1 + 88)), (1, .int (zI V7 0 54))]) dX12_relation_4 (Nat.le_of_ble_eq_true rfl) rfl ?_
  refine zR_aload_n dX12_relation_5 0 rfl ?_
  obtain ⟨q25, hq26, h⟩ := zbd_some h
  refine zR_cV (rest := []) (st1 := []) dX12_relation_6 (mX12_expression F V0 V1 V2 V3 V4 V5 V6 V7 _ hq26) zc_X12_354 rfl (zE_at zd_88) ⟨_, _, rfl⟩ rfl (Nat.le_of_ble_eq_true rfl) (Nat.le_of_ble_eq_true rfl) rfl ?_
  refine zR_aload_n dX12_relation_9 0 rfl ?_
  refine zG_getI dX12_relation_10 zf_X12_261 zd_88 rfl rfl ?_
  by_cases c27 : (zI q25 0 13) ≤ 0
  · have h := zif_t h c27
    refine zR_if_le_t (tgt := 20) dX12_relation_13 (by decide) c27 ?_
    refine zR_aload_n dX12_relation_20 0 rfl ?_
    refine zG_getR dX12_relation_21 zf_X12_20 zd_88 rfl rfl ?_
    refine zR_aload_n dX12_relation_24 0 rfl ?_
    refine zG_getI dX12_relation_25 zf_X12_264 zd_88 rfl rfl ?_
    obtain ⟨g28, h⟩ := zchk_some h
    refine zG_iald dX12_relation_28 zd_91 rfl rfl g28 ?_
    refine zR_bipush (x := (12 : Int32)) dX12_relation_29 rfl ?_
    refine zR_isub dX12_relation_31 ?_
    exact wX12_relation_b32 F V0 V1 V2 V3 V4 V5 V6 q25 (zI V7 0 54) ((zA q25 3 ((zI q25 0 11)).toNatClampNeg) - (12 : Int32)) _ h
  · have h := zif_f h c27
    refine zR_if_le_f (tgt := 20) dX12_relation_13 (by decide) c27 ?_
    refine zR_iconst (x := (0 : Int32)) dX12_relation_16 rfl ?_
    refine zR_goto (tgt := 32) dX12_relation_17 (by decide) ?_
    exact wX12_relation_b32 F V0 V1 V2 V3 V4 V5 V6 q25 (zI V7 0 54) (0 : Int32) _ h
set_option maxRecDepth 100000 in
set_option maxHeartbeats 4000000 in
theorem wX12_tellAct_b149 {w : zW} (F : Nat) (V0 V1 V2 V3 V4 V5 V6 V7 : zV) (x1 : Int32) (x2 : Int32) (x3 : Int32) (res : zV) (h : fX12_tellAct_b149 F V7 x1 x2 x3 = some res) : zR w kX12_tellAct 4 0 0 none (zE zds w [V0, V1, V2, V3, V4, V5, V6, res]) 149 [(0, .ref (w.1 + 88)), (1, .int x1), (2, .int x2), (3, .int x3)] [] (zE zds w [V0, V1, V2, V3, V4, V5, V6, V7]) := by
  unfold fX12_tellAct_b149 at h
  refine zR_aload_n dX12_tellAct_149 0 rfl ?_
  refine zG_getI dX12_tellAct_150 zf_X12_261 zd_88 rfl rfl ?_
  by_cases c1 : (zI V7 0 13) ≤ 0
  · have h := zif_t h c1
    refine zR_if_le_t (tgt := 157) dX12_tellAct_153 (by decide) c1 ?_
    refine zR_aload_n dX12_tellAct_157 0 rfl ?_
    refine zG_getR dX12_tellAct_158 zf_X12_109 zd_88 rfl rfl ?_
    refine zR_aload_n dX12_tellAct_161 0 rfl ?_
    refine zG_getI dX12_tellAct_162 zf_X12_314 zd_88 rfl rfl ?_
    refine zR_iload_n dX12_tellAct_165 1 rfl ?_
    obtain ⟨g2, h⟩ := zchk_some h
    obtain ⟨V7_3, e4, h⟩ := zlet_some h
    refine zG_iast zds_ok dX12_tellAct_166 zd_119 rfl rfl g2 e4 rfl ?_
    refine zR_aload_n dX12_tellAct_167 0 rfl ?_
    refine zG_getR dX12_tellAct_168 zf_X12_112 zd_88 rfl rfl ?_
    refine zR_aload_n dX12_tellAct_171 0 rfl ?_
    refine zG_getI dX12_tellAct_172 zf_X12_314 zd_88 rfl rfl ?_
    refine zR_iload_n dX12_tellAct_175 2 rfl ?_
    obtain ⟨g5, h⟩ := zchk_some h
    obtain ⟨V7_6, e7, h⟩ := zlet_some h
    refine zG_iast zds_ok dX12_tellAct_176 zd_120 rfl rfl g5 e7 rfl ?_
    refine zR_aload_n dX12_tellAct_177 0 rfl ?_
    refine zG_getR dX12_tellAct_178 zf_X12_115 zd_88 rfl rfl ?_
    refine zR_aload_n dX12_tellAct_181 0 rfl ?_
    refine zG_getI dX12_tellAct_182 zf_X12_314 zd_88 rfl rfl ?_
    refine zR_iload_n dX12_tellAct_185 3 rfl ?_
    obtain ⟨g8, h⟩ := zchk_some h
    obtain ⟨V7_9, e10, h⟩ := zlet_some h
    refine zG_iast zds_ok dX12_tellAct_186 zd_121 rfl rfl g8 e10 rfl ?_
    refine zR_aload_n dX12_tellAct_187 0 rfl ?_
    refine zG_getR dX12_tellAct_188 zf_X12_118 zd_88 rfl rfl ?_
    refine zR_aload_n dX12_tellAct_191 0 rfl ?_
    refine zG_getI dX12_tellAct_192 zf_X12_314 zd_88 rfl rfl ?_
    refine zR_aload_n dX12_tellAct_195 0 rfl ?_
    refine zG_getI dX12_tellAct_196 zf_X12_317 zd_88 rfl rfl ?_
    obtain ⟨g11, h⟩ := zchk_some h
    obtain ⟨V7_12, e13, h⟩ := zlet_some h
    refine zG_iast zds_ok dX12_tellAct_199 zd_122 rfl rfl g11 e13 rfl ?_
    refine zR_aload_n dX12_tellAct_200 0 rfl ?_
    refine zR_dup dX12_tellAct_201 rfl ?_
    refine zG_getI dX12_tellAct_202 zf_X12_314 zd_88 rfl rfl ?_
    refine zR_iconst (x := (1 : Int32)) dX12_tellAct_205 rfl ?_
    refine zR_iadd dX12_tellAct_206 ?_
    obtain ⟨V7_14, e15, h⟩ := zlet_some h
    refine zG_putI zds_ok dX12_tellAct_207 zf_X12_314 zt_X12_46 zd_88 rfl rfl e15 rfl ?_
    have h := Option.some.inj h
    subst h
    exact zR_ret dX12_tellAct_210 rfl
  · have h := zif_f h c1
    refine zR_if_le_f (tgt := 157) dX12_tellAct_153 (by decide) c1 ?_
    have h := Option.some.inj h
    subst h
    exact zR_ret dX12_tellAct_156 rfl
set_option maxRecDepth 100000 in
set_option maxHeartbeats 4000000 in
theorem wX12_tellAct_b145 {w : zW} (F : Nat) (V0 V1 V2 V3 V4 V5 V6 V7 : zV) (x1 : Int32) (x2 : Int32) (x3 : Int32) (res : zV) (h : fX12_tellAct_b145 F V7 x1 x2 x3 = some res) : zR w kX12_tellAct 4 0 0 none (zE zds w [V0, V1, V2, V3, V4, V5, V6, res]) 145 [(0, .ref (w.1 + 88)), (1, .int x1), (2, .int x2), (3, .int x3)] [] (zE zds w [V0, V1, V2, V3, V4, V5, V6, V7]) := by
  unfold fX12_tellAct_b145 at h
  refine zR_aload_n dX12_tellAct_145 0 rfl ?_
  obtain ⟨q16, hq17, h⟩ := zbd_some h
  refine zR_cV (rest := []) (st1 := []) dX12_tellAct_146 (mX12_expression F V0 V1 V2 V3 V4 V5 V6 V7 _ hq17) zc_X12_354 rfl (zE_at zd_88) ⟨_, _, rfl⟩ rfl (Nat.le_of_ble_eq_true rfl) (Nat.le_of_ble_eq_true rfl) rfl ?_
  exact wX12_tellAct_b149 F V0 V1 V2 V3 V4 V5 V6 q16 x1 x2 x3 _ h
set_option maxRecDepth 100000 in
set_option maxHeartbeats 4000000 in
theorem wX12_tellAct_b128 {w : zW} (F : Nat) (V0 V1 V2 V3 V4 V5 V6 V7 : zV) (x1 : Int32) (x2 : Int32) (res : zV) (h : fX12_tellAct_b128 F V7 x1 x2 = some res) : zR w kX12_tellAct 4 0 0 none (zE zds w [V0, V1, V2, V3, V4, V5, V6, res]) 128 [(0, .ref (w.1 + 88)), (1, .int x1), (2, .int x2)] [] (zE zds w [V0, V1, V2, V3, V4, V5, V6, V7]) := by
  unfold fX12_tellAct_b128 at h
  refine zR_aload_n dX12_tellAct_128 0 rfl ?_
  refine zG_getI dX12_tellAct_129 zf_X12_317 zd_88 rfl rfl ?_
  refine zR_istore_n (lv' := [(0, .ref (w.1 + 88)), (1, .int x1), (2, .int x2), (3, .int (zI V7 0 54))]) dX12_tellAct_132 (Nat.le_of_ble_eq_true rfl) rfl ?_
  refine zR_iload_n dX12_tellAct_133 1 rfl ?_
  refine zR_bipush (x := (35 : Int32)) dX12_tellAct_134 rfl ?_
  by_cases c18 : x1 = (35 : Int32)
  · have h := zif_t h c18
    refine zR_icmp_eq_t (tgt := 145) dX12_tellAct_136 (by decide) c18 ?_
    exact wX12_tellAct_b145 F V0 V1 V2 V3 V4 V5 V6 V7 x1 x2 (zI V7 0 54) _ h
  · have h := zif_f h c18
    refine zR_icmp_eq_f (tgt := 145) dX12_tellAct_136 (by decide) c18 ?_
    refine zR_iload_n dX12_tellAct_139 1 rfl ?_
    refine zR_bipush (x := (36 : Int32)) dX12_tellAct_140 rfl ?_
    by_cases c19 : x1 = (36 : Int32)
    · have h := zif_t h c19
      refine zR_icmp_ne_f (tgt := 149) dX12_tellAct_142 (by decide) c19 ?_
      exact wX12_tellAct_b145 F V0 V1 V2 V3 V4 V5 V6 V7 x1 x2 (zI V7 0 54) _ h
    · have h := zif_f h c19
      refine zR_icmp_ne_t (tgt := 149) dX12_tellAct_142 (by decide) c19 ?_
      exact wX12_tellAct_b149 F V0 V1 V2 V3 V4 V5 V6 V7 x1 x2 (zI V7 0 54) _ h
set_option maxRecDepth 100000 in
set_option maxHeartbeats 4000000 in
theorem wX12_tellAct_b73 {w : zW} (F : Nat) (V0 V1 V2 V3 V4 V5 V6 V7 : zV) (x1 : Int32) (x2 : Int32) (res : zV) (h : fX12_tellAct_b73 F V7 x1 x2 = some res) : zR w kX12_tellAct 4 0 0 none (zE zds w [V0, V1, V2, V3, V4, V5, V6, res]) 73 [(0, .ref (w.1 + 88)), (1, .int x1), (2, .int x2)] [] (zE zds w [V0, V1, V2, V3, V4, V5, V6, V7]) := by
  unfold fX12_tellAct_b73 at h
  refine zR_iload_n dX12_tellAct_73 1 rfl ?_
  refine zR_bipush (x := (37 : Int32)) dX12_tellAct_74 rfl ?_
  by_cases c20 : x1 = (37 : Int32)
  · have h := zif_t h c20
    refine zR_icmp_ne_f (tgt := 128) dX12_tellAct_76 (by decide) c20 ?_
    refine zR_aload_n dX12_tellAct_79 0 rfl ?_
    refine zG_getR dX12_tellAct_80 zf_X12_124 zd_88 rfl rfl ?_
    refine zR_aload_n dX12_tellAct_83 0 rfl ?_
    refine zG_getI dX12_tellAct_84 zf_X12_320 zd_88 rfl rfl ?_
    refine zR_aload_n dX12_tellAct_87 0 rfl ?_
    refine zG_getI dX12_tellAct_88 zf_X12_264 zd_88 rfl rfl ?_
    obtain ⟨g21, h⟩ := zchk_some h
    obtain ⟨V7_22, e23, h⟩ := zlet_some h
    refine zG_iast zds_ok dX12_tellAct_91 zd_124 rfl rfl g21 e23 rfl ?_
    refine zR_aload_n dX12_tellAct_92 0 rfl ?_
    refine zR_iconst (x := (1 : Int32)) dX12_tellAct_93 rfl ?_
    obtain ⟨q24, hq25, h⟩ := zbd_some h
    refine zR_cV (rest := []) (st1 := []) dX12_tellAct_94 (mX12_must F V0 V1 V2 V3 V4 V5 V6 V7_22 (1 : Int32) _ hq25) zc_X12_292 rfl (zE_at zd_88) ⟨_, _, rfl⟩ rfl (Nat.le_of_ble_eq_true rfl) (Nat.le_of_ble_eq_true rfl) rfl ?_
    refine zR_aload_n dX12_tellAct_97 0 rfl ?_
    refine zG_getI dX12_tellAct_98 zf_X12_261 zd_88 rfl rfl ?_
    by_cases c26 : (zI q24 0 13) ≤ 0
    · have h := zif_t h c26
      refine zR_if_le_t (tgt := 105) dX12_tellAct_101 (by decide) c26 ?_
      refine zR_aload_n dX12_tellAct_105 0 rfl ?_
      refine zG_getR dX12_tellAct_106 zf_X12_121 zd_88 rfl rfl ?_
      refine zR_aload_n dX12_tellAct_109 0 rfl ?_
      refine zG_getI dX12_tellAct_110 zf_X12_320 zd_88 rfl rfl ?_
      refine zR_aload_n dX12_tellAct_113 0 rfl ?_
      refine zG_getI dX12_tellAct_114 zf_X12_314 zd_88 rfl rfl ?_
      obtain ⟨g27, h⟩ := zchk_some h
      obtain ⟨V7_28, e29, h⟩ := zlet_some h
      refine zG_iast zds_ok dX12_tellAct_117 zd_123 rfl rfl g27 e29 rfl ?_
      refine zR_aload_n dX12_tellAct_118 0 rfl ?_
      refine zR_dup dX12_tellAct_119 rfl ?_
      refine zG_getI dX12_tellAct_120 zf_X12_320 zd_88 rfl rfl ?_
      refine zR_iconst (x := (1 : Int32)) dX12_tellAct_123 rfl ?_
      refine zR_iadd dX12_tellAct_124 ?_
      obtain ⟨V7_30, e31, h⟩ := zlet_some h
      refine zG_putI zds_ok dX12_tellAct_125 zf_X12_320 zt_X12_51 zd_88 rfl rfl e31 rfl ?_
      exact wX12_tellAct_b128 F V0 V1 V2 V3 V4 V5 V6 V7_30 x1 x2 _ h
    · have h := zif_f h c26
      refine zR_if_le_f (tgt := 105) dX12_tellAct_101 (by decide) c26 ?_
      have h := Option.some.inj h
      subst h
      exact zR_ret dX12_tellAct_104 rfl
  · have h := zif_f h c20
    refine zR_icmp_ne_t (tgt := 128) dX12_tellAct_76 (by decide) c20 ?_
    exact wX12_tellAct_b128 F V0 V1 V2 V3 V4 V5 V6 V7 x1 x2 _ h
set_option maxRecDepth 100000 in
set_option maxHeartbeats 4000000 in
theorem wX12_tellAct_b61 {w : zW} (F : Nat) (V0 V1 V2 V3 V4 V5 V6 V7 : zV) (x1 : Int32) (x2 : Int32) (res : zV) (h : fX12_tellAct_b61 F V7 x1 x2 = some res) : zR w kX12_tellAct 4 0 0 none (zE zds w [V0, V1, V2, V3, V4, V5, V6, res]) 61 [(0, .ref (w.1 + 88)), (1, .int x1), (2, .int x2)] [] (zE zds w [V0, V1, V2, V3, V4, V5, V6, V7]) := by
  unfold fX12_tellAct_b61 at h
  refine zR_iload_n dX12_tellAct_61 1 rfl ?_
  refine zR_bipush (x := (39 : Int32)) dX12_tellAct_62 rfl ?_
  by_cases c32 : x1 = (39 : Int32)
  · have h := zif_t h c32
    refine zR_icmp_ne_f (tgt := 73) dX12_tellAct_64 (by decide) c32 ?_
    refine zR_aload_n dX12_tellAct_67 0 rfl ?_
    refine zR_iconst (x := (1 : Int32)) dX12_tellAct_68 rfl ?_
    obtain ⟨q33, hq34, h⟩ := zbd_some h
    refine zR_cV (rest := []) (st1 := [.int q33.1]) dX12_tellAct_69 (mX12_namedNext F V0 V1 V2 V3 V4 V5 V6 V7 (1 : Int32) _ hq34) zc_X12_342 rfl (zE_at zd_88) ⟨_, _, rfl⟩ rfl (Nat.le_of_ble_eq_true rfl) (Nat.le_of_ble_eq_true rfl) rfl ?_
    refine zR_istore_n (lv' := [(0, .ref (w.1 + 88)), (1, .int x1), (2, .int q33.1)]) dX12_tellAct_72 (Nat.le_of_ble_eq_true rfl) rfl ?_
    exact wX12_tellAct_b73 F V0 V1 V2 V3 V4 V5 V6 q33.2 x1 q33.1 _ h
  · have h := zif_f h c32
    refine zR_icmp_ne_t (tgt := 73) dX12_tellAct_64 (by decide) c32 ?_
    exact wX12_tellAct_b73 F V0 V1 V2 V3 V4 V5 V6 V7 x1 x2 _ h
set_option maxRecDepth 100000 in
set_option maxHeartbeats 4000000 in
theorem wX12_tellAct_b34 {w : zW} (F : Nat) (V0 V1 V2 V3 V4 V5 V6 V7 : zV) (x1 : Int32) (res : zV) (h : fX12_tellAct_b34 F V7 x1 = some res) : zR w kX12_tellAct 4 0 0 none (zE zds w [V0, V1, V2, V3, V4, V5, V6, res]) 34 [(0, .ref (w.1 + 88)), (1, .int x1)] [] (zE zds w [V0, V1, V2, V3, V4, V5, V6, V7]) := by
  unfold fX12_tellAct_b34 at h
  refine zR_aload_n dX12_tellAct_34 0 rfl ?_
  obtain ⟨q35, hq36, h⟩ := zbd_some h
  refine zR_cV (rest := []) (st1 := []) dX12_tellAct_35 (mX12_next F V0 V1 V2 V3 V4 V5 V6 V7 _ hq36) zc_X12_282 rfl (zE_at zd_88) ⟨_, _, rfl⟩ rfl (Nat.le_of_ble_eq_true rfl) (Nat.le_of_ble_eq_true rfl) rfl ?_
  refine zR_aload_n dX12_tellAct_38 0 rfl ?_
  refine zG_getI dX12_tellAct_39 zf_X12_261 zd_88 rfl rfl ?_
  by_cases c37 : (zI q35 0 13) ≤ 0
  · have h := zif_t h c37
    refine zR_if_le_t (tgt := 46) dX12_tellAct_42 (by decide) c37 ?_
    refine zR_iconst (x := (-1 : Int32)) dX12_tellAct_46 (by decide) ?_
    refine zR_istore_n (lv' := [(0, .ref (w.1 + 88)), (1, .int x1), (2, .int (-1 : Int32))]) dX12_tellAct_47 (Nat.le_of_ble_eq_true rfl) rfl ?_
    refine zR_iload_n dX12_tellAct_48 1 rfl ?_
    refine zR_bipush (x := (36 : Int32)) dX12_tellAct_49 rfl ?_
    by_cases c38 : x1 = (36 : Int32)
    · have h := zif_t h c38
      refine zR_icmp_ne_f (tgt := 61) dX12_tellAct_51 (by decide) c38 ?_
      refine zR_aload_n dX12_tellAct_54 0 rfl ?_
      refine zR_bipush (x := (6 : Int32)) dX12_tellAct_55 rfl ?_
      obtain ⟨q39, hq40, h⟩ := zbd_some h
      refine zR_cV (rest := []) (st1 := [.int q39.1]) dX12_tellAct_57 (mX12_namedNext F V0 V1 V2 V3 V4 V5 V6 q35 (6 : Int32) _ hq40) zc_X12_342 rfl (zE_at zd_88) ⟨_, _, rfl⟩ rfl (Nat.le_of_ble_eq_true rfl) (Nat.le_of_ble_eq_true rfl) rfl ?_
      refine zR_istore_n (lv' := [(0, .ref (w.1 + 88)), (1, .int x1), (2, .int q39.1)]) dX12_tellAct_60 (Nat.le_of_ble_eq_true rfl) rfl ?_
      exact wX12_tellAct_b61 F V0 V1 V2 V3 V4 V5 V6 q39.2 x1 q39.1 _ h
    · have h := zif_f h c38
      refine zR_icmp_ne_t (tgt := 61) dX12_tellAct_51 (by decide) c38 ?_
      exact wX12_tellAct_b61 F V0 V1 V2 V3 V4 V5 V6 q35 x1 (-1 : Int32) _ h
  · have h := zif_f h c37
    refine zR_if_le_f (tgt := 46) dX12_tellAct_42 (by decide) c37 ?_
    have h := Option.some.inj h
    subst h
    exact zR_ret dX12_tellAct_45 rfl
set_option maxRecDepth 100000 in
set_option maxHeartbeats 4000000 in
theorem wX12_tellAct_b29 {w : zW} (F : Nat) (V0 V1 V2 V3 V4 V5 V6 V7 : zV) (x1 : Int32) (res : zV) (h : fX12_tellAct_b29 F V7 x1 = some res) : zR w kX12_tellAct 4 0 0 none (zE zds w [V0, V1, V2, V3, V4, V5, V6, res]) 29 [(0, .ref (w.1 + 88)), (1, .int x1)] [] (zE zds w [V0, V1, V2, V3, V4, V5, V6, V7]) := by
  unfold fX12_tellAct_b29 at h
  refine zR_aload_n dX12_tellAct_29 0 rfl ?_
  refine zR_iconst (x := (1 : Int32)) dX12_tellAct_30 rfl ?_
  obtain ⟨q41, hq42, h⟩ := zbd_some h
  refine zR_cV (rest := []) (st1 := []) dX12_tellAct_31 (mX12_fail F V0 V1 V2 V3 V4 V5 V6 V7 (1 : Int32) _ hq42) zc_X12_276 rfl (zE_at zd_88) ⟨_, _, rfl⟩ rfl (Nat.le_of_ble_eq_true rfl) (Nat.le_of_ble_eq_true rfl) rfl ?_
  exact wX12_tellAct_b34 F V0 V1 V2 V3 V4 V5 V6 q41 x1 _ h
set_option maxRecDepth 100000 in
set_option maxHeartbeats 4000000 in
theorem mX12_tellAct {w : zW} (F : Nat) (V0 V1 V2 V3 V4 V5 V6 V7 : zV) (res : zV) (h : fX12_tellAct F V7 = some res) : zMet w kX12_tellAct 4 0 0 [.ref (w.1 + 88)] (zE zds w [V0, V1, V2, V3, V4, V5, V6, V7]) none (zE zds w [V0, V1, V2, V3, V4, V5, V6, res]) := by
  refine zMet_of (by decide) (Nat.le_of_ble_eq_true rfl) (Nat.le_refl 0) fun _ => ?_
  show zR w kX12_tellAct 4 0 0 none (zE zds w [V0, V1, V2, V3, V4, V5, V6, res]) 0 [(0, .ref (w.1 + 88))] [] (zE zds w [V0, V1, V2, V3, V4, V5, V6, V7])
  unfold fX12_tellAct at h
  refine zR_aload_n dX12_tellAct_0 0 rfl ?_
  refine zG_getR dX12_tellAct_1 zf_X12_20 zd_88 rfl rfl ?_
  refine zR_aload_n dX12_tellAct_4 0 rfl ?_
  refine zG_getI dX12_tellAct_5 zf_X12_264 zd_88 rfl rfl ?_
  obtain ⟨g43, h⟩ := zchk_some h
  refine zG_iald dX12_tellAct_8 zd_91 rfl rfl g43 ?_
  obtain ⟨y44, e45, h⟩ := zlet_some h
  refine zR_nmI e45 ?_
  refine zR_istore_n (lv' := [(0, .ref (w.1 + 88)), (1, .int y44)]) dX12_tellAct_9 (Nat.le_of_ble_eq_true rfl) rfl ?_
  refine zR_aload_n dX12_tellAct_10 0 rfl ?_
  refine zG_getI dX12_tellAct_11 zf_X12_261 zd_88 rfl rfl ?_
  by_cases c46 : (zI V7 0 13) = 0
  · have h := zif_t h c46
    refine zR_if_ne_f (tgt := 34) dX12_tellAct_14 (by decide) c46 ?_
    refine zR_iload_n dX12_tellAct_17 1 rfl ?_
    refine zR_bipush (x := (35 : Int32)) dX12_tellAct_18 rfl ?_
    by_cases c47 : y44 < (35 : Int32)
    · have h := zif_t h c47
      refine zR_icmp_lt_t (tgt := 29) dX12_tellAct_20 (by decide) c47 ?_
      exact wX12_tellAct_b29 F V0 V1 V2 V3 V4 V5 V6 V7 y44 _ h
    · have h := zif_f h c47
      refine zR_icmp_lt_f (tgt := 29) dX12_tellAct_20 (by decide) c47 ?_
      refine zR_iload_n dX12_tellAct_23 1 rfl ?_
      refine zR_bipush (x := (43 : Int32)) dX12_tellAct_24 rfl ?_
      by_cases c48 : y44 ≤ (43 : Int32)
      · have h := zif_t h c48
        refine zR_icmp_le_t (tgt := 34) dX12_tellAct_26 (by decide) c48 ?_
        exact wX12_tellAct_b34 F V0 V1 V2 V3 V4 V5 V6 V7 y44 _ h
      · have h := zif_f h c48
        refine zR_icmp_le_f (tgt := 34) dX12_tellAct_26 (by decide) c48 ?_
        exact wX12_tellAct_b29 F V0 V1 V2 V3 V4 V5 V6 V7 y44 _ h
  · have h := zif_f h c46
    refine zR_if_ne_t (tgt := 34) dX12_tellAct_14 (by decide) c46 ?_
    exact wX12_tellAct_b34 F V0 V1 V2 V3 V4 V5 V6 V7 y44 _ h
set_option maxRecDepth 100000 in
set_option maxHeartbeats 4000000 in
theorem wX12_tellRule_b301 {w : zW} (F : Nat) (V0 V1 V2 V3 V4 V5 V6 V7 : zV) (x1 : Int32) (res : zV) (h : fX12_tellRule_b301 F V7 x1 = some res) : zR w kX12_tellRule 5 0 0 none (zE zds w [V0, V1, V2, V3, V4, V5, V6, res]) 301 [(0, .ref (w.1 + 88)), (1, .int x1)] [] (zE zds w [V0, V1, V2, V3, V4, V5, V6, V7]) := by
  unfold fX12_tellRule_b301 at h
  refine zR_aload_n dX12_tellRule_301 0 rfl ?_
  refine zR_iconst (x := (4 : Int32)) dX12_tellRule_302 rfl ?_
  obtain ⟨q1, hq2, h⟩ := zbd_some h
  refine zR_cV (rest := []) (st1 := []) dX12_tellRule_303 (mX12_must F V0 V1 V2 V3 V4 V5 V6 V7 (4 : Int32) _ hq2) zc_X12_292 rfl (zE_at zd_88) ⟨_, _, rfl⟩ rfl (Nat.le_of_ble_eq_true rfl) (Nat.le_of_ble_eq_true rfl) rfl ?_
  refine zR_aload_n dX12_tellRule_306 0 rfl ?_
  refine zG_getI dX12_tellRule_307 zf_X12_261 zd_88 rfl rfl ?_
  by_cases c3 : (zI q1 0 13) ≤ 0
  · have h := zif_t h c3
    refine zR_if_le_t (tgt := 314) dX12_tellRule_310 (by decide) c3 ?_
    refine zR_aload_n dX12_tellRule_314 0 rfl ?_
    refine zG_getR dX12_tellRule_315 zf_X12_40 zd_88 rfl rfl ?_
    refine zR_bipush (x := (9 : Int32)) dX12_tellRule_318 rfl ?_
    refine zR_aload_n dX12_tellRule_320 0 rfl ?_
    refine zG_getI dX12_tellRule_321 zf_X12_299 zd_88 rfl rfl ?_
    refine zR_imul dX12_tellRule_324 ?_
    refine zR_bipush (x := (8 : Int32)) dX12_tellRule_325 rfl ?_
    refine zR_iadd dX12_tellRule_327 ?_
    refine zR_dup2 dX12_tellRule_328 rfl rfl ?_
    obtain ⟨g4, h⟩ := zchk_some h
    refine zG_iald dX12_tellRule_329 zd_96 rfl rfl g4 ?_
    refine zR_iconst (x := (1 : Int32)) dX12_tellRule_330 rfl ?_
    refine zR_iadd dX12_tellRule_331 ?_
    obtain ⟨g5, h⟩ := zchk_some h
    obtain ⟨V7_6, e7, h⟩ := zlet_some h
    refine zG_iast zds_ok dX12_tellRule_332 zd_96 rfl rfl g5 e7 rfl ?_
    refine zR_aload_n dX12_tellRule_333 0 rfl ?_
    refine zG_getR dX12_tellRule_334 zf_X12_94 zd_88 rfl rfl ?_
    refine zR_bipush (x := (81 : Int32)) dX12_tellRule_337 rfl ?_
    refine zR_aload_n dX12_tellRule_339 0 rfl ?_
    refine zG_getI dX12_tellRule_340 zf_X12_299 zd_88 rfl rfl ?_
    refine zR_imul dX12_tellRule_343 ?_
    refine zR_iload_n dX12_tellRule_344 1 rfl ?_
    refine zR_iadd dX12_tellRule_345 ?_
    refine zR_iconst (x := (1 : Int32)) dX12_tellRule_346 rfl ?_
    refine zR_iadd dX12_tellRule_347 ?_
    refine zR_aload_n dX12_tellRule_348 0 rfl ?_
    refine zG_getI dX12_tellRule_349 zf_X12_314 zd_88 rfl rfl ?_
    obtain ⟨g8, h⟩ := zchk_some h
    obtain ⟨V7_9, e10, h⟩ := zlet_some h
    refine zG_iast zds_ok dX12_tellRule_352 zd_114 rfl rfl g8 e10 rfl ?_
    have h := Option.some.inj h
    subst h
    exact zR_ret dX12_tellRule_353 rfl
  · have h := zif_f h c3
    refine zR_if_le_f (tgt := 314) dX12_tellRule_310 (by decide) c3 ?_
    have h := Option.some.inj h
    subst h
    exact zR_ret dX12_tellRule_313 rfl
set_option maxRecDepth 100000 in
set_option maxHeartbeats 4000000 in
theorem wX12_tellRule_b274 {w : zW} (F : Nat) (k223 : zV → Int32 → Int32 → Int32 → Option (zV)) (hk223 : ∀ (V0 V1 V2 V3 V4 V5 V6 V7 : zV) (x1 : Int32) (x3 : Int32) (x4 : Int32) (res : zV), k223 V7 x1 x3 x4 = some res → zR w kX12_tellRule 5 0 0 none (zE zds w [V0, V1, V2, V3, V4, V5, V6, res]) 223 [(0, .ref (w.1 + 88)), (1, .int x1), (3, .int x3), (4, .int x4)] [] (zE zds w [V0, V1, V2, V3, V4, V5, V6, V7])) (V0 V1 V2 V3 V4 V5 V6 V7 : zV) (x1 : Int32) (x3 : Int32) (res : zV) (h : fX12_tellRule_b274 F k223 V7 x1 x3 = some res) : zR w kX12_tellRule 5 0 0 none (zE zds w [V0, V1, V2, V3, V4, V5, V6, res]) 274 [(0, .ref (w.1 + 88)), (1, .int x1), (3, .int x3)] [] (zE zds w [V0, V1, V2, V3, V4, V5, V6, V7]) := by
  unfold fX12_tellRule_b274 at h
  refine zR_aload_n dX12_tellRule_274 0 rfl ?_
  obtain ⟨q11, hq12, h⟩ := zbd_some h
  refine zR_cV (rest := []) (st1 := []) dX12_tellRule_275 (mX12_tellAct F V0 V1 V2 V3 V4 V5 V6 V7 _ hq12) zc_X12_351 rfl (zE_at zd_88) ⟨_, _, rfl⟩ rfl (Nat.le_of_ble_eq_true rfl) (Nat.le_of_ble_eq_true rfl) rfl ?_
  refine zR_iinc (u := (x3 + 1)) (lv' := [(0, .ref (w.1 + 88)), (1, .int x1), (3, .int (x3 + 1))]) dX12_tellRule_278 2 rfl rfl (Nat.le_of_ble_eq_true rfl) rfl ?_
  refine zR_aload_n dX12_tellRule_281 0 rfl ?_
  refine zR_bipush (x := (6 : Int32)) dX12_tellRule_282 rfl ?_
  obtain ⟨q13, hq14, h⟩ := zbd_some h
  refine zR_cV (rest := []) (st1 := [.int q13]) dX12_tellRule_284 (mX12_is F V0 V1 V2 V3 V4 V5 V6 q11 (6 : Int32) _ hq14) zc_X12_279 rfl (zE_at zd_88) ⟨_, _, rfl⟩ rfl (Nat.le_of_ble_eq_true rfl) (Nat.le_of_ble_eq_true rfl) rfl ?_
  refine zR_istore (lv' := [(0, .ref (w.1 + 88)), (1, .int x1), (3, .int (x3 + 1)), (4, .int q13)]) dX12_tellRule_287 (Nat.le_of_ble_eq_true rfl) rfl ?_
  refine zR_iload dX12_tellRule_289 3 rfl ?_
  by_cases c15 : q13 = 0
  · have h := zif_t h c15
    refine zR_if_eq_t (tgt := 223) dX12_tellRule_291 (by decide) c15 ?_
    exact hk223 V0 V1 V2 V3 V4 V5 V6 q11 x1 (x3 + 1) q13 _ h
  · have h := zif_f h c15
    refine zR_if_eq_f (tgt := 223) dX12_tellRule_291 (by decide) c15 ?_
    refine zR_aload_n dX12_tellRule_294 0 rfl ?_
    obtain ⟨q16, hq17, h⟩ := zbd_some h
    refine zR_cV (rest := []) (st1 := []) dX12_tellRule_295 (mX12_next F V0 V1 V2 V3 V4 V5 V6 q11 _ hq17) zc_X12_282 rfl (zE_at zd_88) ⟨_, _, rfl⟩ rfl (Nat.le_of_ble_eq_true rfl) (Nat.le_of_ble_eq_true rfl) rfl ?_
    refine zR_goto (tgt := 223) dX12_tellRule_298 (by decide) ?_
    exact hk223 V0 V1 V2 V3 V4 V5 V6 q16 x1 (x3 + 1) q13 _ h
set_option maxRecDepth 100000 in
set_option maxHeartbeats 4000000 in
theorem wX12_tellRule_l223 {w : zW} (F : Nat) : ∀ (n : Nat) (V0 V1 V2 V3 V4 V5 V6 V7 : zV) (x1 : Int32) (x3 : Int32) (x4 : Int32) (res : zV), fX12_tellRule_l223 F n V7 x1 x3 x4 = some res → zR w kX12_tellRule 5 0 0 none (zE zds w [V0, V1, V2, V3, V4, V5, V6, res]) 223 [(0, .ref (w.1 + 88)), (1, .int x1), (3, .int x3), (4, .int x4)] [] (zE zds w [V0, V1, V2, V3, V4, V5, V6, V7]) := by
  intro n
  induction n with
  | zero =>
    intro V0 V1 V2 V3 V4 V5 V6 V7 x1 x3 x4 res h
    simp [fX12_tellRule_l223] at h
  | succ n ih =>
    intro V0 V1 V2 V3 V4 V5 V6 V7 x1 x3 x4 res h
    rw [fX12_tellRule_l223] at h
    refine zR_iload dX12_tellRule_223 3 rfl ?_
    by_cases c18 : x4 = 0
    · have h := zif_t h c18
      refine zR_if_eq_t (tgt := 301) dX12_tellRule_225 (by decide) c18 ?_
      refine zR_sub (lv' := [(0, .ref (w.1 + 88)), (1, .int x1)]) [0, 1] rfl ?_
      exact wX12_tellRule_b301 F V0 V1 V2 V3 V4 V5 V6 V7 x1 _ h
    · have h := zif_f h c18
      refine zR_if_eq_f (tgt := 301) dX12_tellRule_225 (by decide) c18 ?_
      refine zR_aload_n dX12_tellRule_228 0 rfl ?_
      refine zG_getI dX12_tellRule_229 zf_X12_261 zd_88 rfl rfl ?_
      by_cases c19 : (zI V7 0 13) = 0
      · have h := zif_t h c19
        refine zR_if_ne_f (tgt := 301) dX12_tellRule_232 (by decide) c19 ?_
        refine zR_aload_n dX12_tellRule_235 0 rfl ?_
        refine zG_getR dX12_tellRule_236 zf_X12_20 zd_88 rfl rfl ?_
        refine zR_aload_n dX12_tellRule_239 0 rfl ?_
        refine zG_getI dX12_tellRule_240 zf_X12_264 zd_88 rfl rfl ?_
        obtain ⟨g20, h⟩ := zchk_some h
        refine zG_iald dX12_tellRule_243 zd_91 rfl rfl g20 ?_
        refine zR_bipush (x := (35 : Int32)) dX12_tellRule_244 rfl ?_
        by_cases c21 : (zA V7 3 ((zI V7 0 11)).toNatClampNeg) < (35 : Int32)
        · have h := zif_t h c21
          refine zR_icmp_lt_t (tgt := 274) dX12_tellRule_246 (by decide) c21 ?_
          refine zR_sub (lv' := [(0, .ref (w.1 + 88)), (1, .int x1), (3, .int x3)]) [0, 1, 2] rfl ?_
          exact wX12_tellRule_b274 F (fX12_tellRule_l223 F n) ih V0 V1 V2 V3 V4 V5 V6 V7 x1 x3 _ h
        · have h := zif_f h c21
          refine zR_icmp_lt_f (tgt := 274) dX12_tellRule_246 (by decide) c21 ?_
          refine zR_aload_n dX12_tellRule_249 0 rfl ?_
          refine zG_getR dX12_tellRule_250 zf_X12_20 zd_88 rfl rfl ?_
          refine zR_aload_n dX12_tellRule_253 0 rfl ?_
          refine zG_getI dX12_tellRule_254 zf_X12_264 zd_88 rfl rfl ?_
          obtain ⟨g22, h⟩ := zchk_some h
          refine zG_iald dX12_tellRule_257 zd_91 rfl rfl g22 ?_
          refine zR_bipush (x := (43 : Int32)) dX12_tellRule_258 rfl ?_
          by_cases c23 : (43 : Int32) < (zA V7 3 ((zI V7 0 11)).toNatClampNeg)
          · have h := zif_t h c23
            refine zR_icmp_gt_t (tgt := 274) dX12_tellRule_260 (by decide) c23 ?_
            refine zR_sub (lv' := [(0, .ref (w.1 + 88)), (1, .int x1), (3, .int x3)]) [0, 1, 2] rfl ?_
            exact wX12_tellRule_b274 F (fX12_tellRule_l223 F n) ih V0 V1 V2 V3 V4 V5 V6 V7 x1 x3 _ h
          · have h := zif_f h c23
            refine zR_icmp_gt_f (tgt := 274) dX12_tellRule_260 (by decide) c23 ?_
            refine zR_iload_n dX12_tellRule_263 2 rfl ?_
            refine zR_bipush (x := (12 : Int32)) dX12_tellRule_264 rfl ?_
            by_cases c24 : x3 = (12 : Int32)
            · have h := zif_t h c24
              refine zR_icmp_ne_f (tgt := 274) dX12_tellRule_266 (by decide) c24 ?_
              refine zR_aload_n dX12_tellRule_269 0 rfl ?_
              refine zR_iconst (x := (2 : Int32)) dX12_tellRule_270 rfl ?_
              obtain ⟨q25, hq26, h⟩ := zbd_some h
              refine zR_cV (rest := []) (st1 := []) dX12_tellRule_271 (mX12_fail F V0 V1 V2 V3 V4 V5 V6 V7 (2 : Int32) _ hq26) zc_X12_276 rfl (zE_at zd_88) ⟨_, _, rfl⟩ rfl (Nat.le_of_ble_eq_true rfl) (Nat.le_of_ble_eq_true rfl) rfl ?_
              refine zR_sub (lv' := [(0, .ref (w.1 + 88)), (1, .int x1), (3, .int x3)]) [0, 1, 2] rfl ?_
              exact wX12_tellRule_b274 F (fX12_tellRule_l223 F n) ih V0 V1 V2 V3 V4 V5 V6 q25 x1 x3 _ h
            · have h := zif_f h c24
              refine zR_icmp_ne_t (tgt := 274) dX12_tellRule_266 (by decide) c24 ?_
              refine zR_sub (lv' := [(0, .ref (w.1 + 88)), (1, .int x1), (3, .int x3)]) [0, 1, 2] rfl ?_
              exact wX12_tellRule_b274 F (fX12_tellRule_l223 F n) ih V0 V1 V2 V3 V4 V5 V6 V7 x1 x3 _ h
      · have h := zif_f h c19
        refine zR_if_ne_t (tgt := 301) dX12_tellRule_232 (by decide) c19 ?_
        refine zR_sub (lv' := [(0, .ref (w.1 + 88)), (1, .int x1)]) [0, 1] rfl ?_
        exact wX12_tellRule_b301 F V0 V1 V2 V3 V4 V5 V6 V7 x1 _ h
set_option maxRecDepth 100000 in
set_option maxHeartbeats 4000000 in
theorem wX12_tellRule_b175 {w : zW} (F : Nat) (V0 V1 V2 V3 V4 V5 V6 V7 : zV) (x1 : Int32) (res : zV) (h : fX12_tellRule_b175 F V7 x1 = some res) : zR w kX12_tellRule 5 0 0 none (zE zds w [V0, V1, V2, V3, V4, V5, V6, res]) 175 [(0, .ref (w.1 + 88)), (1, .int x1)] [] (zE zds w [V0, V1, V2, V3, V4, V5, V6, V7]) := by
  unfold fX12_tellRule_b175 at h
  refine zR_aload_n dX12_tellRule_175 0 rfl ?_
  refine zG_getR dX12_tellRule_176 zf_X12_91 zd_88 rfl rfl ?_
  refine zR_bipush (x := (81 : Int32)) dX12_tellRule_179 rfl ?_
  refine zR_aload_n dX12_tellRule_181 0 rfl ?_
  refine zG_getI dX12_tellRule_182 zf_X12_299 zd_88 rfl rfl ?_
  refine zR_imul dX12_tellRule_185 ?_
  refine zR_iload_n dX12_tellRule_186 1 rfl ?_
  refine zR_iadd dX12_tellRule_187 ?_
  refine zR_iconst (x := (1 : Int32)) dX12_tellRule_188 rfl ?_
  refine zR_iadd dX12_tellRule_189 ?_
  refine zR_aload_n dX12_tellRule_190 0 rfl ?_
  refine zG_getI dX12_tellRule_191 zf_X12_311 zd_88 rfl rfl ?_
  obtain ⟨g27, h⟩ := zchk_some h
  obtain ⟨V7_28, e29, h⟩ := zlet_some h
  refine zG_iast zds_ok dX12_tellRule_194 zd_113 rfl rfl g27 e29 rfl ?_
  refine zR_aload_n dX12_tellRule_195 0 rfl ?_
  refine zR_iconst (x := (5 : Int32)) dX12_tellRule_196 rfl ?_
  obtain ⟨q30, hq31, h⟩ := zbd_some h
  refine zR_cV (rest := []) (st1 := []) dX12_tellRule_197 (mX12_must F V0 V1 V2 V3 V4 V5 V6 V7_28 (5 : Int32) _ hq31) zc_X12_292 rfl (zE_at zd_88) ⟨_, _, rfl⟩ rfl (Nat.le_of_ble_eq_true rfl) (Nat.le_of_ble_eq_true rfl) rfl ?_
  refine zR_aload_n dX12_tellRule_200 0 rfl ?_
  refine zG_getR dX12_tellRule_201 zf_X12_94 zd_88 rfl rfl ?_
  refine zR_bipush (x := (81 : Int32)) dX12_tellRule_204 rfl ?_
  refine zR_aload_n dX12_tellRule_206 0 rfl ?_
  refine zG_getI dX12_tellRule_207 zf_X12_299 zd_88 rfl rfl ?_
  refine zR_imul dX12_tellRule_210 ?_
  refine zR_iload_n dX12_tellRule_211 1 rfl ?_
  refine zR_iadd dX12_tellRule_212 ?_
  refine zR_aload_n dX12_tellRule_213 0 rfl ?_
  refine zG_getI dX12_tellRule_214 zf_X12_314 zd_88 rfl rfl ?_
  obtain ⟨g32, h⟩ := zchk_some h
  obtain ⟨V7_33, e34, h⟩ := zlet_some h
  refine zG_iast zds_ok dX12_tellRule_217 zd_114 rfl rfl g32 e34 rfl ?_
  refine zR_iconst (x := (0 : Int32)) dX12_tellRule_218 rfl ?_
  refine zR_istore_n (lv' := [(0, .ref (w.1 + 88)), (1, .int x1), (3, .int (0 : Int32))]) dX12_tellRule_219 (Nat.le_of_ble_eq_true rfl) rfl ?_
  refine zR_iconst (x := (1 : Int32)) dX12_tellRule_220 rfl ?_
  refine zR_istore (lv' := [(0, .ref (w.1 + 88)), (1, .int x1), (3, .int (0 : Int32)), (4, .int (1 : Int32))]) dX12_tellRule_221 (Nat.le_of_ble_eq_true rfl) rfl ?_
  exact wX12_tellRule_l223 F F V0 V1 V2 V3 V4 V5 V6 V7_33 x1 (0 : Int32) (1 : Int32) _ h
set_option maxRecDepth 100000 in
set_option maxHeartbeats 4000000 in
theorem wX12_tellRule_l155 {w : zW} (F : Nat) : ∀ (n : Nat) (V0 V1 V2 V3 V4 V5 V6 V7 : zV) (x1 : Int32) (res : zV), fX12_tellRule_l155 F n V7 x1 = some res → zR w kX12_tellRule 5 0 0 none (zE zds w [V0, V1, V2, V3, V4, V5, V6, res]) 155 [(0, .ref (w.1 + 88)), (1, .int x1)] [] (zE zds w [V0, V1, V2, V3, V4, V5, V6, V7]) := by
  intro n
  induction n with
  | zero =>
    intro V0 V1 V2 V3 V4 V5 V6 V7 x1 res h
    simp [fX12_tellRule_l155] at h
  | succ n ih =>
    intro V0 V1 V2 V3 V4 V5 V6 V7 x1 res h
    rw [fX12_tellRule_l155] at h
    refine zR_aload_n dX12_tellRule_155 0 rfl ?_
    refine zR_bipush (x := (44 : Int32)) dX12_tellRule_156 rfl ?_
    obtain ⟨q35, hq36, h⟩ := zbd_some h
    refine zR_cV (rest := []) (st1 := [.int q35]) dX12_tellRule_158 (mX12_is F V0 V1 V2 V3 V4 V5 V6 V7 (44 : Int32) _ hq36) zc_X12_279 rfl (zE_at zd_88) ⟨_, _, rfl⟩ rfl (Nat.le_of_ble_eq_true rfl) (Nat.le_of_ble_eq_true rfl) rfl ?_
    by_cases c37 : q35 = 0
    · have h := zif_t h c37
      refine zR_if_eq_t (tgt := 175) dX12_tellRule_161 (by decide) c37 ?_
      exact wX12_tellRule_b175 F V0 V1 V2 V3 V4 V5 V6 V7 x1 _ h
    · have h := zif_f h c37
      refine zR_if_eq_f (tgt := 175) dX12_tellRule_161 (by decide) c37 ?_
      refine zR_aload_n dX12_tellRule_164 0 rfl ?_
      obtain ⟨q38, hq39, h⟩ := zbd_some h
      refine zR_cV (rest := []) (st1 := []) dX12_tellRule_165 (mX12_next F V0 V1 V2 V3 V4 V5 V6 V7 _ hq39) zc_X12_282 rfl (zE_at zd_88) ⟨_, _, rfl⟩ rfl (Nat.le_of_ble_eq_true rfl) (Nat.le_of_ble_eq_true rfl) rfl ?_
      refine zR_aload_n dX12_tellRule_168 0 rfl ?_
      obtain ⟨q40, hq41, h⟩ := zbd_some h
      refine zR_cV (rest := []) (st1 := []) dX12_tellRule_169 (mX12_relation F V0 V1 V2 V3 V4 V5 V6 q38 _ hq41) zc_X12_348 rfl (zE_at zd_88) ⟨_, _, rfl⟩ rfl (Nat.le_of_ble_eq_true rfl) (Nat.le_of_ble_eq_true rfl) rfl ?_
      refine zR_goto (tgt := 155) dX12_tellRule_172 (by decide) ?_
      exact ih V0 V1 V2 V3 V4 V5 V6 q40 x1 _ h
set_option maxRecDepth 100000 in
set_option maxHeartbeats 4000000 in
theorem wX12_tellRule_b120 {w : zW} (F : Nat) (V0 V1 V2 V3 V4 V5 V6 V7 : zV) (x1 : Int32) (res : zV) (h : fX12_tellRule_b120 F V7 x1 = some res) : zR w kX12_tellRule 5 0 0 none (zE zds w [V0, V1, V2, V3, V4, V5, V6, res]) 120 [(0, .ref (w.1 + 88)), (1, .int x1)] [] (zE zds w [V0, V1, V2, V3, V4, V5, V6, V7]) := by
  unfold fX12_tellRule_b120 at h
  refine zR_aload_n dX12_tellRule_120 0 rfl ?_
  refine zG_getR dX12_tellRule_121 zf_X12_91 zd_88 rfl rfl ?_
  refine zR_bipush (x := (81 : Int32)) dX12_tellRule_124 rfl ?_
  refine zR_aload_n dX12_tellRule_126 0 rfl ?_
  refine zG_getI dX12_tellRule_127 zf_X12_299 zd_88 rfl rfl ?_
  refine zR_imul dX12_tellRule_130 ?_
  refine zR_iload_n dX12_tellRule_131 1 rfl ?_
  refine zR_iadd dX12_tellRule_132 ?_
  refine zR_aload_n dX12_tellRule_133 0 rfl ?_
  refine zG_getI dX12_tellRule_134 zf_X12_311 zd_88 rfl rfl ?_
  obtain ⟨g42, h⟩ := zchk_some h
  obtain ⟨V7_43, e44, h⟩ := zlet_some h
  refine zG_iast zds_ok dX12_tellRule_137 zd_113 rfl rfl g42 e44 rfl ?_
  refine zR_aload_n dX12_tellRule_138 0 rfl ?_
  refine zR_bipush (x := (34 : Int32)) dX12_tellRule_139 rfl ?_
  obtain ⟨q45, hq46, h⟩ := zbd_some h
  refine zR_cV (rest := []) (st1 := [.int q45]) dX12_tellRule_141 (mX12_is F V0 V1 V2 V3 V4 V5 V6 V7_43 (34 : Int32) _ hq46) zc_X12_279 rfl (zE_at zd_88) ⟨_, _, rfl⟩ rfl (Nat.le_of_ble_eq_true rfl) (Nat.le_of_ble_eq_true rfl) rfl ?_
  by_cases c47 : q45 = 0
  · have h := zif_t h c47
    refine zR_if_eq_t (tgt := 175) dX12_tellRule_144 (by decide) c47 ?_
    exact wX12_tellRule_b175 F V0 V1 V2 V3 V4 V5 V6 V7_43 x1 _ h
  · have h := zif_f h c47
    refine zR_if_eq_f (tgt := 175) dX12_tellRule_144 (by decide) c47 ?_
    refine zR_aload_n dX12_tellRule_147 0 rfl ?_
    obtain ⟨q48, hq49, h⟩ := zbd_some h
    refine zR_cV (rest := []) (st1 := []) dX12_tellRule_148 (mX12_next F V0 V1 V2 V3 V4 V5 V6 V7_43 _ hq49) zc_X12_282 rfl (zE_at zd_88) ⟨_, _, rfl⟩ rfl (Nat.le_of_ble_eq_true rfl) (Nat.le_of_ble_eq_true rfl) rfl ?_
    refine zR_aload_n dX12_tellRule_151 0 rfl ?_
    obtain ⟨q50, hq51, h⟩ := zbd_some h
    refine zR_cV (rest := []) (st1 := []) dX12_tellRule_152 (mX12_relation F V0 V1 V2 V3 V4 V5 V6 q48 _ hq51) zc_X12_348 rfl (zE_at zd_88) ⟨_, _, rfl⟩ rfl (Nat.le_of_ble_eq_true rfl) (Nat.le_of_ble_eq_true rfl) rfl ?_
    exact wX12_tellRule_l155 F F V0 V1 V2 V3 V4 V5 V6 q50 x1 _ h
set_option maxRecDepth 100000 in
set_option maxHeartbeats 4000000 in
theorem wX12_tellRule_b102 {w : zW} (F : Nat) (V0 V1 V2 V3 V4 V5 V6 V7 : zV) (x1 : Int32) (res : zV) (h : fX12_tellRule_b102 F V7 x1 = some res) : zR w kX12_tellRule 5 0 0 none (zE zds w [V0, V1, V2, V3, V4, V5, V6, res]) 102 [(0, .ref (w.1 + 88)), (1, .int x1)] [] (zE zds w [V0, V1, V2, V3, V4, V5, V6, V7]) := by
  unfold fX12_tellRule_b102 at h
  refine zR_aload_n dX12_tellRule_102 0 rfl ?_
  obtain ⟨q52, hq53, h⟩ := zbd_some h
  refine zR_cV (rest := []) (st1 := []) dX12_tellRule_103 (mX12_next F V0 V1 V2 V3 V4 V5 V6 V7 _ hq53) zc_X12_282 rfl (zE_at zd_88) ⟨_, _, rfl⟩ rfl (Nat.le_of_ble_eq_true rfl) (Nat.le_of_ble_eq_true rfl) rfl ?_
  refine zR_goto (tgt := 120) dX12_tellRule_106 (by decide) ?_
  exact wX12_tellRule_b120 F V0 V1 V2 V3 V4 V5 V6 q52 x1 _ h
set_option maxRecDepth 100000 in
set_option maxHeartbeats 4000000 in
theorem wX12_tellRule_b83 {w : zW} (F : Nat) (V0 V1 V2 V3 V4 V5 V6 V7 : zV) (x1 : Int32) (x2 : Int32) (s1 : Int32) (s2 : Int32) (res : zV) (h : fX12_tellRule_b83 F V7 x1 x2 s1 s2 = some res) : zR w kX12_tellRule 5 0 0 none (zE zds w [V0, V1, V2, V3, V4, V5, V6, res]) 83 [(0, .ref (w.1 + 88)), (1, .int x1), (2, .int x2)] [.int s2, .int s1, .ref (w.1 + 112)] (zE zds w [V0, V1, V2, V3, V4, V5, V6, V7]) := by
  unfold fX12_tellRule_b83 at h
  obtain ⟨g54, h⟩ := zchk_some h
  obtain ⟨V7_55, e56, h⟩ := zlet_some h
  refine zG_iast zds_ok dX12_tellRule_83 zd_112 rfl rfl g54 e56 rfl ?_
  refine zR_aload_n dX12_tellRule_84 0 rfl ?_
  refine zR_bipush (x := (32 : Int32)) dX12_tellRule_85 rfl ?_
  obtain ⟨q57, hq58, h⟩ := zbd_some h
  refine zR_cV (rest := []) (st1 := [.int q57]) dX12_tellRule_87 (mX12_is F V0 V1 V2 V3 V4 V5 V6 V7_55 (32 : Int32) _ hq58) zc_X12_279 rfl (zE_at zd_88) ⟨_, _, rfl⟩ rfl (Nat.le_of_ble_eq_true rfl) (Nat.le_of_ble_eq_true rfl) rfl ?_
  by_cases c59 : q57 = 0
  · have h := zif_t h c59
    refine zR_if_ne_f (tgt := 102) dX12_tellRule_90 (by decide) c59 ?_
    refine zR_aload_n dX12_tellRule_93 0 rfl ?_
    refine zR_bipush (x := (33 : Int32)) dX12_tellRule_94 rfl ?_
    obtain ⟨q60, hq61, h⟩ := zbd_some h
    refine zR_cV (rest := []) (st1 := [.int q60]) dX12_tellRule_96 (mX12_is F V0 V1 V2 V3 V4 V5 V6 V7_55 (33 : Int32) _ hq61) zc_X12_279 rfl (zE_at zd_88) ⟨_, _, rfl⟩ rfl (Nat.le_of_ble_eq_true rfl) (Nat.le_of_ble_eq_true rfl) rfl ?_
    by_cases c62 : q60 = 0
    · have h := zif_t h c62
      refine zR_if_eq_t (tgt := 109) dX12_tellRule_99 (by decide) c62 ?_
      refine zR_aload_n dX12_tellRule_109 0 rfl ?_
      refine zG_getR dX12_tellRule_110 zf_X12_88 zd_88 rfl rfl ?_
      refine zR_iload_n dX12_tellRule_113 2 rfl ?_
      refine zR_aload_n dX12_tellRule_114 0 rfl ?_
      refine zR_iconst (x := (0 : Int32)) dX12_tellRule_115 rfl ?_
      obtain ⟨q63, hq64, h⟩ := zbd_some h
      refine zR_cV (rest := [.int x2, .ref (w.1 + 112)]) (st1 := [.int q63.1, .int x2, .ref (w.1 + 112)]) dX12_tellRule_116 (mX12_namedNext F V0 V1 V2 V3 V4 V5 V6 V7_55 (0 : Int32) _ hq64) zc_X12_342 rfl (zE_at zd_88) ⟨_, _, rfl⟩ rfl (Nat.le_of_ble_eq_true rfl) (Nat.le_of_ble_eq_true rfl) rfl ?_
      obtain ⟨g65, h⟩ := zchk_some h
      obtain ⟨V7_66, e67, h⟩ := zlet_some h
      refine zG_iast zds_ok dX12_tellRule_119 zd_112 rfl rfl g65 e67 rfl ?_
      refine zR_sub (lv' := [(0, .ref (w.1 + 88)), (1, .int x1)]) [0, 1] rfl ?_
      exact wX12_tellRule_b120 F V0 V1 V2 V3 V4 V5 V6 V7_66 x1 _ h
    · have h := zif_f h c62
      refine zR_if_eq_f (tgt := 109) dX12_tellRule_99 (by decide) c62 ?_
      refine zR_sub (lv' := [(0, .ref (w.1 + 88)), (1, .int x1)]) [0, 1] rfl ?_
      exact wX12_tellRule_b102 F V0 V1 V2 V3 V4 V5 V6 V7_55 x1 _ h
  · have h := zif_f h c59
    refine zR_if_ne_t (tgt := 102) dX12_tellRule_90 (by decide) c59 ?_
    refine zR_sub (lv' := [(0, .ref (w.1 + 88)), (1, .int x1)]) [0, 1] rfl ?_
    exact wX12_tellRule_b102 F V0 V1 V2 V3 V4 V5 V6 V7_55 x1 _ h
set_option maxRecDepth 100000 in
set_option maxHeartbeats 4000000 in
theorem wX12_tellRule_b23 {w : zW} (F : Nat) (V0 V1 V2 V3 V4 V5 V6 V7 : zV) (res : zV) (h : fX12_tellRule_b23 F V7 = some res) : zR w kX12_tellRule 5 0 0 none (zE zds w [V0, V1, V2, V3, V4, V5, V6, res]) 23 [(0, .ref (w.1 + 88))] [] (zE zds w [V0, V1, V2, V3, V4, V5, V6, V7]) := by
  unfold fX12_tellRule_b23 at h
  refine zR_aload_n dX12_tellRule_23 0 rfl ?_
  refine zR_bipush (x := (31 : Int32)) dX12_tellRule_24 rfl ?_
  obtain ⟨q68, hq69, h⟩ := zbd_some h
  refine zR_cV (rest := []) (st1 := []) dX12_tellRule_26 (mX12_must F V0 V1 V2 V3 V4 V5 V6 V7 (31 : Int32) _ hq69) zc_X12_292 rfl (zE_at zd_88) ⟨_, _, rfl⟩ rfl (Nat.le_of_ble_eq_true rfl) (Nat.le_of_ble_eq_true rfl) rfl ?_
  refine zR_aload_n dX12_tellRule_29 0 rfl ?_
  refine zG_getI dX12_tellRule_30 zf_X12_261 zd_88 rfl rfl ?_
  by_cases c70 : (zI q68 0 13) ≤ 0
  · have h := zif_t h c70
    refine zR_if_le_t (tgt := 37) dX12_tellRule_33 (by decide) c70 ?_
    refine zR_aload_n dX12_tellRule_37 0 rfl ?_
    refine zG_getR dX12_tellRule_38 zf_X12_40 zd_88 rfl rfl ?_
    refine zR_bipush (x := (9 : Int32)) dX12_tellRule_41 rfl ?_
    refine zR_aload_n dX12_tellRule_43 0 rfl ?_
    refine zG_getI dX12_tellRule_44 zf_X12_299 zd_88 rfl rfl ?_
    refine zR_imul dX12_tellRule_47 ?_
    refine zR_bipush (x := (8 : Int32)) dX12_tellRule_48 rfl ?_
    refine zR_iadd dX12_tellRule_50 ?_
    obtain ⟨g71, h⟩ := zchk_some h
    refine zG_iald dX12_tellRule_51 zd_96 rfl rfl g71 ?_
    obtain ⟨y72, e73, h⟩ := zlet_some h
    refine zR_nmI e73 ?_
    refine zR_istore_n (lv' := [(0, .ref (w.1 + 88)), (1, .int y72)]) dX12_tellRule_52 (Nat.le_of_ble_eq_true rfl) rfl ?_
    refine zR_bipush (x := (80 : Int32)) dX12_tellRule_53 rfl ?_
    refine zR_aload_n dX12_tellRule_55 0 rfl ?_
    refine zG_getI dX12_tellRule_56 zf_X12_299 zd_88 rfl rfl ?_
    refine zR_imul dX12_tellRule_59 ?_
    refine zR_iload_n dX12_tellRule_60 1 rfl ?_
    refine zR_iadd dX12_tellRule_61 ?_
    obtain ⟨y74, e75, h⟩ := zlet_some h
    refine zR_nmI e75 ?_
    refine zR_istore_n (lv' := [(0, .ref (w.1 + 88)), (1, .int y72), (2, .int y74)]) dX12_tellRule_62 (Nat.le_of_ble_eq_true rfl) rfl ?_
    refine zR_aload_n dX12_tellRule_63 0 rfl ?_
    refine zG_getR dX12_tellRule_64 zf_X12_88 zd_88 rfl rfl ?_
    refine zR_iload_n dX12_tellRule_67 2 rfl ?_
    refine zR_aload_n dX12_tellRule_68 0 rfl ?_
    refine zR_bipush (x := (32 : Int32)) dX12_tellRule_69 rfl ?_
    obtain ⟨q76, hq77, h⟩ := zbd_some h
    refine zR_cV (rest := [.int y74, .ref (w.1 + 112)]) (st1 := [.int q76, .int y74, .ref (w.1 + 112)]) dX12_tellRule_71 (mX12_is F V0 V1 V2 V3 V4 V5 V6 q68 (32 : Int32) _ hq77) zc_X12_279 rfl (zE_at zd_88) ⟨_, _, rfl⟩ rfl (Nat.le_of_ble_eq_true rfl) (Nat.le_of_ble_eq_true rfl) rfl ?_
    by_cases c78 : q76 = 0
    · have h := zif_t h c78
      refine zR_if_eq_t (tgt := 81) dX12_tellRule_74 (by decide) c78 ?_
      refine zR_bipush (x := (-2 : Int32)) dX12_tellRule_81 (by decide) ?_
      exact wX12_tellRule_b83 F V0 V1 V2 V3 V4 V5 V6 q68 y72 y74 y74 (-2 : Int32) _ h
    · have h := zif_f h c78
      refine zR_if_eq_f (tgt := 81) dX12_tellRule_74 (by decide) c78 ?_
      refine zR_iconst (x := (-1 : Int32)) dX12_tellRule_77 (by decide) ?_
      refine zR_goto (tgt := 83) dX12_tellRule_78 (by decide) ?_
      exact wX12_tellRule_b83 F V0 V1 V2 V3 V4 V5 V6 q68 y72 y74 y74 (-1 : Int32) _ h
  · have h := zif_f h c70
    refine zR_if_le_f (tgt := 37) dX12_tellRule_33 (by decide) c70 ?_
    have h := Option.some.inj h
    subst h
    exact zR_ret dX12_tellRule_36 rfl
set_option maxRecDepth 100000 in
set_option maxHeartbeats 4000000 in
theorem mX12_tellRule {w : zW} (F : Nat) (V0 V1 V2 V3 V4 V5 V6 V7 : zV) (res : zV) (h : fX12_tellRule F V7 = some res) : zMet w kX12_tellRule 5 0 0 [.ref (w.1 + 88)] (zE zds w [V0, V1, V2, V3, V4, V5, V6, V7]) none (zE zds w [V0, V1, V2, V3, V4, V5, V6, res]) := by
  refine zMet_of (by decide) (Nat.le_of_ble_eq_true rfl) (Nat.le_refl 0) fun _ => ?_
  show zR w kX12_tellRule 5 0 0 none (zE zds w [V0, V1, V2, V3, V4, V5, V6, res]) 0 [(0, .ref (w.1 + 88))] [] (zE zds w [V0, V1, V2, V3, V4, V5, V6, V7])
  unfold fX12_tellRule at h
  refine zR_aload_n dX12_tellRule_0 0 rfl ?_
  refine zR_bipush (x := (31 : Int32)) dX12_tellRule_1 rfl ?_
  obtain ⟨q79, hq80, h⟩ := zbd_some h
  refine zR_cV (rest := []) (st1 := [.int q79]) dX12_tellRule_3 (mX12_is F V0 V1 V2 V3 V4 V5 V6 V7 (31 : Int32) _ hq80) zc_X12_279 rfl (zE_at zd_88) ⟨_, _, rfl⟩ rfl (Nat.le_of_ble_eq_true rfl) (Nat.le_of_ble_eq_true rfl) rfl ?_
  by_cases c81 : q79 = 0
  · have h := zif_t h c81
    refine zR_if_eq_t (tgt := 23) dX12_tellRule_6 (by decide) c81 ?_
    exact wX12_tellRule_b23 F V0 V1 V2 V3 V4 V5 V6 V7 _ h
  · have h := zif_f h c81
    refine zR_if_eq_f (tgt := 23) dX12_tellRule_6 (by decide) c81 ?_
    refine zR_aload_n dX12_tellRule_9 0 rfl ?_
    refine zR_bipush (x := (8 : Int32)) dX12_tellRule_10 rfl ?_
    obtain ⟨q82, hq83, h⟩ := zbd_some h
    refine zR_cV (rest := []) (st1 := [.int q82]) dX12_tellRule_12 (mX12_isFull F V0 V1 V2 V3 V4 V5 V6 V7 (8 : Int32) _ hq83) zc_X12_336 rfl (zE_at zd_88) ⟨_, _, rfl⟩ rfl (Nat.le_of_ble_eq_true rfl) (Nat.le_of_ble_eq_true rfl) rfl ?_
    by_cases c84 : q82 = 0
    · have h := zif_t h c84
      refine zR_if_eq_t (tgt := 23) dX12_tellRule_15 (by decide) c84 ?_
      exact wX12_tellRule_b23 F V0 V1 V2 V3 V4 V5 V6 V7 _ h
    · have h := zif_f h c84
      refine zR_if_eq_f (tgt := 23) dX12_tellRule_15 (by decide) c84 ?_
      refine zR_aload_n dX12_tellRule_18 0 rfl ?_
      refine zR_iconst (x := (2 : Int32)) dX12_tellRule_19 rfl ?_
      obtain ⟨q85, hq86, h⟩ := zbd_some h
      refine zR_cV (rest := []) (st1 := []) dX12_tellRule_20 (mX12_fail F V0 V1 V2 V3 V4 V5 V6 V7 (2 : Int32) _ hq86) zc_X12_276 rfl (zE_at zd_88) ⟨_, _, rfl⟩ rfl (Nat.le_of_ble_eq_true rfl) (Nat.le_of_ble_eq_true rfl) rfl ?_
      exact wX12_tellRule_b23 F V0 V1 V2 V3 V4 V5 V6 q85 _ h
set_option maxRecDepth 100000 in
set_option maxHeartbeats 4000000 in
theorem wX12_tellMode_b271 {w : zW} (F : Nat) (V0 V1 V2 V3 V4 V5 V6 V7 : zV) (x4 : Int32) (res : zV) (h : fX12_tellMode_b271 F V7 x4 = some res) : zR w kX12_tellMode 6 0 0 none (zE zds w [V0, V1, V2, V3, V4, V5, V6, res]) 271 [(0, .ref (w.1 + 88)), (4, .int x4)] [] (zE zds w [V0, V1, V2, V3, V4, V5, V6, V7]) := by
  unfold fX12_tellMode_b271 at h
  refine zR_aload_n dX12_tellMode_271 0 rfl ?_
  refine zR_bipush (x := (30 : Int32)) dX12_tellMode_272 rfl ?_
  obtain ⟨q1, hq2, h⟩ := zbd_some h
  refine zR_cV (rest := []) (st1 := []) dX12_tellMode_274 (mX12_must F V0 V1 V2 V3 V4 V5 V6 V7 (30 : Int32) _ hq2) zc_X12_292 rfl (zE_at zd_88) ⟨_, _, rfl⟩ rfl (Nat.le_of_ble_eq_true rfl) (Nat.le_of_ble_eq_true rfl) rfl ?_
  refine zR_aload_n dX12_tellMode_277 0 rfl ?_
  refine zG_getR dX12_tellMode_278 zf_X12_85 zd_88 rfl rfl ?_
  refine zR_bipush (x := (13 : Int32)) dX12_tellMode_281 rfl ?_
  refine zR_aload_n dX12_tellMode_283 0 rfl ?_
  refine zG_getI dX12_tellMode_284 zf_X12_299 zd_88 rfl rfl ?_
  refine zR_imul dX12_tellMode_287 ?_
  refine zR_iload dX12_tellMode_288 1 rfl ?_
  refine zR_iadd dX12_tellMode_290 ?_
  refine zR_iconst (x := (1 : Int32)) dX12_tellMode_291 rfl ?_
  refine zR_iadd dX12_tellMode_292 ?_
  refine zR_aload_n dX12_tellMode_293 0 rfl ?_
  refine zG_getR dX12_tellMode_294 zf_X12_40 zd_88 rfl rfl ?_
  refine zR_bipush (x := (9 : Int32)) dX12_tellMode_297 rfl ?_
  refine zR_aload_n dX12_tellMode_299 0 rfl ?_
  refine zG_getI dX12_tellMode_300 zf_X12_299 zd_88 rfl rfl ?_
  refine zR_imul dX12_tellMode_303 ?_
  refine zR_bipush (x := (8 : Int32)) dX12_tellMode_304 rfl ?_
  refine zR_iadd dX12_tellMode_306 ?_
  obtain ⟨g3, h⟩ := zchk_some h
  refine zG_iald dX12_tellMode_307 zd_96 rfl rfl g3 ?_
  obtain ⟨g4, h⟩ := zchk_some h
  obtain ⟨V7_5, e6, h⟩ := zlet_some h
  refine zG_iast zds_ok dX12_tellMode_308 zd_111 rfl rfl g4 e6 rfl ?_
  have h := Option.some.inj h
  subst h
  exact zR_ret dX12_tellMode_309 rfl
set_option maxRecDepth 100000 in
set_option maxHeartbeats 4000000 in
theorem wX12_tellMode_l248 {w : zW} (F : Nat) : ∀ (n : Nat) (V0 V1 V2 V3 V4 V5 V6 V7 : zV) (x4 : Int32) (res : zV), fX12_tellMode_l248 F n V7 x4 = some res → zR w kX12_tellMode 6 0 0 none (zE zds w [V0, V1, V2, V3, V4, V5, V6, res]) 248 [(0, .ref (w.1 + 88)), (4, .int x4)] [] (zE zds w [V0, V1, V2, V3, V4, V5, V6, V7]) := by
  intro n
  induction n with
  | zero =>
    intro V0 V1 V2 V3 V4 V5 V6 V7 x4 res h
    simp [fX12_tellMode_l248] at h
  | succ n ih =>
    intro V0 V1 V2 V3 V4 V5 V6 V7 x4 res h
    rw [fX12_tellMode_l248] at h
    refine zR_aload_n dX12_tellMode_248 0 rfl ?_
    refine zG_getI dX12_tellMode_249 zf_X12_261 zd_88 rfl rfl ?_
    by_cases c7 : (zI V7 0 13) = 0
    · have h := zif_t h c7
      refine zR_if_ne_f (tgt := 271) dX12_tellMode_252 (by decide) c7 ?_
      refine zR_aload_n dX12_tellMode_255 0 rfl ?_
      refine zR_bipush (x := (30 : Int32)) dX12_tellMode_256 rfl ?_
      obtain ⟨q8, hq9, h⟩ := zbd_some h
      refine zR_cV (rest := []) (st1 := [.int q8]) dX12_tellMode_258 (mX12_is F V0 V1 V2 V3 V4 V5 V6 V7 (30 : Int32) _ hq9) zc_X12_279 rfl (zE_at zd_88) ⟨_, _, rfl⟩ rfl (Nat.le_of_ble_eq_true rfl) (Nat.le_of_ble_eq_true rfl) rfl ?_
      by_cases c10 : q8 = 0
      · have h := zif_t h c10
        refine zR_if_ne_f (tgt := 271) dX12_tellMode_261 (by decide) c10 ?_
        refine zR_aload_n dX12_tellMode_264 0 rfl ?_
        obtain ⟨q11, hq12, h⟩ := zbd_some h
        refine zR_cV (rest := []) (st1 := []) dX12_tellMode_265 (mX12_tellRule F V0 V1 V2 V3 V4 V5 V6 V7 _ hq12) zc_X12_345 rfl (zE_at zd_88) ⟨_, _, rfl⟩ rfl (Nat.le_of_ble_eq_true rfl) (Nat.le_of_ble_eq_true rfl) rfl ?_
        refine zR_goto (tgt := 248) dX12_tellMode_268 (by decide) ?_
        exact ih V0 V1 V2 V3 V4 V5 V6 q11 x4 _ h
      · have h := zif_f h c10
        refine zR_if_ne_t (tgt := 271) dX12_tellMode_261 (by decide) c10 ?_
        exact wX12_tellMode_b271 F V0 V1 V2 V3 V4 V5 V6 V7 x4 _ h
    · have h := zif_f h c7
      refine zR_if_ne_t (tgt := 271) dX12_tellMode_252 (by decide) c7 ?_
      exact wX12_tellMode_b271 F V0 V1 V2 V3 V4 V5 V6 V7 x4 _ h
set_option maxRecDepth 100000 in
set_option maxHeartbeats 4000000 in
theorem wX12_tellMode_b169 {w : zW} (F : Nat) (V0 V1 V2 V3 V4 V5 V6 V7 : zV) (res : zV) (h : fX12_tellMode_b169 F V7 = some res) : zR w kX12_tellMode 6 0 0 none (zE zds w [V0, V1, V2, V3, V4, V5, V6, res]) 169 [(0, .ref (w.1 + 88))] [] (zE zds w [V0, V1, V2, V3, V4, V5, V6, V7]) := by
  unfold fX12_tellMode_b169 at h
  refine zR_aload_n dX12_tellMode_169 0 rfl ?_
  refine zR_iconst (x := (4 : Int32)) dX12_tellMode_170 rfl ?_
  obtain ⟨q13, hq14, h⟩ := zbd_some h
  refine zR_cV (rest := []) (st1 := []) dX12_tellMode_171 (mX12_must F V0 V1 V2 V3 V4 V5 V6 V7 (4 : Int32) _ hq14) zc_X12_292 rfl (zE_at zd_88) ⟨_, _, rfl⟩ rfl (Nat.le_of_ble_eq_true rfl) (Nat.le_of_ble_eq_true rfl) rfl ?_
  refine zR_aload_n dX12_tellMode_174 0 rfl ?_
  refine zG_getI dX12_tellMode_175 zf_X12_261 zd_88 rfl rfl ?_
  by_cases c15 : (zI q13 0 13) ≤ 0
  · have h := zif_t h c15
    refine zR_if_le_t (tgt := 182) dX12_tellMode_178 (by decide) c15 ?_
    refine zR_aload_n dX12_tellMode_182 0 rfl ?_
    refine zG_getR dX12_tellMode_183 zf_X12_40 zd_88 rfl rfl ?_
    refine zR_bipush (x := (9 : Int32)) dX12_tellMode_186 rfl ?_
    refine zR_aload_n dX12_tellMode_188 0 rfl ?_
    refine zG_getI dX12_tellMode_189 zf_X12_299 zd_88 rfl rfl ?_
    refine zR_imul dX12_tellMode_192 ?_
    refine zR_bipush (x := (7 : Int32)) dX12_tellMode_193 rfl ?_
    refine zR_iadd dX12_tellMode_195 ?_
    obtain ⟨g16, h⟩ := zchk_some h
    refine zG_iald dX12_tellMode_196 zd_96 rfl rfl g16 ?_
    obtain ⟨y17, e18, h⟩ := zlet_some h
    refine zR_nmI e18 ?_
    refine zR_istore (lv' := [(0, .ref (w.1 + 88)), (4, .int y17)]) dX12_tellMode_197 (Nat.le_of_ble_eq_true rfl) rfl ?_
    refine zR_aload_n dX12_tellMode_199 0 rfl ?_
    refine zG_getR dX12_tellMode_200 zf_X12_85 zd_88 rfl rfl ?_
    refine zR_bipush (x := (13 : Int32)) dX12_tellMode_203 rfl ?_
    refine zR_aload_n dX12_tellMode_205 0 rfl ?_
    refine zG_getI dX12_tellMode_206 zf_X12_299 zd_88 rfl rfl ?_
    refine zR_imul dX12_tellMode_209 ?_
    refine zR_iload dX12_tellMode_210 1 rfl ?_
    refine zR_iadd dX12_tellMode_212 ?_
    refine zR_aload_n dX12_tellMode_213 0 rfl ?_
    refine zG_getR dX12_tellMode_214 zf_X12_40 zd_88 rfl rfl ?_
    refine zR_bipush (x := (9 : Int32)) dX12_tellMode_217 rfl ?_
    refine zR_aload_n dX12_tellMode_219 0 rfl ?_
    refine zG_getI dX12_tellMode_220 zf_X12_299 zd_88 rfl rfl ?_
    refine zR_imul dX12_tellMode_223 ?_
    refine zR_bipush (x := (8 : Int32)) dX12_tellMode_224 rfl ?_
    refine zR_iadd dX12_tellMode_226 ?_
    obtain ⟨g19, h⟩ := zchk_some h
    refine zG_iald dX12_tellMode_227 zd_96 rfl rfl g19 ?_
    obtain ⟨g20, h⟩ := zchk_some h
    obtain ⟨V7_21, e22, h⟩ := zlet_some h
    refine zG_iast zds_ok dX12_tellMode_228 zd_111 rfl rfl g20 e22 rfl ?_
    refine zR_aload_n dX12_tellMode_229 0 rfl ?_
    refine zG_getR dX12_tellMode_230 zf_X12_40 zd_88 rfl rfl ?_
    refine zR_bipush (x := (9 : Int32)) dX12_tellMode_233 rfl ?_
    refine zR_aload_n dX12_tellMode_235 0 rfl ?_
    refine zG_getI dX12_tellMode_236 zf_X12_299 zd_88 rfl rfl ?_
    refine zR_imul dX12_tellMode_239 ?_
    refine zR_bipush (x := (7 : Int32)) dX12_tellMode_240 rfl ?_
    refine zR_iadd dX12_tellMode_242 ?_
    refine zR_dup2 dX12_tellMode_243 rfl rfl ?_
    obtain ⟨g23, h⟩ := zchk_some h
    refine zG_iald dX12_tellMode_244 zd_96 rfl rfl g23 ?_
    refine zR_iconst (x := (1 : Int32)) dX12_tellMode_245 rfl ?_
    refine zR_iadd dX12_tellMode_246 ?_
    obtain ⟨g24, h⟩ := zchk_some h
    obtain ⟨V7_25, e26, h⟩ := zlet_some h
    refine zG_iast zds_ok dX12_tellMode_247 zd_96 rfl rfl g24 e26 rfl ?_
    exact wX12_tellMode_l248 F F V0 V1 V2 V3 V4 V5 V6 V7_25 y17 _ h
  · have h := zif_f h c15
    refine zR_if_le_f (tgt := 182) dX12_tellMode_178 (by decide) c15 ?_
    have h := Option.some.inj h
    subst h
    exact zR_ret dX12_tellMode_181 rfl
set_option maxRecDepth 100000 in
set_option maxHeartbeats 4000000 in
theorem wX12_tellMode_b23 {w : zW} (F : Nat) (V0 V1 V2 V3 V4 V5 V6 V7 : zV) (res : zV) (h : fX12_tellMode_b23 F V7 = some res) : zR w kX12_tellMode 6 0 0 none (zE zds w [V0, V1, V2, V3, V4, V5, V6, res]) 23 [(0, .ref (w.1 + 88))] [] (zE zds w [V0, V1, V2, V3, V4, V5, V6, V7]) := by
  unfold fX12_tellMode_b23 at h
  refine zR_aload_n dX12_tellMode_23 0 rfl ?_
  refine zR_bipush (x := (28 : Int32)) dX12_tellMode_24 rfl ?_
  obtain ⟨q27, hq28, h⟩ := zbd_some h
  refine zR_cV (rest := []) (st1 := []) dX12_tellMode_26 (mX12_must F V0 V1 V2 V3 V4 V5 V6 V7 (28 : Int32) _ hq28) zc_X12_292 rfl (zE_at zd_88) ⟨_, _, rfl⟩ rfl (Nat.le_of_ble_eq_true rfl) (Nat.le_of_ble_eq_true rfl) rfl ?_
  refine zR_aload_n dX12_tellMode_29 0 rfl ?_
  refine zG_getI dX12_tellMode_30 zf_X12_264 zd_88 rfl rfl ?_
  refine zR_istore_n (lv' := [(0, .ref (w.1 + 88)), (1, .int (zI q27 0 11))]) dX12_tellMode_33 (Nat.le_of_ble_eq_true rfl) rfl ?_
  refine zR_aload_n dX12_tellMode_34 0 rfl ?_
  refine zR_iconst (x := (1 : Int32)) dX12_tellMode_35 rfl ?_
  obtain ⟨q29, hq30, h⟩ := zbd_some h
  refine zR_cV (rest := []) (st1 := []) dX12_tellMode_36 (mX12_must F V0 V1 V2 V3 V4 V5 V6 q27 (1 : Int32) _ hq30) zc_X12_292 rfl (zE_at zd_88) ⟨_, _, rfl⟩ rfl (Nat.le_of_ble_eq_true rfl) (Nat.le_of_ble_eq_true rfl) rfl ?_
  refine zR_aload_n dX12_tellMode_39 0 rfl ?_
  refine zG_getI dX12_tellMode_40 zf_X12_264 zd_88 rfl rfl ?_
  refine zR_istore_n (lv' := [(0, .ref (w.1 + 88)), (1, .int (zI q27 0 11)), (2, .int (zI q29 0 11))]) dX12_tellMode_43 (Nat.le_of_ble_eq_true rfl) rfl ?_
  refine zR_aload_n dX12_tellMode_44 0 rfl ?_
  refine zR_iconst (x := (2 : Int32)) dX12_tellMode_45 rfl ?_
  obtain ⟨q31, hq32, h⟩ := zbd_some h
  refine zR_cV (rest := []) (st1 := []) dX12_tellMode_46 (mX12_must F V0 V1 V2 V3 V4 V5 V6 q29 (2 : Int32) _ hq32) zc_X12_292 rfl (zE_at zd_88) ⟨_, _, rfl⟩ rfl (Nat.le_of_ble_eq_true rfl) (Nat.le_of_ble_eq_true rfl) rfl ?_
  refine zR_aload_n dX12_tellMode_49 0 rfl ?_
  refine zG_getI dX12_tellMode_50 zf_X12_261 zd_88 rfl rfl ?_
  by_cases c33 : (zI q31 0 13) ≤ 0
  · have h := zif_t h c33
    refine zR_if_le_t (tgt := 57) dX12_tellMode_53 (by decide) c33 ?_
    refine zR_bipush (x := (12 : Int32)) dX12_tellMode_57 rfl ?_
    refine zR_aload_n dX12_tellMode_59 0 rfl ?_
    refine zG_getI dX12_tellMode_60 zf_X12_299 zd_88 rfl rfl ?_
    refine zR_imul dX12_tellMode_63 ?_
    refine zR_aload_n dX12_tellMode_64 0 rfl ?_
    refine zG_getR dX12_tellMode_65 zf_X12_40 zd_88 rfl rfl ?_
    refine zR_bipush (x := (9 : Int32)) dX12_tellMode_68 rfl ?_
    refine zR_aload_n dX12_tellMode_70 0 rfl ?_
    refine zG_getI dX12_tellMode_71 zf_X12_299 zd_88 rfl rfl ?_
    refine zR_imul dX12_tellMode_74 ?_
    refine zR_bipush (x := (7 : Int32)) dX12_tellMode_75 rfl ?_
    refine zR_iadd dX12_tellMode_77 ?_
    obtain ⟨g34, h⟩ := zchk_some h
    refine zG_iald dX12_tellMode_78 zd_96 rfl rfl g34 ?_
    refine zR_iadd dX12_tellMode_79 ?_
    obtain ⟨y35, e36, h⟩ := zlet_some h
    refine zR_nmI e36 ?_
    refine zR_istore_n (lv' := [(0, .ref (w.1 + 88)), (1, .int (zI q27 0 11)), (2, .int (zI q29 0 11)), (3, .int y35)]) dX12_tellMode_80 (Nat.le_of_ble_eq_true rfl) rfl ?_
    refine zR_aload_n dX12_tellMode_81 0 rfl ?_
    refine zR_iload_n dX12_tellMode_82 1 rfl ?_
    refine zR_bipush (x := (7 : Int32)) dX12_tellMode_83 rfl ?_
    obtain ⟨q37, hq38, h⟩ := zbd_some h
    refine zR_cV (rest := []) (st1 := []) dX12_tellMode_85 (mX12_tells F V0 V1 V2 V3 V4 V5 V6 q31 (zI q27 0 11) (7 : Int32) _ hq38) zc_X12_339 rfl (zE_at zd_88) ⟨_, _, rfl⟩ rfl (Nat.le_of_ble_eq_true rfl) (Nat.le_of_ble_eq_true rfl) rfl ?_
    refine zR_aload_n dX12_tellMode_88 0 rfl ?_
    refine zG_getR dX12_tellMode_89 zf_X12_79 zd_88 rfl rfl ?_
    refine zR_iload_n dX12_tellMode_92 3 rfl ?_
    refine zR_aload_n dX12_tellMode_93 0 rfl ?_
    refine zG_getR dX12_tellMode_94 zf_X12_27 zd_88 rfl rfl ?_
    refine zR_iload_n dX12_tellMode_97 2 rfl ?_
    obtain ⟨g39, h⟩ := zchk_some h
    refine zG_iald dX12_tellMode_98 zd_93 rfl rfl g39 ?_
    obtain ⟨g40, h⟩ := zchk_some h
    obtain ⟨V7_41, e42, h⟩ := zlet_some h
    refine zG_iast zds_ok dX12_tellMode_99 zd_109 rfl rfl g40 e42 rfl ?_
    refine zR_aload_n dX12_tellMode_100 0 rfl ?_
    refine zG_getR dX12_tellMode_101 zf_X12_82 zd_88 rfl rfl ?_
    refine zR_iload_n dX12_tellMode_104 3 rfl ?_
    refine zR_iconst (x := (0 : Int32)) dX12_tellMode_105 rfl ?_
    obtain ⟨g43, h⟩ := zchk_some h
    obtain ⟨V7_44, e45, h⟩ := zlet_some h
    refine zG_iast zds_ok dX12_tellMode_106 zd_110 rfl rfl g43 e45 rfl ?_
    refine zR_aload_n dX12_tellMode_107 0 rfl ?_
    refine zR_bipush (x := (29 : Int32)) dX12_tellMode_108 rfl ?_
    obtain ⟨q46, hq47, h⟩ := zbd_some h
    refine zR_cV (rest := []) (st1 := [.int q46]) dX12_tellMode_110 (mX12_is F V0 V1 V2 V3 V4 V5 V6 V7_44 (29 : Int32) _ hq47) zc_X12_279 rfl (zE_at zd_88) ⟨_, _, rfl⟩ rfl (Nat.le_of_ble_eq_true rfl) (Nat.le_of_ble_eq_true rfl) rfl ?_
    by_cases c48 : q46 = 0
    · have h := zif_t h c48
      refine zR_if_eq_t (tgt := 169) dX12_tellMode_113 (by decide) c48 ?_
      refine zR_sub (lv' := [(0, .ref (w.1 + 88))]) [0] rfl ?_
      exact wX12_tellMode_b169 F V0 V1 V2 V3 V4 V5 V6 V7_44 _ h
    · have h := zif_f h c48
      refine zR_if_eq_f (tgt := 169) dX12_tellMode_113 (by decide) c48 ?_
      refine zR_aload_n dX12_tellMode_116 0 rfl ?_
      obtain ⟨q49, hq50, h⟩ := zbd_some h
      refine zR_cV (rest := []) (st1 := []) dX12_tellMode_117 (mX12_next F V0 V1 V2 V3 V4 V5 V6 V7_44 _ hq50) zc_X12_282 rfl (zE_at zd_88) ⟨_, _, rfl⟩ rfl (Nat.le_of_ble_eq_true rfl) (Nat.le_of_ble_eq_true rfl) rfl ?_
      refine zR_aload_n dX12_tellMode_120 0 rfl ?_
      refine zG_getI dX12_tellMode_121 zf_X12_264 zd_88 rfl rfl ?_
      refine zR_istore (lv' := [(0, .ref (w.1 + 88)), (1, .int (zI q27 0 11)), (2, .int (zI q29 0 11)), (3, .int y35), (4, .int (zI q49 0 11))]) dX12_tellMode_124 (Nat.le_of_ble_eq_true rfl) rfl ?_
      refine zR_aload_n dX12_tellMode_126 0 rfl ?_
      refine zR_iconst (x := (2 : Int32)) dX12_tellMode_127 rfl ?_
      obtain ⟨q51, hq52, h⟩ := zbd_some h
      refine zR_cV (rest := []) (st1 := []) dX12_tellMode_128 (mX12_must F V0 V1 V2 V3 V4 V5 V6 q49 (2 : Int32) _ hq52) zc_X12_292 rfl (zE_at zd_88) ⟨_, _, rfl⟩ rfl (Nat.le_of_ble_eq_true rfl) (Nat.le_of_ble_eq_true rfl) rfl ?_
      refine zR_aload_n dX12_tellMode_131 0 rfl ?_
      refine zG_getI dX12_tellMode_132 zf_X12_261 zd_88 rfl rfl ?_
      by_cases c53 : (zI q51 0 13) ≤ 0
      · have h := zif_t h c53
        refine zR_if_le_t (tgt := 139) dX12_tellMode_135 (by decide) c53 ?_
        refine zR_aload_n dX12_tellMode_139 0 rfl ?_
        refine zG_getR dX12_tellMode_140 zf_X12_82 zd_88 rfl rfl ?_
        refine zR_iload_n dX12_tellMode_143 3 rfl ?_
        refine zR_aload_n dX12_tellMode_144 0 rfl ?_
        refine zG_getR dX12_tellMode_145 zf_X12_27 zd_88 rfl rfl ?_
        refine zR_iload dX12_tellMode_148 4 rfl ?_
        obtain ⟨g54, h⟩ := zchk_some h
        refine zG_iald dX12_tellMode_150 zd_93 rfl rfl g54 ?_
        obtain ⟨g55, h⟩ := zchk_some h
        obtain ⟨V7_56, e57, h⟩ := zlet_some h
        refine zG_iast zds_ok dX12_tellMode_151 zd_110 rfl rfl g55 e57 rfl ?_
        refine zR_aload_n dX12_tellMode_152 0 rfl ?_
        refine zG_getR dX12_tellMode_153 zf_X12_27 zd_88 rfl rfl ?_
        refine zR_iload dX12_tellMode_156 4 rfl ?_
        obtain ⟨g58, h⟩ := zchk_some h
        refine zG_iald dX12_tellMode_158 zd_93 rfl rfl g58 ?_
        by_cases c59 : (zA V7_56 5 ((zI q49 0 11)).toNatClampNeg) = 0
        · have h := zif_t h c59
          refine zR_if_ne_f (tgt := 169) dX12_tellMode_159 (by decide) c59 ?_
          refine zR_aload_n dX12_tellMode_162 0 rfl ?_
          refine zR_iconst (x := (5 : Int32)) dX12_tellMode_163 rfl ?_
          refine zR_iload dX12_tellMode_164 4 rfl ?_
          obtain ⟨q60, hq61, h⟩ := zbd_some h
          refine zR_cV (rest := []) (st1 := []) dX12_tellMode_166 (mX12_wrong F V0 V1 V2 V3 V4 V5 V6 V7_56 (5 : Int32) (zI q49 0 11) _ hq61) zc_X12_288 rfl (zE_at zd_88) ⟨_, _, rfl⟩ rfl (Nat.le_of_ble_eq_true rfl) (Nat.le_of_ble_eq_true rfl) rfl ?_
          refine zR_sub (lv' := [(0, .ref (w.1 + 88))]) [0] rfl ?_
          exact wX12_tellMode_b169 F V0 V1 V2 V3 V4 V5 V6 q60 _ h
        · have h := zif_f h c59
          refine zR_if_ne_t (tgt := 169) dX12_tellMode_159 (by decide) c59 ?_
          refine zR_sub (lv' := [(0, .ref (w.1 + 88))]) [0] rfl ?_
          exact wX12_tellMode_b169 F V0 V1 V2 V3 V4 V5 V6 V7_56 _ h
      · have h := zif_f h c53
        refine zR_if_le_f (tgt := 139) dX12_tellMode_135 (by decide) c53 ?_
        have h := Option.some.inj h
        subst h
        exact zR_ret dX12_tellMode_138 rfl
  · have h := zif_f h c33
    refine zR_if_le_f (tgt := 57) dX12_tellMode_53 (by decide) c33 ?_
    have h := Option.some.inj h
    subst h
    exact zR_ret dX12_tellMode_56 rfl
set_option maxRecDepth 100000 in
set_option maxHeartbeats 4000000 in
theorem mX12_tellMode {w : zW} (F : Nat) (V0 V1 V2 V3 V4 V5 V6 V7 : zV) (res : zV) (h : fX12_tellMode F V7 = some res) : zMet w kX12_tellMode 6 0 0 [.ref (w.1 + 88)] (zE zds w [V0, V1, V2, V3, V4, V5, V6, V7]) none (zE zds w [V0, V1, V2, V3, V4, V5, V6, res]) := by
  refine zMet_of (by decide) (Nat.le_of_ble_eq_true rfl) (Nat.le_refl 0) fun _ => ?_
  show zR w kX12_tellMode 6 0 0 none (zE zds w [V0, V1, V2, V3, V4, V5, V6, res]) 0 [(0, .ref (w.1 + 88))] [] (zE zds w [V0, V1, V2, V3, V4, V5, V6, V7])
  unfold fX12_tellMode at h
  refine zR_aload_n dX12_tellMode_0 0 rfl ?_
  refine zR_bipush (x := (28 : Int32)) dX12_tellMode_1 rfl ?_
  obtain ⟨q62, hq63, h⟩ := zbd_some h
  refine zR_cV (rest := []) (st1 := [.int q62]) dX12_tellMode_3 (mX12_is F V0 V1 V2 V3 V4 V5 V6 V7 (28 : Int32) _ hq63) zc_X12_279 rfl (zE_at zd_88) ⟨_, _, rfl⟩ rfl (Nat.le_of_ble_eq_true rfl) (Nat.le_of_ble_eq_true rfl) rfl ?_
  by_cases c64 : q62 = 0
  · have h := zif_t h c64
    refine zR_if_eq_t (tgt := 23) dX12_tellMode_6 (by decide) c64 ?_
    exact wX12_tellMode_b23 F V0 V1 V2 V3 V4 V5 V6 V7 _ h
  · have h := zif_f h c64
    refine zR_if_eq_f (tgt := 23) dX12_tellMode_6 (by decide) c64 ?_
    refine zR_aload_n dX12_tellMode_9 0 rfl ?_
    refine zR_bipush (x := (7 : Int32)) dX12_tellMode_10 rfl ?_
    obtain ⟨q65, hq66, h⟩ := zbd_some h
    refine zR_cV (rest := []) (st1 := [.int q65]) dX12_tellMode_12 (mX12_isFull F V0 V1 V2 V3 V4 V5 V6 V7 (7 : Int32) _ hq66) zc_X12_336 rfl (zE_at zd_88) ⟨_, _, rfl⟩ rfl (Nat.le_of_ble_eq_true rfl) (Nat.le_of_ble_eq_true rfl) rfl ?_
    by_cases c67 : q65 = 0
    · have h := zif_t h c67
      refine zR_if_eq_t (tgt := 23) dX12_tellMode_15 (by decide) c67 ?_
      exact wX12_tellMode_b23 F V0 V1 V2 V3 V4 V5 V6 V7 _ h
    · have h := zif_f h c67
      refine zR_if_eq_f (tgt := 23) dX12_tellMode_15 (by decide) c67 ?_
      refine zR_aload_n dX12_tellMode_18 0 rfl ?_
      refine zR_iconst (x := (2 : Int32)) dX12_tellMode_19 rfl ?_
      obtain ⟨q68, hq69, h⟩ := zbd_some h
      refine zR_cV (rest := []) (st1 := []) dX12_tellMode_20 (mX12_fail F V0 V1 V2 V3 V4 V5 V6 V7 (2 : Int32) _ hq69) zc_X12_276 rfl (zE_at zd_88) ⟨_, _, rfl⟩ rfl (Nat.le_of_ble_eq_true rfl) (Nat.le_of_ble_eq_true rfl) rfl ?_
      exact wX12_tellMode_b23 F V0 V1 V2 V3 V4 V5 V6 q68 _ h
set_option maxRecDepth 100000 in
set_option maxHeartbeats 4000000 in
theorem wX12_read_b304 {w : zW} (F : Nat) (V0 V1 V2 V3 V4 V5 V6 V7 : zV) (s1 : Int32) (res : Int32 × zV) (h : fX12_read_b304 F V7 s1 = some res) : zR w kX12_read 7 0 0 (some (.int res.1)) (zE zds w [V0, V1, V2, V3, V4, V5, V6, res.2]) 304 [(0, .ref (w.1 + 88))] [.int s1, .ref (w.1 + 88)] (zE zds w [V0, V1, V2, V3, V4, V5, V6, V7]) := by
  unfold fX12_read_b304 at h
  obtain ⟨V7_1, e2, h⟩ := zlet_some h
  refine zG_putI zds_ok dX12_read_304 zf_X12_37 zt_X12_17 zd_88 rfl rfl e2 rfl ?_
  refine zR_aload_n dX12_read_307 0 rfl ?_
  refine zG_getI dX12_read_308 zf_X12_261 zd_88 rfl rfl ?_
  by_cases c3 : (zI V7_1 0 13) ≤ 0
  · have h := zif_t h c3
    refine zR_if_le_t (tgt := 319) dX12_read_311 (by decide) c3 ?_
    refine zR_aload_n dX12_read_319 0 rfl ?_
    refine zG_getI dX12_read_320 zf_X12_270 zd_88 rfl rfl ?_
    by_cases c4 : (zI V7_1 0 15) ≤ 0
    · have h := zif_t h c4
      refine zR_if_le_t (tgt := 331) dX12_read_323 (by decide) c4 ?_
      refine zR_aload_n dX12_read_331 0 rfl ?_
      refine zR_aload_n dX12_read_332 0 rfl ?_
      refine zG_getI dX12_read_333 zf_X12_299 zd_88 rfl rfl ?_
      obtain ⟨V7_5, e6, h⟩ := zlet_some h
      refine zG_putI zds_ok dX12_read_336 zf_X12_308 zt_X12_18 zd_88 rfl rfl e6 rfl ?_
      refine zR_aload_n dX12_read_339 0 rfl ?_
      refine zR_iconst (x := (1 : Int32)) dX12_read_340 rfl ?_
      obtain ⟨V7_7, e8, h⟩ := zlet_some h
      refine zG_putZ zds_ok dX12_read_341 zf_X12_329 zt_X12_20 zd_88 rfl rfl (Or.inr rfl) e8 rfl ?_
      refine zR_aload_n dX12_read_344 0 rfl ?_
      refine zR_iconst (x := (0 : Int32)) dX12_read_345 rfl ?_
      obtain ⟨V7_9, e10, h⟩ := zlet_some h
      refine zG_putZ zds_ok dX12_read_346 zf_X12_333 zt_X12_64 zd_88 rfl rfl (Or.inl rfl) e10 rfl ?_
      refine zR_iconst (x := (0 : Int32)) dX12_read_349 rfl ?_
      have h := Option.some.inj h
      subst h
      exact zR_iret (x := (0 : Int32)) dX12_read_350 rfl rfl
    · have h := zif_f h c4
      refine zR_if_le_f (tgt := 331) dX12_read_323 (by decide) c4 ?_
      refine zR_aload_n dX12_read_326 0 rfl ?_
      refine zG_getI dX12_read_327 zf_X12_270 zd_88 rfl rfl ?_
      have h := Option.some.inj h
      subst h
      exact zR_iret (x := (zI V7_1 0 15)) dX12_read_330 rfl rfl
  · have h := zif_f h c3
    refine zR_if_le_f (tgt := 319) dX12_read_311 (by decide) c3 ?_
    refine zR_aload_n dX12_read_314 0 rfl ?_
    refine zG_getI dX12_read_315 zf_X12_261 zd_88 rfl rfl ?_
    have h := Option.some.inj h
    subst h
    exact zR_iret (x := (zI V7_1 0 13)) dX12_read_318 rfl rfl
set_option maxRecDepth 100000 in
set_option maxHeartbeats 4000000 in
theorem wX12_read_b274 {w : zW} (F : Nat) (V0 V1 V2 V3 V4 V5 V6 V7 : zV) (res : Int32 × zV) (h : fX12_read_b274 F V7 = some res) : zR w kX12_read 7 0 0 (some (.int res.1)) (zE zds w [V0, V1, V2, V3, V4, V5, V6, res.2]) 274 [(0, .ref (w.1 + 88))] [] (zE zds w [V0, V1, V2, V3, V4, V5, V6, V7]) := by
  unfold fX12_read_b274 at h
  refine zR_aload_n dX12_read_274 0 rfl ?_
  refine zR_aload_n dX12_read_275 0 rfl ?_
  refine zG_getI dX12_read_276 zf_X12_261 zd_88 rfl rfl ?_
  by_cases c11 : (zI V7 0 13) ≤ 0
  · have h := zif_t h c11
    refine zR_if_le_t (tgt := 289) dX12_read_279 (by decide) c11 ?_
    refine zR_aload_n dX12_read_289 0 rfl ?_
    refine zG_getI dX12_read_290 zf_X12_270 zd_88 rfl rfl ?_
    by_cases c12 : (zI V7 0 15) ≤ 0
    · have h := zif_t h c12
      refine zR_if_le_t (tgt := 303) dX12_read_293 (by decide) c12 ?_
      refine zR_iconst (x := (-1 : Int32)) dX12_read_303 (by decide) ?_
      exact wX12_read_b304 F V0 V1 V2 V3 V4 V5 V6 V7 (-1 : Int32) _ h
    · have h := zif_f h c12
      refine zR_if_le_f (tgt := 303) dX12_read_293 (by decide) c12 ?_
      refine zR_aload_n dX12_read_296 0 rfl ?_
      refine zG_getI dX12_read_297 zf_X12_273 zd_88 rfl rfl ?_
      refine zR_goto (tgt := 304) dX12_read_300 (by decide) ?_
      exact wX12_read_b304 F V0 V1 V2 V3 V4 V5 V6 V7 (zI V7 0 16) _ h
  · have h := zif_f h c11
    refine zR_if_le_f (tgt := 289) dX12_read_279 (by decide) c11 ?_
    refine zR_aload_n dX12_read_282 0 rfl ?_
    refine zG_getI dX12_read_283 zf_X12_267 zd_88 rfl rfl ?_
    refine zR_goto (tgt := 304) dX12_read_286 (by decide) ?_
    exact wX12_read_b304 F V0 V1 V2 V3 V4 V5 V6 V7 (zI V7 0 14) _ h
set_option maxRecDepth 100000 in
set_option maxHeartbeats 4000000 in
theorem wX12_read_l237 {w : zW} (F : Nat) : ∀ (n : Nat) (V0 V1 V2 V3 V4 V5 V6 V7 : zV) (x1 : Int32) (res : Int32 × zV), fX12_read_l237 F n V7 x1 = some res → zR w kX12_read 7 0 0 (some (.int res.1)) (zE zds w [V0, V1, V2, V3, V4, V5, V6, res.2]) 237 [(0, .ref (w.1 + 88)), (1, .int x1)] [] (zE zds w [V0, V1, V2, V3, V4, V5, V6, V7]) := by
  intro n
  induction n with
  | zero =>
    intro V0 V1 V2 V3 V4 V5 V6 V7 x1 res h
    simp [fX12_read_l237] at h
  | succ n ih =>
    intro V0 V1 V2 V3 V4 V5 V6 V7 x1 res h
    rw [fX12_read_l237] at h
    refine zR_iload_n dX12_read_237 1 rfl ?_
    refine zR_aload_n dX12_read_238 0 rfl ?_
    refine zG_getI dX12_read_239 zf_X12_320 zd_88 rfl rfl ?_
    by_cases c13 : (zI V7 0 51) ≤ x1
    · have h := zif_t h c13
      refine zR_icmp_ge_t (tgt := 274) dX12_read_242 (by decide) c13 ?_
      refine zR_sub (lv' := [(0, .ref (w.1 + 88))]) [0] rfl ?_
      exact wX12_read_b274 F V0 V1 V2 V3 V4 V5 V6 V7 _ h
    · have h := zif_f h c13
      refine zR_icmp_ge_f (tgt := 274) dX12_read_242 (by decide) c13 ?_
      refine zR_aload_n dX12_read_245 0 rfl ?_
      refine zG_getR dX12_read_246 zf_X12_112 zd_88 rfl rfl ?_
      refine zR_aload_n dX12_read_249 0 rfl ?_
      refine zG_getR dX12_read_250 zf_X12_121 zd_88 rfl rfl ?_
      refine zR_iload_n dX12_read_253 1 rfl ?_
      obtain ⟨g14, h⟩ := zchk_some h
      refine zG_iald dX12_read_254 zd_123 rfl rfl g14 ?_
      refine zR_aload_n dX12_read_255 0 rfl ?_
      refine zR_aload_n dX12_read_256 0 rfl ?_
      refine zG_getR dX12_read_257 zf_X12_124 zd_88 rfl rfl ?_
      refine zR_iload_n dX12_read_260 1 rfl ?_
      obtain ⟨g15, h⟩ := zchk_some h
      refine zG_iald dX12_read_261 zd_124 rfl rfl g15 ?_
      refine zR_bipush (x := (7 : Int32)) dX12_read_262 rfl ?_
      obtain ⟨q16, hq17, h⟩ := zbd_some h
      refine zR_cV (rest := [.int (zA V7 35 (x1).toNatClampNeg), .ref (w.1 + 120)]) (st1 := [.int q16.1, .int (zA V7 35 (x1).toNatClampNeg), .ref (w.1 + 120)]) dX12_read_264 (mX12_named F V0 V1 V2 V3 V4 V5 V6 V7 (zA V7 36 (x1).toNatClampNeg) (7 : Int32) _ hq17) zc_X12_295 rfl (zE_at zd_88) ⟨_, _, rfl⟩ rfl (Nat.le_of_ble_eq_true rfl) (Nat.le_of_ble_eq_true rfl) rfl ?_
      obtain ⟨g18, h⟩ := zchk_some h
      obtain ⟨V7_19, e20, h⟩ := zlet_some h
      refine zG_iast zds_ok dX12_read_267 zd_120 rfl rfl g18 e20 rfl ?_
      refine zR_iinc (u := (x1 + 1)) (lv' := [(0, .ref (w.1 + 88)), (1, .int (x1 + 1))]) dX12_read_268 1 rfl rfl (Nat.le_of_ble_eq_true rfl) rfl ?_
      refine zR_goto (tgt := 237) dX12_read_271 (by decide) ?_
      exact ih V0 V1 V2 V3 V4 V5 V6 V7_19 (x1 + 1) _ h
set_option maxRecDepth 100000 in
set_option maxHeartbeats 4000000 in
theorem wX12_read_b228 {w : zW} (F : Nat) (V0 V1 V2 V3 V4 V5 V6 V7 : zV) (res : Int32 × zV) (h : fX12_read_b228 F V7 = some res) : zR w kX12_read 7 0 0 (some (.int res.1)) (zE zds w [V0, V1, V2, V3, V4, V5, V6, res.2]) 228 [(0, .ref (w.1 + 88))] [] (zE zds w [V0, V1, V2, V3, V4, V5, V6, V7]) := by
  unfold fX12_read_b228 at h
  refine zR_aload_n dX12_read_228 0 rfl ?_
  refine zG_getI dX12_read_229 zf_X12_261 zd_88 rfl rfl ?_
  by_cases c21 : (zI V7 0 13) = 0
  · have h := zif_t h c21
    refine zR_if_ne_f (tgt := 274) dX12_read_232 (by decide) c21 ?_
    refine zR_iconst (x := (0 : Int32)) dX12_read_235 rfl ?_
    refine zR_istore_n (lv' := [(0, .ref (w.1 + 88)), (1, .int (0 : Int32))]) dX12_read_236 (Nat.le_of_ble_eq_true rfl) rfl ?_
    exact wX12_read_l237 F F V0 V1 V2 V3 V4 V5 V6 V7 (0 : Int32) _ h
  · have h := zif_f h c21
    refine zR_if_ne_t (tgt := 274) dX12_read_232 (by decide) c21 ?_
    exact wX12_read_b274 F V0 V1 V2 V3 V4 V5 V6 V7 _ h
set_option maxRecDepth 100000 in
set_option maxHeartbeats 4000000 in
theorem wX12_read_l206 {w : zW} (F : Nat) : ∀ (n : Nat) (V0 V1 V2 V3 V4 V5 V6 V7 : zV) (res : Int32 × zV), fX12_read_l206 F n V7 = some res → zR w kX12_read 7 0 0 (some (.int res.1)) (zE zds w [V0, V1, V2, V3, V4, V5, V6, res.2]) 206 [(0, .ref (w.1 + 88))] [] (zE zds w [V0, V1, V2, V3, V4, V5, V6, V7]) := by
  intro n
  induction n with
  | zero =>
    intro V0 V1 V2 V3 V4 V5 V6 V7 res h
    simp [fX12_read_l206] at h
  | succ n ih =>
    intro V0 V1 V2 V3 V4 V5 V6 V7 res h
    rw [fX12_read_l206] at h
    refine zR_aload_n dX12_read_206 0 rfl ?_
    refine zG_getI dX12_read_207 zf_X12_261 zd_88 rfl rfl ?_
    by_cases c22 : (zI V7 0 13) = 0
    · have h := zif_t h c22
      refine zR_if_ne_f (tgt := 228) dX12_read_210 (by decide) c22 ?_
      refine zR_aload_n dX12_read_213 0 rfl ?_
      refine zR_iconst (x := (0 : Int32)) dX12_read_214 rfl ?_
      obtain ⟨q23, hq24, h⟩ := zbd_some h
      refine zR_cV (rest := []) (st1 := [.int q23]) dX12_read_215 (mX12_is F V0 V1 V2 V3 V4 V5 V6 V7 (0 : Int32) _ hq24) zc_X12_279 rfl (zE_at zd_88) ⟨_, _, rfl⟩ rfl (Nat.le_of_ble_eq_true rfl) (Nat.le_of_ble_eq_true rfl) rfl ?_
      by_cases c25 : q23 = 0
      · have h := zif_t h c25
        refine zR_if_ne_f (tgt := 228) dX12_read_218 (by decide) c25 ?_
        refine zR_aload_n dX12_read_221 0 rfl ?_
        obtain ⟨q26, hq27, h⟩ := zbd_some h
        refine zR_cV (rest := []) (st1 := []) dX12_read_222 (mX12_tellMode F V0 V1 V2 V3 V4 V5 V6 V7 _ hq27) zc_X12_326 rfl (zE_at zd_88) ⟨_, _, rfl⟩ rfl (Nat.le_of_ble_eq_true rfl) (Nat.le_of_ble_eq_true rfl) rfl ?_
        refine zR_goto (tgt := 206) dX12_read_225 (by decide) ?_
        exact ih V0 V1 V2 V3 V4 V5 V6 q26 _ h
      · have h := zif_f h c25
        refine zR_if_ne_t (tgt := 228) dX12_read_218 (by decide) c25 ?_
        exact wX12_read_b228 F V0 V1 V2 V3 V4 V5 V6 V7 _ h
    · have h := zif_f h c22
      refine zR_if_ne_t (tgt := 228) dX12_read_210 (by decide) c22 ?_
      exact wX12_read_b228 F V0 V1 V2 V3 V4 V5 V6 V7 _ h
set_option maxRecDepth 100000 in
set_option maxHeartbeats 4000000 in
theorem wX12_read_l150 {w : zW} (F : Nat) : ∀ (n : Nat) (V0 V1 V2 V3 V4 V5 V6 V7 : zV) (res : Int32 × zV), fX12_read_l150 F n V7 = some res → zR w kX12_read 7 0 0 (some (.int res.1)) (zE zds w [V0, V1, V2, V3, V4, V5, V6, res.2]) 150 [(0, .ref (w.1 + 88))] [] (zE zds w [V0, V1, V2, V3, V4, V5, V6, V7]) := by
  intro n
  induction n with
  | zero =>
    intro V0 V1 V2 V3 V4 V5 V6 V7 res h
    simp [fX12_read_l150] at h
  | succ n ih =>
    intro V0 V1 V2 V3 V4 V5 V6 V7 res h
    rw [fX12_read_l150] at h
    refine zR_aload_n dX12_read_150 0 rfl ?_
    refine zG_getI dX12_read_151 zf_X12_261 zd_88 rfl rfl ?_
    by_cases c28 : (zI V7 0 13) = 0
    · have h := zif_t h c28
      refine zR_if_ne_f (tgt := 206) dX12_read_154 (by decide) c28 ?_
      refine zR_aload_n dX12_read_157 0 rfl ?_
      refine zG_getR dX12_read_158 zf_X12_20 zd_88 rfl rfl ?_
      refine zR_aload_n dX12_read_161 0 rfl ?_
      refine zG_getI dX12_read_162 zf_X12_264 zd_88 rfl rfl ?_
      obtain ⟨g29, h⟩ := zchk_some h
      refine zG_iald dX12_read_165 zd_91 rfl rfl g29 ?_
      refine zR_bipush (x := (20 : Int32)) dX12_read_166 rfl ?_
      by_cases c30 : (zA V7 3 ((zI V7 0 11)).toNatClampNeg) < (20 : Int32)
      · have h := zif_t h c30
        refine zR_icmp_lt_t (tgt := 206) dX12_read_168 (by decide) c30 ?_
        exact wX12_read_l206 F F V0 V1 V2 V3 V4 V5 V6 V7 _ h
      · have h := zif_f h c30
        refine zR_icmp_lt_f (tgt := 206) dX12_read_168 (by decide) c30 ?_
        refine zR_aload_n dX12_read_171 0 rfl ?_
        refine zG_getR dX12_read_172 zf_X12_20 zd_88 rfl rfl ?_
        refine zR_aload_n dX12_read_175 0 rfl ?_
        refine zG_getI dX12_read_176 zf_X12_264 zd_88 rfl rfl ?_
        obtain ⟨g31, h⟩ := zchk_some h
        refine zG_iald dX12_read_179 zd_91 rfl rfl g31 ?_
        refine zR_bipush (x := (27 : Int32)) dX12_read_180 rfl ?_
        by_cases c32 : (27 : Int32) < (zA V7 3 ((zI V7 0 11)).toNatClampNeg)
        · have h := zif_t h c32
          refine zR_icmp_gt_t (tgt := 206) dX12_read_182 (by decide) c32 ?_
          exact wX12_read_l206 F F V0 V1 V2 V3 V4 V5 V6 V7 _ h
        · have h := zif_f h c32
          refine zR_icmp_gt_f (tgt := 206) dX12_read_182 (by decide) c32 ?_
          refine zR_aload_n dX12_read_185 0 rfl ?_
          refine zG_getR dX12_read_186 zf_X12_20 zd_88 rfl rfl ?_
          refine zR_aload_n dX12_read_189 0 rfl ?_
          refine zG_getI dX12_read_190 zf_X12_264 zd_88 rfl rfl ?_
          obtain ⟨g33, h⟩ := zchk_some h
          refine zG_iald dX12_read_193 zd_91 rfl rfl g33 ?_
          refine zR_bipush (x := (26 : Int32)) dX12_read_194 rfl ?_
          by_cases c34 : (zA V7 3 ((zI V7 0 11)).toNatClampNeg) = (26 : Int32)
          · have h := zif_t h c34
            refine zR_icmp_eq_t (tgt := 206) dX12_read_196 (by decide) c34 ?_
            exact wX12_read_l206 F F V0 V1 V2 V3 V4 V5 V6 V7 _ h
          · have h := zif_f h c34
            refine zR_icmp_eq_f (tgt := 206) dX12_read_196 (by decide) c34 ?_
            refine zR_aload_n dX12_read_199 0 rfl ?_
            obtain ⟨q35, hq36, h⟩ := zbd_some h
            refine zR_cV (rest := []) (st1 := []) dX12_read_200 (mX12_tellPart F V0 V1 V2 V3 V4 V5 V6 V7 _ hq36) zc_X12_323 rfl (zE_at zd_88) ⟨_, _, rfl⟩ rfl (Nat.le_of_ble_eq_true rfl) (Nat.le_of_ble_eq_true rfl) rfl ?_
            refine zR_goto (tgt := 150) dX12_read_203 (by decide) ?_
            exact ih V0 V1 V2 V3 V4 V5 V6 q35 _ h
    · have h := zif_f h c28
      refine zR_if_ne_t (tgt := 206) dX12_read_154 (by decide) c28 ?_
      exact wX12_read_l206 F F V0 V1 V2 V3 V4 V5 V6 V7 _ h
set_option maxRecDepth 100000 in
set_option maxHeartbeats 4000000 in
theorem wX12_read_l77 {w : zW} (F : Nat) : ∀ (n : Nat) (V0 V1 V2 V3 V4 V5 V6 V7 : zV) (x1 : Int32) (res : Int32 × zV), fX12_read_l77 F n V7 x1 = some res → zR w kX12_read 7 0 0 (some (.int res.1)) (zE zds w [V0, V1, V2, V3, V4, V5, V6, res.2]) 77 [(0, .ref (w.1 + 88)), (1, .int x1)] [] (zE zds w [V0, V1, V2, V3, V4, V5, V6, V7]) := by
  intro n
  induction n with
  | zero =>
    intro V0 V1 V2 V3 V4 V5 V6 V7 x1 res h
    simp [fX12_read_l77] at h
  | succ n ih =>
    intro V0 V1 V2 V3 V4 V5 V6 V7 x1 res h
    rw [fX12_read_l77] at h
    refine zR_iload_n dX12_read_77 1 rfl ?_
    refine zR_bipush (x := (9 : Int32)) dX12_read_78 rfl ?_
    by_cases c37 : (9 : Int32) ≤ x1
    · have h := zif_t h c37
      refine zR_icmp_ge_t (tgt := 104) dX12_read_80 (by decide) c37 ?_
      refine zR_aload_n dX12_read_104 0 rfl ?_
      refine zR_iconst (x := (0 : Int32)) dX12_read_105 rfl ?_
      obtain ⟨V7_38, e39, h⟩ := zlet_some h
      refine zG_putI zds_ok dX12_read_106 zf_X12_285 zt_X12_22 zd_88 rfl rfl e39 rfl ?_
      refine zR_aload_n dX12_read_109 0 rfl ?_
      refine zR_sipush (x := (400 : Int32)) dX12_read_110 rfl ?_
      refine zR_aload_n dX12_read_113 0 rfl ?_
      refine zG_getI dX12_read_114 zf_X12_299 zd_88 rfl rfl ?_
      refine zR_imul dX12_read_117 ?_
      obtain ⟨V7_40, e41, h⟩ := zlet_some h
      refine zG_putI zds_ok dX12_read_118 zf_X12_311 zt_X12_41 zd_88 rfl rfl e41 rfl ?_
      refine zR_aload_n dX12_read_121 0 rfl ?_
      refine zR_sipush (x := (1000 : Int32)) dX12_read_122 rfl ?_
      refine zR_aload_n dX12_read_125 0 rfl ?_
      refine zG_getI dX12_read_126 zf_X12_299 zd_88 rfl rfl ?_
      refine zR_imul dX12_read_129 ?_
      obtain ⟨V7_42, e43, h⟩ := zlet_some h
      refine zG_putI zds_ok dX12_read_130 zf_X12_314 zt_X12_46 zd_88 rfl rfl e43 rfl ?_
      refine zR_aload_n dX12_read_133 0 rfl ?_
      refine zR_sipush (x := (1200 : Int32)) dX12_read_134 rfl ?_
      refine zR_aload_n dX12_read_137 0 rfl ?_
      refine zG_getI dX12_read_138 zf_X12_299 zd_88 rfl rfl ?_
      refine zR_imul dX12_read_141 ?_
      obtain ⟨V7_44, e45, h⟩ := zlet_some h
      refine zG_putI zds_ok dX12_read_142 zf_X12_317 zt_X12_54 zd_88 rfl rfl e45 rfl ?_
      refine zR_aload_n dX12_read_145 0 rfl ?_
      refine zR_iconst (x := (0 : Int32)) dX12_read_146 rfl ?_
      obtain ⟨V7_46, e47, h⟩ := zlet_some h
      refine zG_putI zds_ok dX12_read_147 zf_X12_320 zt_X12_51 zd_88 rfl rfl e47 rfl ?_
      refine zR_sub (lv' := [(0, .ref (w.1 + 88))]) [0] rfl ?_
      exact wX12_read_l150 F F V0 V1 V2 V3 V4 V5 V6 V7_46 _ h
    · have h := zif_f h c37
      refine zR_icmp_ge_f (tgt := 104) dX12_read_80 (by decide) c37 ?_
      refine zR_aload_n dX12_read_83 0 rfl ?_
      refine zG_getR dX12_read_84 zf_X12_40 zd_88 rfl rfl ?_
      refine zR_bipush (x := (9 : Int32)) dX12_read_87 rfl ?_
      refine zR_aload_n dX12_read_89 0 rfl ?_
      refine zG_getI dX12_read_90 zf_X12_299 zd_88 rfl rfl ?_
      refine zR_imul dX12_read_93 ?_
      refine zR_iload_n dX12_read_94 1 rfl ?_
      refine zR_iadd dX12_read_95 ?_
      refine zR_iconst (x := (0 : Int32)) dX12_read_96 rfl ?_
      obtain ⟨g48, h⟩ := zchk_some h
      obtain ⟨V7_49, e50, h⟩ := zlet_some h
      refine zG_iast zds_ok dX12_read_97 zd_96 rfl rfl g48 e50 rfl ?_
      refine zR_iinc (u := (x1 + 1)) (lv' := [(0, .ref (w.1 + 88)), (1, .int (x1 + 1))]) dX12_read_98 1 rfl rfl (Nat.le_of_ble_eq_true rfl) rfl ?_
      refine zR_goto (tgt := 77) dX12_read_101 (by decide) ?_
      exact ih V0 V1 V2 V3 V4 V5 V6 V7_49 (x1 + 1) _ h
set_option maxRecDepth 100000 in
set_option maxHeartbeats 4000000 in
theorem wX12_read_l10 {w : zW} (F : Nat) : ∀ (n : Nat) (V0 V1 V2 V3 V4 V5 V6 V7 : zV) (x1 : Int32) (res : Int32 × zV), fX12_read_l10 F n V7 x1 = some res → zR w kX12_read 7 0 0 (some (.int res.1)) (zE zds w [V0, V1, V2, V3, V4, V5, V6, res.2]) 10 [(0, .ref (w.1 + 88)), (1, .int x1)] [] (zE zds w [V0, V1, V2, V3, V4, V5, V6, V7]) := by
  intro n
  induction n with
  | zero =>
    intro V0 V1 V2 V3 V4 V5 V6 V7 x1 res h
    simp [fX12_read_l10] at h
  | succ n ih =>
    intro V0 V1 V2 V3 V4 V5 V6 V7 x1 res h
    rw [fX12_read_l10] at h
    refine zR_iload_n dX12_read_10 1 rfl ?_
    refine zR_aload_n dX12_read_11 0 rfl ?_
    refine zG_getI dX12_read_12 zf_X12_230 zd_88 rfl rfl ?_
    by_cases c51 : (zI V7 0 4) ≤ x1
    · have h := zif_t h c51
      refine zR_icmp_ge_t (tgt := 36) dX12_read_15 (by decide) c51 ?_
      refine zR_aload_n dX12_read_36 0 rfl ?_
      refine zR_iconst (x := (0 : Int32)) dX12_read_37 rfl ?_
      obtain ⟨V7_52, e53, h⟩ := zlet_some h
      refine zG_putI zds_ok dX12_read_38 zf_X12_223 zt_X12_2 zd_88 rfl rfl e53 rfl ?_
      refine zR_aload_n dX12_read_41 0 rfl ?_
      obtain ⟨q54, hq55, h⟩ := zbd_some h
      refine zR_cV (rest := []) (st1 := []) dX12_read_42 (mX12_cut F V0 V1 V2 V3 V4 V5 V6 V7_52 _ hq55) zc_X12_302 rfl (zE_at zd_88) ⟨_, _, rfl⟩ rfl (Nat.le_of_ble_eq_true rfl) (Nat.le_of_ble_eq_true rfl) rfl ?_
      refine zR_aload_n dX12_read_45 0 rfl ?_
      refine zR_iconst (x := (0 : Int32)) dX12_read_46 rfl ?_
      obtain ⟨V7_56, e57, h⟩ := zlet_some h
      refine zG_putI zds_ok dX12_read_47 zf_X12_264 zt_X12_11 zd_88 rfl rfl e57 rfl ?_
      refine zR_aload_n dX12_read_50 0 rfl ?_
      refine zR_iconst (x := (0 : Int32)) dX12_read_51 rfl ?_
      obtain ⟨V7_58, e59, h⟩ := zlet_some h
      refine zG_putI zds_ok dX12_read_52 zf_X12_305 zt_X12_12 zd_88 rfl rfl e59 rfl ?_
      refine zR_aload_n dX12_read_55 0 rfl ?_
      refine zR_iconst (x := (0 : Int32)) dX12_read_56 rfl ?_
      obtain ⟨V7_60, e61, h⟩ := zlet_some h
      refine zG_putI zds_ok dX12_read_57 zf_X12_261 zt_X12_13 zd_88 rfl rfl e61 rfl ?_
      refine zR_aload_n dX12_read_60 0 rfl ?_
      refine zR_iconst (x := (0 : Int32)) dX12_read_61 rfl ?_
      obtain ⟨V7_62, e63, h⟩ := zlet_some h
      refine zG_putI zds_ok dX12_read_62 zf_X12_270 zt_X12_15 zd_88 rfl rfl e63 rfl ?_
      refine zR_aload_n dX12_read_65 0 rfl ?_
      refine zR_iconst (x := (1 : Int32)) dX12_read_66 rfl ?_
      refine zR_aload_n dX12_read_67 0 rfl ?_
      refine zG_getI dX12_read_68 zf_X12_308 zd_88 rfl rfl ?_
      refine zR_isub dX12_read_71 ?_
      obtain ⟨V7_64, e65, h⟩ := zlet_some h
      refine zG_putI zds_ok dX12_read_72 zf_X12_299 zt_X12_19 zd_88 rfl rfl e65 rfl ?_
      refine zR_iconst (x := (0 : Int32)) dX12_read_75 rfl ?_
      refine zR_istore_n (lv' := [(0, .ref (w.1 + 88)), (1, .int (0 : Int32))]) dX12_read_76 (Nat.le_of_ble_eq_true rfl) rfl ?_
      exact wX12_read_l77 F F V0 V1 V2 V3 V4 V5 V6 V7_64 (0 : Int32) _ h
    · have h := zif_f h c51
      refine zR_icmp_ge_f (tgt := 36) dX12_read_15 (by decide) c51 ?_
      refine zR_aload_n dX12_read_18 0 rfl ?_
      refine zG_getR dX12_read_19 zf_X12_17 zd_88 rfl rfl ?_
      refine zR_iload_n dX12_read_22 1 rfl ?_
      refine zR_aload_n dX12_read_23 0 rfl ?_
      refine zG_getR dX12_read_24 zf_X12_13 zd_88 rfl rfl ?_
      refine zR_iload_n dX12_read_27 1 rfl ?_
      obtain ⟨g66, h⟩ := zchk_some h
      refine zG_bald dX12_read_28 zd_89 rfl rfl g66 ?_
      obtain ⟨g67, h⟩ := zchk_some h
      obtain ⟨V7_68, e69, h⟩ := zlet_some h
      refine zG_bast zds_ok dX12_read_29 zd_90 rfl rfl g67 e69 rfl ?_
      refine zR_iinc (u := (x1 + 1)) (lv' := [(0, .ref (w.1 + 88)), (1, .int (x1 + 1))]) dX12_read_30 1 rfl rfl (Nat.le_of_ble_eq_true rfl) rfl ?_
      refine zR_goto (tgt := 10) dX12_read_33 (by decide) ?_
      exact ih V0 V1 V2 V3 V4 V5 V6 V7_68 (x1 + 1) _ h
set_option maxRecDepth 100000 in
set_option maxHeartbeats 4000000 in
theorem mX12_read {w : zW} (F : Nat) (V0 V1 V2 V3 V4 V5 V6 V7 : zV) (res : Int32 × zV) (h : fX12_read F V7 = some res) : zMet w kX12_read 7 0 0 [.ref (w.1 + 88)] (zE zds w [V0, V1, V2, V3, V4, V5, V6, V7]) (some (.int res.1)) (zE zds w [V0, V1, V2, V3, V4, V5, V6, res.2]) := by
  refine zMet_of (by decide) (Nat.le_of_ble_eq_true rfl) (Nat.le_refl 0) fun _ => ?_
  show zR w kX12_read 7 0 0 (some (.int res.1)) (zE zds w [V0, V1, V2, V3, V4, V5, V6, res.2]) 0 [(0, .ref (w.1 + 88))] [] (zE zds w [V0, V1, V2, V3, V4, V5, V6, V7])
  unfold fX12_read at h
  refine zR_aload_n dX12_read_0 0 rfl ?_
  refine zR_aload_n dX12_read_1 0 rfl ?_
  refine zG_getI dX12_read_2 zf_X12_223 zd_88 rfl rfl ?_
  obtain ⟨V7_70, e71, h⟩ := zlet_some h
  refine zG_putI zds_ok dX12_read_5 zf_X12_230 zt_X12_4 zd_88 rfl rfl e71 rfl ?_
  refine zR_iconst (x := (0 : Int32)) dX12_read_8 rfl ?_
  refine zR_istore_n (lv' := [(0, .ref (w.1 + 88)), (1, .int (0 : Int32))]) dX12_read_9 (Nat.le_of_ble_eq_true rfl) rfl ?_
  exact wX12_read_l10 F F V0 V1 V2 V3 V4 V5 V6 V7_70 (0 : Int32) _ h
