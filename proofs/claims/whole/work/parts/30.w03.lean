set_option maxRecDepth 100000 in
set_option maxHeartbeats 4000000 in
theorem wX0_fireAt_5_b153 {w : zW} (F : Nat) (V0 V1 V2 V3 V4 V5 V6 V7 : zV) (x2 : Int32) (x3 : Int32) (res : Int32 × zV) (h : fX0_fireAt_b153 F V4 V5 x2 x3 = some res) : zR w kX0_fireAt 1 0 0 (some (.int res.1)) (zE zds w [V0, V1, V2, V3, V4, res.2, V6, V7]) 153 [(0, .ref (w.1 + 48)), (2, .int x2), (3, .int x3)] [] (zE zds w [V0, V1, V2, V3, V4, V5, V6, V7]) := by
  unfold fX0_fireAt_b153 at h
  refine zR_aload_n dX0_fireAt_153 0 rfl ?_
  refine zR_iload_n dX0_fireAt_154 2 rfl ?_
  obtain ⟨V5_1, e2, h⟩ := zlet_some h
  refine zG_putI zds_ok dX0_fireAt_155 zf_X0_21 zt_X0_4 zd_48 rfl rfl e2 rfl ?_
  refine zR_iload_n dX0_fireAt_158 1 rfl ?_
  obtain ⟨q3, hq4, h⟩ := zbd_some h
  refine zR_cS (rest := []) (st1 := [.int q3]) dX0_fireAt_159 (mJ6_bitCount_0f7a4 F (zE zds w [V0, V1, V2, V3, V4, V5_1, V6, V7]) x2 _ hq4) zc_X0_45 rfl rfl (Nat.le_of_ble_eq_true rfl) (Nat.le_of_ble_eq_true rfl) rfl ?_
  have h := Option.some.inj h
  subst h
  exact zR_iret (x := q3) dX0_fireAt_162 rfl rfl
set_option maxRecDepth 100000 in
set_option maxHeartbeats 4000000 in
theorem wX0_fireAt_5_b147 {w : zW} (F : Nat) (k7 : zV → zV → Int32 → Int32 → Int32 → Int32 → Option (Int32 × zV)) (hk7 : ∀ (V0 V1 V2 V3 V4 V5 V6 V7 : zV) (x1 : Int32) (x2 : Int32) (x3 : Int32) (x4 : Int32) (res : Int32 × zV), k7 V4 V5 x1 x2 x3 x4 = some res → zR w kX0_fireAt 1 0 0 (some (.int res.1)) (zE zds w [V0, V1, V2, V3, V4, res.2, V6, V7]) 7 [(0, .ref (w.1 + 48)), (1, .int x1), (2, .int x2), (3, .int x3), (4, .int x4)] [] (zE zds w [V0, V1, V2, V3, V4, V5, V6, V7])) (V0 V1 V2 V3 V4 V5 V6 V7 : zV) (x1 : Int32) (x2 : Int32) (x3 : Int32) (x4 : Int32) (res : Int32 × zV) (h : fX0_fireAt_b147 F k7 V4 V5 x1 x2 x3 x4 = some res) : zR w kX0_fireAt 1 0 0 (some (.int res.1)) (zE zds w [V0, V1, V2, V3, V4, res.2, V6, V7]) 147 [(0, .ref (w.1 + 48)), (1, .int x1), (2, .int x2), (3, .int x3), (4, .int x4)] [] (zE zds w [V0, V1, V2, V3, V4, V5, V6, V7]) := by
  unfold fX0_fireAt_b147 at h
  refine zR_iinc (u := (x4 + 1)) (lv' := [(0, .ref (w.1 + 48)), (1, .int x1), (2, .int x2), (3, .int x3), (4, .int (x4 + 1))]) dX0_fireAt_147 4 rfl rfl (Nat.le_of_ble_eq_true rfl) rfl ?_
  refine zR_goto (tgt := 7) dX0_fireAt_150 (by decide) ?_
  exact hk7 V0 V1 V2 V3 V4 V5 V6 V7 x1 x2 x3 (x4 + 1) _ h
set_option maxRecDepth 100000 in
set_option maxHeartbeats 4000000 in
theorem wX0_fireAt_5_b136 {w : zW} (F : Nat) (k7 : zV → zV → Int32 → Int32 → Int32 → Int32 → Option (Int32 × zV)) (hk7 : ∀ (V0 V1 V2 V3 V4 V5 V6 V7 : zV) (x1 : Int32) (x2 : Int32) (x3 : Int32) (x4 : Int32) (res : Int32 × zV), k7 V4 V5 x1 x2 x3 x4 = some res → zR w kX0_fireAt 1 0 0 (some (.int res.1)) (zE zds w [V0, V1, V2, V3, V4, res.2, V6, V7]) 7 [(0, .ref (w.1 + 48)), (1, .int x1), (2, .int x2), (3, .int x3), (4, .int x4)] [] (zE zds w [V0, V1, V2, V3, V4, V5, V6, V7])) (V0 V1 V2 V3 V4 V5 V6 V7 : zV) (x1 : Int32) (x2 : Int32) (x3 : Int32) (x4 : Int32) (x5 : Int32) (res : Int32 × zV) (h : fX0_fireAt_b136 F k7 V4 V5 x1 x2 x3 x4 x5 = some res) : zR w kX0_fireAt 1 0 0 (some (.int res.1)) (zE zds w [V0, V1, V2, V3, V4, res.2, V6, V7]) 136 [(0, .ref (w.1 + 48)), (1, .int x1), (2, .int x2), (3, .int x3), (4, .int x4), (5, .int x5)] [] (zE zds w [V0, V1, V2, V3, V4, V5, V6, V7]) := by
  unfold fX0_fireAt_b136 at h
  refine zR_aload_n dX0_fireAt_136 0 rfl ?_
  refine zG_getR dX0_fireAt_137 zf_X0_18 zd_48 rfl rfl ?_
  refine zR_iload_n dX0_fireAt_140 3 rfl ?_
  refine zR_iload dX0_fireAt_141 5 rfl ?_
  obtain ⟨g5, h⟩ := zchk_some h
  obtain ⟨V5_6, e7, h⟩ := zlet_some h
  refine zG_iast zds_ok dX0_fireAt_143 zd_51 rfl rfl g5 e7 rfl ?_
  refine zR_iinc (u := (x3 + 1)) (lv' := [(0, .ref (w.1 + 48)), (1, .int x1), (2, .int x2), (3, .int (x3 + 1)), (4, .int x4), (5, .int x5)]) dX0_fireAt_144 3 rfl rfl (Nat.le_of_ble_eq_true rfl) rfl ?_
  refine zR_sub (lv' := [(0, .ref (w.1 + 48)), (1, .int x1), (2, .int x2), (3, .int (x3 + 1)), (4, .int x4)]) [0, 1, 2, 3, 4] rfl ?_
  exact wX0_fireAt_5_b147 F k7 hk7 V0 V1 V2 V3 V4 V5_6 V6 V7 x1 x2 (x3 + 1) x4 _ h
set_option maxRecDepth 100000 in
set_option maxHeartbeats 4000000 in
theorem wX0_fireAt_5_b85 {w : zW} (F : Nat) (k7 : zV → zV → Int32 → Int32 → Int32 → Int32 → Option (Int32 × zV)) (hk7 : ∀ (V0 V1 V2 V3 V4 V5 V6 V7 : zV) (x1 : Int32) (x2 : Int32) (x3 : Int32) (x4 : Int32) (res : Int32 × zV), k7 V4 V5 x1 x2 x3 x4 = some res → zR w kX0_fireAt 1 0 0 (some (.int res.1)) (zE zds w [V0, V1, V2, V3, V4, res.2, V6, V7]) 7 [(0, .ref (w.1 + 48)), (1, .int x1), (2, .int x2), (3, .int x3), (4, .int x4)] [] (zE zds w [V0, V1, V2, V3, V4, V5, V6, V7])) (V0 V1 V2 V3 V4 V5 V6 V7 : zV) (x1 : Int32) (x2 : Int32) (x3 : Int32) (x4 : Int32) (x5 : Int32) (s0 : Int32) (res : Int32 × zV) (h : fX0_fireAt_b85 F k7 V4 V5 x1 x2 x3 x4 x5 s0 = some res) : zR w kX0_fireAt 1 0 0 (some (.int res.1)) (zE zds w [V0, V1, V2, V3, V4, res.2, V6, V7]) 85 [(0, .ref (w.1 + 48)), (1, .int x1), (2, .int x2), (3, .int x3), (4, .int x4), (5, .int x5)] [.int s0] (zE zds w [V0, V1, V2, V3, V4, V5, V6, V7]) := by
  unfold fX0_fireAt_b85 at h
  refine zR_istore (lv' := [(0, .ref (w.1 + 48)), (1, .int x1), (2, .int x2), (3, .int x3), (4, .int x4), (5, .int x5), (6, .int s0)]) dX0_fireAt_85 (Nat.le_of_ble_eq_true rfl) rfl ?_
  refine zR_iload dX0_fireAt_87 6 rfl ?_
  by_cases c8 : s0 = 0
  · have h := zif_t h c8
    refine zR_if_eq_t (tgt := 136) dX0_fireAt_89 (by decide) c8 ?_
    refine zR_sub (lv' := [(0, .ref (w.1 + 48)), (1, .int x1), (2, .int x2), (3, .int x3), (4, .int x4), (5, .int x5)]) [0, 1, 2, 3, 4, 5] rfl ?_
    exact wX0_fireAt_5_b136 F k7 hk7 V0 V1 V2 V3 V4 V5 V6 V7 x1 x2 x3 x4 x5 _ h
  · have h := zif_f h c8
    refine zR_if_eq_f (tgt := 136) dX0_fireAt_89 (by decide) c8 ?_
    refine zR_aload_n dX0_fireAt_92 0 rfl ?_
    refine zG_getR dX0_fireAt_93 zf_X0_25 zd_48 rfl rfl ?_
    refine zG_getR dX0_fireAt_96 zf_X0_42 zd_15 rfl rfl ?_
    refine zR_iload dX0_fireAt_99 5 rfl ?_
    obtain ⟨g9, h⟩ := zchk_some h
    refine zG_iald dX0_fireAt_101 zd_19 rfl rfl g9 ?_
    refine zR_iload_n dX0_fireAt_102 2 rfl ?_
    refine zR_iand dX0_fireAt_103 ?_
    by_cases c10 : ((zA V4 4 (x5).toNatClampNeg) &&& x2) = 0
    · have h := zif_t h c10
      refine zR_if_ne_f (tgt := 136) dX0_fireAt_104 (by decide) c10 ?_
      refine zR_aload_n dX0_fireAt_107 0 rfl ?_
      refine zG_getR dX0_fireAt_108 zf_X0_9 zd_48 rfl rfl ?_
      refine zR_iload dX0_fireAt_111 5 rfl ?_
      refine zR_dup2 dX0_fireAt_113 rfl rfl ?_
      obtain ⟨g11, h⟩ := zchk_some h
      refine zG_iald dX0_fireAt_114 zd_49 rfl rfl g11 ?_
      refine zR_iconst (x := (1 : Int32)) dX0_fireAt_115 rfl ?_
      refine zR_iadd dX0_fireAt_116 ?_
      obtain ⟨g12, h⟩ := zchk_some h
      obtain ⟨V5_13, e14, h⟩ := zlet_some h
      refine zG_iast zds_ok dX0_fireAt_117 zd_49 rfl rfl g12 e14 rfl ?_
      refine zR_aload_n dX0_fireAt_118 0 rfl ?_
      refine zG_getR dX0_fireAt_119 zf_X0_15 zd_48 rfl rfl ?_
      refine zR_iload dX0_fireAt_122 5 rfl ?_
      refine zR_iload_n dX0_fireAt_124 1 rfl ?_
      obtain ⟨g15, h⟩ := zchk_some h
      obtain ⟨V5_16, e17, h⟩ := zlet_some h
      refine zG_iast zds_ok dX0_fireAt_125 zd_50 rfl rfl g15 e17 rfl ?_
      refine zR_iload_n dX0_fireAt_126 2 rfl ?_
      refine zR_iconst (x := (1 : Int32)) dX0_fireAt_127 rfl ?_
      refine zR_iload dX0_fireAt_128 5 rfl ?_
      refine zR_ishl dX0_fireAt_130 ?_
      refine zR_ior dX0_fireAt_131 ?_
      obtain ⟨y18, e19, h⟩ := zlet_some h
      refine zR_nmI e19 ?_
      refine zR_istore_n (lv' := [(0, .ref (w.1 + 48)), (1, .int x1), (2, .int y18), (3, .int x3), (4, .int x4), (5, .int x5), (6, .int s0)]) dX0_fireAt_132 (Nat.le_of_ble_eq_true rfl) rfl ?_
      refine zR_goto (tgt := 147) dX0_fireAt_133 (by decide) ?_
      refine zR_sub (lv' := [(0, .ref (w.1 + 48)), (1, .int x1), (2, .int y18), (3, .int x3), (4, .int x4)]) [0, 1, 2, 3, 4] rfl ?_
      exact wX0_fireAt_5_b147 F k7 hk7 V0 V1 V2 V3 V4 V5_16 V6 V7 x1 y18 x3 x4 _ h
    · have h := zif_f h c10
      refine zR_if_ne_t (tgt := 136) dX0_fireAt_104 (by decide) c10 ?_
      refine zR_sub (lv' := [(0, .ref (w.1 + 48)), (1, .int x1), (2, .int x2), (3, .int x3), (4, .int x4), (5, .int x5)]) [0, 1, 2, 3, 4, 5] rfl ?_
      exact wX0_fireAt_5_b136 F k7 hk7 V0 V1 V2 V3 V4 V5 V6 V7 x1 x2 x3 x4 x5 _ h
set_option maxRecDepth 100000 in
set_option maxHeartbeats 4000000 in
theorem wX0_fireAt_5_b84 {w : zW} (F : Nat) (k7 : zV → zV → Int32 → Int32 → Int32 → Int32 → Option (Int32 × zV)) (hk7 : ∀ (V0 V1 V2 V3 V4 V5 V6 V7 : zV) (x1 : Int32) (x2 : Int32) (x3 : Int32) (x4 : Int32) (res : Int32 × zV), k7 V4 V5 x1 x2 x3 x4 = some res → zR w kX0_fireAt 1 0 0 (some (.int res.1)) (zE zds w [V0, V1, V2, V3, V4, res.2, V6, V7]) 7 [(0, .ref (w.1 + 48)), (1, .int x1), (2, .int x2), (3, .int x3), (4, .int x4)] [] (zE zds w [V0, V1, V2, V3, V4, V5, V6, V7])) (V0 V1 V2 V3 V4 V5 V6 V7 : zV) (x1 : Int32) (x2 : Int32) (x3 : Int32) (x4 : Int32) (x5 : Int32) (res : Int32 × zV) (h : fX0_fireAt_b84 F k7 V4 V5 x1 x2 x3 x4 x5 = some res) : zR w kX0_fireAt 1 0 0 (some (.int res.1)) (zE zds w [V0, V1, V2, V3, V4, res.2, V6, V7]) 84 [(0, .ref (w.1 + 48)), (1, .int x1), (2, .int x2), (3, .int x3), (4, .int x4), (5, .int x5)] [] (zE zds w [V0, V1, V2, V3, V4, V5, V6, V7]) := by
  unfold fX0_fireAt_b84 at h
  refine zR_iconst (x := (0 : Int32)) dX0_fireAt_84 rfl ?_
  exact wX0_fireAt_5_b85 F k7 hk7 V0 V1 V2 V3 V4 V5 V6 V7 x1 x2 x3 x4 x5 (0 : Int32) _ h
set_option maxRecDepth 100000 in
set_option maxHeartbeats 4000000 in
theorem wX0_fireAt_5_b80 {w : zW} (F : Nat) (k7 : zV → zV → Int32 → Int32 → Int32 → Int32 → Option (Int32 × zV)) (hk7 : ∀ (V0 V1 V2 V3 V4 V5 V6 V7 : zV) (x1 : Int32) (x2 : Int32) (x3 : Int32) (x4 : Int32) (res : Int32 × zV), k7 V4 V5 x1 x2 x3 x4 = some res → zR w kX0_fireAt 1 0 0 (some (.int res.1)) (zE zds w [V0, V1, V2, V3, V4, res.2, V6, V7]) 7 [(0, .ref (w.1 + 48)), (1, .int x1), (2, .int x2), (3, .int x3), (4, .int x4)] [] (zE zds w [V0, V1, V2, V3, V4, V5, V6, V7])) (V0 V1 V2 V3 V4 V5 V6 V7 : zV) (x1 : Int32) (x2 : Int32) (x3 : Int32) (x4 : Int32) (x5 : Int32) (res : Int32 × zV) (h : fX0_fireAt_b80 F k7 V4 V5 x1 x2 x3 x4 x5 = some res) : zR w kX0_fireAt 1 0 0 (some (.int res.1)) (zE zds w [V0, V1, V2, V3, V4, res.2, V6, V7]) 80 [(0, .ref (w.1 + 48)), (1, .int x1), (2, .int x2), (3, .int x3), (4, .int x4), (5, .int x5)] [] (zE zds w [V0, V1, V2, V3, V4, V5, V6, V7]) := by
  unfold fX0_fireAt_b80 at h
  refine zR_iconst (x := (1 : Int32)) dX0_fireAt_80 rfl ?_
  refine zR_goto (tgt := 85) dX0_fireAt_81 (by decide) ?_
  exact wX0_fireAt_5_b85 F k7 hk7 V0 V1 V2 V3 V4 V5 V6 V7 x1 x2 x3 x4 x5 (1 : Int32) _ h
set_option maxRecDepth 100000 in
set_option maxHeartbeats 4000000 in
theorem wX0_fireAt_5_l7 {w : zW} (F : Nat) : ∀ (n : Nat) (V0 V1 V2 V3 V4 V5 V6 V7 : zV) (x1 : Int32) (x2 : Int32) (x3 : Int32) (x4 : Int32) (res : Int32 × zV), fX0_fireAt_l7 F n V4 V5 x1 x2 x3 x4 = some res → zR w kX0_fireAt 1 0 0 (some (.int res.1)) (zE zds w [V0, V1, V2, V3, V4, res.2, V6, V7]) 7 [(0, .ref (w.1 + 48)), (1, .int x1), (2, .int x2), (3, .int x3), (4, .int x4)] [] (zE zds w [V0, V1, V2, V3, V4, V5, V6, V7]) := by
  intro n
  induction n with
  | zero =>
    intro V0 V1 V2 V3 V4 V5 V6 V7 x1 x2 x3 x4 res h
    simp [fX0_fireAt_l7] at h
  | succ n ih =>
    intro V0 V1 V2 V3 V4 V5 V6 V7 x1 x2 x3 x4 res h
    rw [fX0_fireAt_l7] at h
    refine zR_iload dX0_fireAt_7 4 rfl ?_
    refine zR_aload_n dX0_fireAt_9 0 rfl ?_
    refine zG_getI dX0_fireAt_10 zf_X0_21 zd_48 rfl rfl ?_
    by_cases c20 : (zI V5 10 4) ≤ x4
    · have h := zif_t h c20
      refine zR_icmp_ge_t (tgt := 153) dX0_fireAt_13 (by decide) c20 ?_
      refine zR_sub (lv' := [(0, .ref (w.1 + 48)), (2, .int x2), (3, .int x3)]) [0, 2, 3] rfl ?_
      exact wX0_fireAt_5_b153 F V0 V1 V2 V3 V4 V5 V6 V7 x2 x3 _ h
    · have h := zif_f h c20
      refine zR_icmp_ge_f (tgt := 153) dX0_fireAt_13 (by decide) c20 ?_
      refine zR_iload dX0_fireAt_16 4 rfl ?_
      refine zR_aload_n dX0_fireAt_18 0 rfl ?_
      refine zG_getR dX0_fireAt_19 zf_X0_18 zd_48 rfl rfl ?_
      refine zG_alen (u := (8 : Int32)) dX0_fireAt_22 zd_51 (Nat.le_of_ble_eq_true rfl) rfl rfl rfl ?_
      by_cases c21 : (8 : Int32) ≤ x4
      · have h := zif_t h c21
        refine zR_icmp_ge_t (tgt := 153) dX0_fireAt_23 (by decide) c21 ?_
        refine zR_sub (lv' := [(0, .ref (w.1 + 48)), (2, .int x2), (3, .int x3)]) [0, 2, 3] rfl ?_
        exact wX0_fireAt_5_b153 F V0 V1 V2 V3 V4 V5 V6 V7 x2 x3 _ h
      · have h := zif_f h c21
        refine zR_icmp_ge_f (tgt := 153) dX0_fireAt_23 (by decide) c21 ?_
        refine zR_aload_n dX0_fireAt_26 0 rfl ?_
        refine zG_getR dX0_fireAt_27 zf_X0_18 zd_48 rfl rfl ?_
        refine zR_iload dX0_fireAt_30 4 rfl ?_
        obtain ⟨g22, h⟩ := zchk_some h
        refine zG_iald dX0_fireAt_32 zd_51 rfl rfl g22 ?_
        obtain ⟨y23, e24, h⟩ := zlet_some h
        refine zR_nmI e24 ?_
        refine zR_istore (lv' := [(0, .ref (w.1 + 48)), (1, .int x1), (2, .int x2), (3, .int x3), (4, .int x4), (5, .int y23)]) dX0_fireAt_33 (Nat.le_of_ble_eq_true rfl) rfl ?_
        refine zR_aload_n dX0_fireAt_35 0 rfl ?_
        refine zG_getR dX0_fireAt_36 zf_X0_25 zd_48 rfl rfl ?_
        refine zR_iconst (x := (1 : Int32)) dX0_fireAt_39 rfl ?_
        refine zR_iload dX0_fireAt_40 5 rfl ?_
        obtain ⟨q25, hq26, h⟩ := zbd_some h
        refine zR_cV (rest := []) (st1 := [.int q25]) dX0_fireAt_42 (mX9_has F V0 V1 V2 V3 V4 V5 V6 V7 (1 : Int32) y23 _ hq26) zc_X0_29 rfl (zE_at zd_15) ⟨_, _, rfl⟩ rfl (Nat.le_of_ble_eq_true rfl) (Nat.le_of_ble_eq_true rfl) rfl ?_
        by_cases c27 : q25 = 0
        · have h := zif_t h c27
          refine zR_if_eq_t (tgt := 84) dX0_fireAt_45 (by decide) c27 ?_
          exact wX0_fireAt_5_b84 F (fX0_fireAt_l7 F n) ih V0 V1 V2 V3 V4 V5 V6 V7 x1 x2 x3 x4 y23 _ h
        · have h := zif_f h c27
          refine zR_if_eq_f (tgt := 84) dX0_fireAt_45 (by decide) c27 ?_
          refine zR_aload_n dX0_fireAt_48 0 rfl ?_
          refine zG_getR dX0_fireAt_49 zf_X0_9 zd_48 rfl rfl ?_
          refine zR_iload dX0_fireAt_52 5 rfl ?_
          obtain ⟨g28, h⟩ := zchk_some h
          refine zG_iald dX0_fireAt_54 zd_49 rfl rfl g28 ?_
          by_cases c29 : (zA V5 11 (y23).toNatClampNeg) = 0
          · have h := zif_t h c29
            refine zR_if_eq_t (tgt := 80) dX0_fireAt_55 (by decide) c29 ?_
            exact wX0_fireAt_5_b80 F (fX0_fireAt_l7 F n) ih V0 V1 V2 V3 V4 V5 V6 V7 x1 x2 x3 x4 y23 _ h
          · have h := zif_f h c29
            refine zR_if_eq_f (tgt := 80) dX0_fireAt_55 (by decide) c29 ?_
            refine zR_iload_n dX0_fireAt_58 1 rfl ?_
            refine zR_aload_n dX0_fireAt_59 0 rfl ?_
            refine zG_getR dX0_fireAt_60 zf_X0_15 zd_48 rfl rfl ?_
            refine zR_iload dX0_fireAt_63 5 rfl ?_
            obtain ⟨g30, h⟩ := zchk_some h
            refine zG_iald dX0_fireAt_65 zd_50 rfl rfl g30 ?_
            refine zR_isub dX0_fireAt_66 ?_
            refine zR_aload_n dX0_fireAt_67 0 rfl ?_
            refine zG_getR dX0_fireAt_68 zf_X0_25 zd_48 rfl rfl ?_
            refine zG_getR dX0_fireAt_71 zf_X0_39 zd_15 rfl rfl ?_
            refine zR_iload dX0_fireAt_74 5 rfl ?_
            obtain ⟨g31, h⟩ := zchk_some h
            refine zG_iald dX0_fireAt_76 zd_18 rfl rfl g31 ?_
            by_cases c32 : (x1 - (zA V5 12 (y23).toNatClampNeg)) < (zA V4 3 (y23).toNatClampNeg)
            · have h := zif_t h c32
              refine zR_icmp_lt_t (tgt := 84) dX0_fireAt_77 (by decide) c32 ?_
              exact wX0_fireAt_5_b84 F (fX0_fireAt_l7 F n) ih V0 V1 V2 V3 V4 V5 V6 V7 x1 x2 x3 x4 y23 _ h
            · have h := zif_f h c32
              refine zR_icmp_lt_f (tgt := 84) dX0_fireAt_77 (by decide) c32 ?_
              exact wX0_fireAt_5_b80 F (fX0_fireAt_l7 F n) ih V0 V1 V2 V3 V4 V5 V6 V7 x1 x2 x3 x4 y23 _ h
set_option maxRecDepth 100000 in
set_option maxHeartbeats 4000000 in
theorem mX0_fireAt_5 {w : zW} (F : Nat) (V0 V1 V2 V3 V4 V5 V6 V7 : zV) (x1 : Int32) (res : Int32 × zV) (h : fX0_fireAt F V4 V5 x1 = some res) : zMet w kX0_fireAt 1 0 0 [.ref (w.1 + 48), .int x1] (zE zds w [V0, V1, V2, V3, V4, V5, V6, V7]) (some (.int res.1)) (zE zds w [V0, V1, V2, V3, V4, res.2, V6, V7]) := by
  refine zMet_of (by decide) (Nat.le_of_ble_eq_true rfl) (Nat.le_refl 0) fun _ => ?_
  show zR w kX0_fireAt 1 0 0 (some (.int res.1)) (zE zds w [V0, V1, V2, V3, V4, res.2, V6, V7]) 0 [(0, .ref (w.1 + 48)), (1, .int x1)] [] (zE zds w [V0, V1, V2, V3, V4, V5, V6, V7])
  unfold fX0_fireAt at h
  refine zR_iconst (x := (0 : Int32)) dX0_fireAt_0 rfl ?_
  refine zR_istore_n (lv' := [(0, .ref (w.1 + 48)), (1, .int x1), (2, .int (0 : Int32))]) dX0_fireAt_1 (Nat.le_of_ble_eq_true rfl) rfl ?_
  refine zR_iconst (x := (0 : Int32)) dX0_fireAt_2 rfl ?_
  refine zR_istore_n (lv' := [(0, .ref (w.1 + 48)), (1, .int x1), (2, .int (0 : Int32)), (3, .int (0 : Int32))]) dX0_fireAt_3 (Nat.le_of_ble_eq_true rfl) rfl ?_
  refine zR_iconst (x := (0 : Int32)) dX0_fireAt_4 rfl ?_
  refine zR_istore (lv' := [(0, .ref (w.1 + 48)), (1, .int x1), (2, .int (0 : Int32)), (3, .int (0 : Int32)), (4, .int (0 : Int32))]) dX0_fireAt_5 (Nat.le_of_ble_eq_true rfl) rfl ?_
  exact wX0_fireAt_5_l7 F F V0 V1 V2 V3 V4 V5 V6 V7 x1 (0 : Int32) (0 : Int32) (0 : Int32) _ h
set_option maxRecDepth 100000 in
set_option maxHeartbeats 4000000 in
theorem wX1_passTick_5_b96 {w : zW} (F : Nat) (V0 V1 V2 V3 V4 V5 V6 V7 : zV) (res : Int32 × zV) (h : fX1_passTick_b96 F V4 V5 = some res) : zR w kX1_passTick 25 0 0 (some (.int res.1)) (zE zds w [V0, V1, V2, V3, V4, res.2, V6, V7]) 96 [(0, .ref (w.1 + 38))] [] (zE zds w [V0, V1, V2, V3, V4, V5, V6, V7]) := by
  unfold fX1_passTick_b96 at h
  refine zR_aload_n dX1_passTick_96 0 rfl ?_
  refine zG_getR dX1_passTick_97 zf_X1_71 zd_38 rfl rfl ?_
  refine zR_aload_n dX1_passTick_100 0 rfl ?_
  refine zG_getI dX1_passTick_101 zf_X1_23 zd_38 rfl rfl ?_
  obtain ⟨q1, hq2, h⟩ := zbd_some h
  refine zR_cV (rest := []) (st1 := [.int q1.1]) dX1_passTick_104 (mX0_fireAt_5 F V0 V1 V2 V3 V4 V5 V6 V7 (zI V5 0 10) _ hq2) zc_X1_144 rfl (zE_at zd_48) ⟨_, _, rfl⟩ rfl (Nat.le_of_ble_eq_true rfl) (Nat.le_of_ble_eq_true rfl) rfl ?_
  have h := Option.some.inj h
  subst h
  exact zR_iret (x := q1.1) dX1_passTick_107 rfl rfl
set_option maxRecDepth 100000 in
set_option maxHeartbeats 4000000 in
theorem wX1_passTick_5_b86 {w : zW} (F : Nat) (k33 : zV → zV → Int32 → Option (Int32 × zV)) (hk33 : ∀ (V0 V1 V2 V3 V4 V5 V6 V7 : zV) (x1 : Int32) (res : Int32 × zV), k33 V4 V5 x1 = some res → zR w kX1_passTick 25 0 0 (some (.int res.1)) (zE zds w [V0, V1, V2, V3, V4, res.2, V6, V7]) 33 [(0, .ref (w.1 + 38)), (1, .int x1)] [] (zE zds w [V0, V1, V2, V3, V4, V5, V6, V7])) (V0 V1 V2 V3 V4 V5 V6 V7 : zV) (x1 : Int32) (res : Int32 × zV) (h : fX1_passTick_b86 F k33 V4 V5 x1 = some res) : zR w kX1_passTick 25 0 0 (some (.int res.1)) (zE zds w [V0, V1, V2, V3, V4, res.2, V6, V7]) 86 [(0, .ref (w.1 + 38)), (1, .int x1)] [] (zE zds w [V0, V1, V2, V3, V4, V5, V6, V7]) := by
  unfold fX1_passTick_b86 at h
  refine zR_iinc (u := (x1 + 1)) (lv' := [(0, .ref (w.1 + 38)), (1, .int (x1 + 1))]) dX1_passTick_86 1 rfl rfl (Nat.le_of_ble_eq_true rfl) rfl ?_
  refine zR_goto (tgt := 33) dX1_passTick_89 (by decide) ?_
  exact hk33 V0 V1 V2 V3 V4 V5 V6 V7 (x1 + 1) _ h
set_option maxRecDepth 100000 in
set_option maxHeartbeats 4000000 in
theorem wX1_passTick_5_l33 {w : zW} (F : Nat) : ∀ (n : Nat) (V0 V1 V2 V3 V4 V5 V6 V7 : zV) (x1 : Int32) (res : Int32 × zV), fX1_passTick_l33 F n V4 V5 x1 = some res → zR w kX1_passTick 25 0 0 (some (.int res.1)) (zE zds w [V0, V1, V2, V3, V4, res.2, V6, V7]) 33 [(0, .ref (w.1 + 38)), (1, .int x1)] [] (zE zds w [V0, V1, V2, V3, V4, V5, V6, V7]) := by
  intro n
  induction n with
  | zero =>
    intro V0 V1 V2 V3 V4 V5 V6 V7 x1 res h
    simp [fX1_passTick_l33] at h
  | succ n ih =>
    intro V0 V1 V2 V3 V4 V5 V6 V7 x1 res h
    rw [fX1_passTick_l33] at h
    refine zR_iload_n dX1_passTick_33 1 rfl ?_
    refine zR_aload_n dX1_passTick_34 0 rfl ?_
    refine zG_getR dX1_passTick_35 zf_X1_39 zd_38 rfl rfl ?_
    refine zG_getR dX1_passTick_38 zf_X1_125 zd_15 rfl rfl ?_
    refine zR_bipush (x := (7 : Int32)) dX1_passTick_41 rfl ?_
    refine zG_iald dX1_passTick_43 zd_16 rfl rfl (show zix (7 : Int32) 27 from by decide) ?_
    by_cases c3 : (zA V4 1 ((7 : Int32)).toNatClampNeg) ≤ x1
    · have h := zif_t h c3
      refine zR_icmp_ge_t (tgt := 92) dX1_passTick_44 (by decide) c3 ?_
      refine zR_aload_n dX1_passTick_92 0 rfl ?_
      obtain ⟨q4, hq5, h⟩ := zbd_some h
      refine zR_cV (rest := []) (st1 := []) dX1_passTick_93 (mX1_endBallIfNoneInPlay_5 F V0 V1 V2 V3 V4 V5 V6 V7 _ hq5) zc_X1_114 rfl (zE_at zd_38) ⟨_, _, rfl⟩ rfl (Nat.le_of_ble_eq_true rfl) (Nat.le_of_ble_eq_true rfl) rfl ?_
      refine zR_sub (lv' := [(0, .ref (w.1 + 38))]) [0] rfl ?_
      exact wX1_passTick_5_b96 F V0 V1 V2 V3 V4 q4 V6 V7 _ h
    · have h := zif_f h c3
      refine zR_icmp_ge_f (tgt := 92) dX1_passTick_44 (by decide) c3 ?_
      refine zR_aload_n dX1_passTick_47 0 rfl ?_
      refine zG_getR dX1_passTick_48 zf_X1_39 zd_38 rfl rfl ?_
      refine zR_iload_n dX1_passTick_51 1 rfl ?_
      obtain ⟨q6, hq7, h⟩ := zbd_some h
      refine zR_cV (rest := []) (st1 := [.int q6]) dX1_passTick_52 (mX9_inOrder F V0 V1 V2 V3 V4 V5 V6 V7 x1 _ hq7) zc_X1_128 rfl (zE_at zd_15) ⟨_, _, rfl⟩ rfl (Nat.le_of_ble_eq_true rfl) (Nat.le_of_ble_eq_true rfl) rfl ?_
      refine zR_istore_n (lv' := [(0, .ref (w.1 + 38)), (1, .int x1), (2, .int q6)]) dX1_passTick_55 (Nat.le_of_ble_eq_true rfl) rfl ?_
      refine zR_aload_n dX1_passTick_56 0 rfl ?_
      refine zG_getR dX1_passTick_57 zf_X1_87 zd_38 rfl rfl ?_
      refine zR_iload_n dX1_passTick_60 2 rfl ?_
      obtain ⟨q8, hq9, h⟩ := zbd_some h
      refine zR_cV (rest := []) (st1 := [.int q8.1]) dX1_passTick_61 (mX4_passTimeOf_5 F V0 V1 V2 V3 V4 V5 V6 V7 q6 _ hq9) zc_X1_138 rfl (zE_at zd_56) ⟨_, _, rfl⟩ rfl (Nat.le_of_ble_eq_true rfl) (Nat.le_of_ble_eq_true rfl) rfl ?_
      by_cases c10 : q8.1 = 0
      · have h := zif_t h c10
        refine zR_if_eq_t (tgt := 86) dX1_passTick_64 (by decide) c10 ?_
        refine zR_sub (lv' := [(0, .ref (w.1 + 38)), (1, .int x1)]) [0, 1] rfl ?_
        exact wX1_passTick_5_b86 F (fX1_passTick_l33 F n) ih V0 V1 V2 V3 V4 q8.2 V6 V7 x1 _ h
      · have h := zif_f h c10
        refine zR_if_eq_f (tgt := 86) dX1_passTick_64 (by decide) c10 ?_
        refine zR_aload_n dX1_passTick_67 0 rfl ?_
        refine zG_getR dX1_passTick_68 zf_X1_87 zd_38 rfl rfl ?_
        refine zR_iload_n dX1_passTick_71 2 rfl ?_
        obtain ⟨q11, hq12, h⟩ := zbd_some h
        refine zR_cV (rest := []) (st1 := [.int q11.1]) dX1_passTick_72 (mX4_turnOff_5 F V0 V1 V2 V3 V4 q8.2 V6 V7 q6 _ hq12) zc_X1_141 rfl (zE_at zd_56) ⟨_, _, rfl⟩ rfl (Nat.le_of_ble_eq_true rfl) (Nat.le_of_ble_eq_true rfl) rfl ?_
        by_cases c13 : q11.1 = 0
        · have h := zif_t h c13
          refine zR_if_eq_t (tgt := 86) dX1_passTick_75 (by decide) c13 ?_
          refine zR_sub (lv' := [(0, .ref (w.1 + 38)), (1, .int x1)]) [0, 1] rfl ?_
          exact wX1_passTick_5_b86 F (fX1_passTick_l33 F n) ih V0 V1 V2 V3 V4 q11.2 V6 V7 x1 _ h
        · have h := zif_f h c13
          refine zR_if_eq_f (tgt := 86) dX1_passTick_75 (by decide) c13 ?_
          refine zR_aload_n dX1_passTick_78 0 rfl ?_
          refine zR_iload_n dX1_passTick_79 2 rfl ?_
          refine zR_bipush (x := (-2 : Int32)) dX1_passTick_80 (by decide) ?_
          refine zR_iconst (x := (1 : Int32)) dX1_passTick_82 rfl ?_
          obtain ⟨q14, hq15, h⟩ := zbd_some h
          refine zR_cV (rest := []) (st1 := []) dX1_passTick_83 (mX1_doRules_5 F V0 V1 V2 V3 V4 q11.2 V6 V7 q6 (-2 : Int32) (1 : Int32) _ hq15) zc_X1_110 rfl (zE_at zd_38) ⟨_, _, rfl⟩ rfl (Nat.le_of_ble_eq_true rfl) (Nat.le_of_ble_eq_true rfl) rfl ?_
          refine zR_sub (lv' := [(0, .ref (w.1 + 38)), (1, .int x1)]) [0, 1] rfl ?_
          exact wX1_passTick_5_b86 F (fX1_passTick_l33 F n) ih V0 V1 V2 V3 V4 q14 V6 V7 x1 _ h
set_option maxRecDepth 100000 in
set_option maxHeartbeats 4000000 in
theorem mX1_passTick_5 {w : zW} (F : Nat) (V0 V1 V2 V3 V4 V5 V6 V7 : zV) (res : Int32 × zV) (h : fX1_passTick F V4 V5 = some res) : zMet w kX1_passTick 25 0 0 [.ref (w.1 + 38)] (zE zds w [V0, V1, V2, V3, V4, V5, V6, V7]) (some (.int res.1)) (zE zds w [V0, V1, V2, V3, V4, res.2, V6, V7]) := by
  refine zMet_of (by decide) (Nat.le_of_ble_eq_true rfl) (Nat.le_refl 0) fun _ => ?_
  show zR w kX1_passTick 25 0 0 (some (.int res.1)) (zE zds w [V0, V1, V2, V3, V4, res.2, V6, V7]) 0 [(0, .ref (w.1 + 38))] [] (zE zds w [V0, V1, V2, V3, V4, V5, V6, V7])
  unfold fX1_passTick at h
  refine zR_aload_n dX1_passTick_0 0 rfl ?_
  refine zR_dup dX1_passTick_1 rfl ?_
  refine zG_getI dX1_passTick_2 zf_X1_23 zd_38 rfl rfl ?_
  refine zR_iconst (x := (1 : Int32)) dX1_passTick_5 rfl ?_
  refine zR_iadd dX1_passTick_6 ?_
  obtain ⟨V5_16, e17, h⟩ := zlet_some h
  refine zG_putI zds_ok dX1_passTick_7 zf_X1_23 zt_X1_10 zd_38 rfl rfl e17 rfl ?_
  refine zR_aload_n dX1_passTick_10 0 rfl ?_
  refine zG_getI dX1_passTick_11 zf_X1_19 zd_38 rfl rfl ?_
  by_cases c18 : (zI V5_16 0 9) = 0
  · have h := zif_t h c18
    refine zR_if_eq_t (tgt := 96) dX1_passTick_14 (by decide) c18 ?_
    exact wX1_passTick_5_b96 F V0 V1 V2 V3 V4 V5_16 V6 V7 _ h
  · have h := zif_f h c18
    refine zR_if_eq_f (tgt := 96) dX1_passTick_14 (by decide) c18 ?_
    refine zR_aload_n dX1_passTick_17 0 rfl ?_
    refine zG_getR dX1_passTick_18 zf_X1_87 zd_38 rfl rfl ?_
    refine zG_getI dX1_passTick_21 zf_X1_135 zd_56 rfl rfl ?_
    by_cases c19 : (zI V5_16 18 6) ≤ 0
    · have h := zif_t h c19
      refine zR_if_le_t (tgt := 96) dX1_passTick_24 (by decide) c19 ?_
      exact wX1_passTick_5_b96 F V0 V1 V2 V3 V4 V5_16 V6 V7 _ h
    · have h := zif_f h c19
      refine zR_if_le_f (tgt := 96) dX1_passTick_24 (by decide) c19 ?_
      refine zR_aload_n dX1_passTick_27 0 rfl ?_
      obtain ⟨q20, hq21, h⟩ := zbd_some h
      refine zR_cV (rest := []) (st1 := []) dX1_passTick_28 (mX1_beginActs_5 F V0 V1 V2 V3 V4 V5_16 V6 V7 _ hq21) zc_X1_103 rfl (zE_at zd_38) ⟨_, _, rfl⟩ rfl (Nat.le_of_ble_eq_true rfl) (Nat.le_of_ble_eq_true rfl) rfl ?_
      refine zR_iconst (x := (0 : Int32)) dX1_passTick_31 rfl ?_
      refine zR_istore_n (lv' := [(0, .ref (w.1 + 38)), (1, .int (0 : Int32))]) dX1_passTick_32 (Nat.le_of_ble_eq_true rfl) rfl ?_
      exact wX1_passTick_5_l33 F F V0 V1 V2 V3 V4 q20 V6 V7 (0 : Int32) _ h
set_option maxRecDepth 100000 in
set_option maxHeartbeats 4000000 in
theorem wX11_ticks_l39 {w : zW} (F : Nat) : ∀ (n : Nat) (V0 V1 V2 V3 V4 V5 V6 V7 : zV) (x1 : Int32) (x2 : Int32) (x3 : Int32) (res : Int32 × zV), fX11_ticks_l39 F n V0 V4 V5 x1 x2 x3 = some res → zR w kX11_ticks 26 0 0 (some (.int res.1)) (zE zds w [V0, V1, V2, V3, V4, res.2, V6, V7]) 39 [(0, .ref (w.1 + 0)), (1, .int x1), (2, .int x2), (3, .int x3)] [] (zE zds w [V0, V1, V2, V3, V4, V5, V6, V7]) := by
  intro n
  induction n with
  | zero =>
    intro V0 V1 V2 V3 V4 V5 V6 V7 x1 x2 x3 res h
    simp [fX11_ticks_l39] at h
  | succ n ih =>
    intro V0 V1 V2 V3 V4 V5 V6 V7 x1 x2 x3 res h
    rw [fX11_ticks_l39] at h
    refine zR_iload_n dX11_ticks_39 3 rfl ?_
    refine zR_iload_n dX11_ticks_40 1 rfl ?_
    by_cases c1 : x1 ≤ x3
    · have h := zif_t h c1
      refine zR_icmp_ge_t (tgt := 60) dX11_ticks_41 (by decide) c1 ?_
      refine zR_iload_n dX11_ticks_60 2 rfl ?_
      have h := Option.some.inj h
      subst h
      exact zR_iret (x := x2) dX11_ticks_61 rfl rfl
    · have h := zif_f h c1
      refine zR_icmp_ge_f (tgt := 60) dX11_ticks_41 (by decide) c1 ?_
      refine zR_iload_n dX11_ticks_44 2 rfl ?_
      refine zR_aload_n dX11_ticks_45 0 rfl ?_
      refine zG_getR dX11_ticks_46 zf_X11_59 zd_0 rfl rfl ?_
      obtain ⟨q2, hq3, h⟩ := zbd_some h
      refine zR_cV (rest := [.int x2]) (st1 := [.int q2.1, .int x2]) dX11_ticks_49 (mX1_passTick_5 F V0 V1 V2 V3 V4 V5 V6 V7 _ hq3) zc_X11_112 rfl (zE_at zd_38) ⟨_, _, rfl⟩ rfl (Nat.le_of_ble_eq_true rfl) (Nat.le_of_ble_eq_true rfl) rfl ?_
      refine zR_iadd dX11_ticks_52 ?_
      refine zR_istore_n (lv' := [(0, .ref (w.1 + 0)), (1, .int x1), (2, .int (x2 + q2.1)), (3, .int x3)]) dX11_ticks_53 (Nat.le_of_ble_eq_true rfl) rfl ?_
      refine zR_iinc (u := (x3 + 1)) (lv' := [(0, .ref (w.1 + 0)), (1, .int x1), (2, .int (x2 + q2.1)), (3, .int (x3 + 1))]) dX11_ticks_54 3 rfl rfl (Nat.le_of_ble_eq_true rfl) rfl ?_
      refine zR_goto (tgt := 39) dX11_ticks_57 (by decide) ?_
      exact ih V0 V1 V2 V3 V4 q2.2 V6 V7 x1 (x2 + q2.1) (x3 + 1) _ h
set_option maxRecDepth 100000 in
set_option maxHeartbeats 4000000 in
theorem mX11_ticks {w : zW} (F : Nat) (V0 V1 V2 V3 V4 V5 V6 V7 : zV) (x1 : Int32) (res : Int32 × zV) (h : fX11_ticks F V0 V4 V5 x1 = some res) : zMet w kX11_ticks 26 0 0 [.ref (w.1 + 0), .int x1] (zE zds w [V0, V1, V2, V3, V4, V5, V6, V7]) (some (.int res.1)) (zE zds w [V0, V1, V2, V3, V4, res.2, V6, V7]) := by
  refine zMet_of (by decide) (Nat.le_of_ble_eq_true rfl) (Nat.le_refl 0) fun _ => ?_
  show zR w kX11_ticks 26 0 0 (some (.int res.1)) (zE zds w [V0, V1, V2, V3, V4, res.2, V6, V7]) 0 [(0, .ref (w.1 + 0)), (1, .int x1)] [] (zE zds w [V0, V1, V2, V3, V4, V5, V6, V7])
  unfold fX11_ticks at h
  refine zR_aload_n dX11_ticks_0 0 rfl ?_
  refine zG_getI dX11_ticks_1 zf_X11_63 zd_0 rfl rfl ?_
  by_cases c4 : (zI V0 0 9) = 0
  · have h := zif_t h c4
    refine zR_if_eq_t (tgt := 33) dX11_ticks_4 (by decide) c4 ?_
    refine zR_iconst (x := (-1 : Int32)) dX11_ticks_33 (by decide) ?_
    have h := Option.some.inj h
    subst h
    exact zR_iret (x := (-1 : Int32)) dX11_ticks_34 rfl rfl
  · have h := zif_f h c4
    refine zR_if_eq_f (tgt := 33) dX11_ticks_4 (by decide) c4 ?_
    refine zR_iload_n dX11_ticks_7 1 rfl ?_
    refine zR_iconst (x := (1 : Int32)) dX11_ticks_8 rfl ?_
    by_cases c5 : x1 < (1 : Int32)
    · have h := zif_t h c5
      refine zR_icmp_lt_t (tgt := 33) dX11_ticks_9 (by decide) c5 ?_
      refine zR_iconst (x := (-1 : Int32)) dX11_ticks_33 (by decide) ?_
      have h := Option.some.inj h
      subst h
      exact zR_iret (x := (-1 : Int32)) dX11_ticks_34 rfl rfl
    · have h := zif_f h c5
      refine zR_icmp_lt_f (tgt := 33) dX11_ticks_9 (by decide) c5 ?_
      refine zR_iload_n dX11_ticks_12 1 rfl ?_
      refine zR_bipush (x := (100 : Int32)) dX11_ticks_13 rfl ?_
      by_cases c6 : (100 : Int32) < x1
      · have h := zif_t h c6
        refine zR_icmp_gt_t (tgt := 33) dX11_ticks_15 (by decide) c6 ?_
        refine zR_iconst (x := (-1 : Int32)) dX11_ticks_33 (by decide) ?_
        have h := Option.some.inj h
        subst h
        exact zR_iret (x := (-1 : Int32)) dX11_ticks_34 rfl rfl
      · have h := zif_f h c6
        refine zR_icmp_gt_f (tgt := 33) dX11_ticks_15 (by decide) c6 ?_
        refine zR_aload_n dX11_ticks_18 0 rfl ?_
        refine zG_getR dX11_ticks_19 zf_X11_59 zd_0 rfl rfl ?_
        refine zG_getI dX11_ticks_22 zf_X11_105 zd_38 rfl rfl ?_
        refine zR_iload_n dX11_ticks_25 1 rfl ?_
        refine zR_iadd dX11_ticks_26 ?_
        refine zR_sipush (x := (5000 : Int32)) dX11_ticks_27 rfl ?_
        by_cases c7 : ((zI V5 0 10) + x1) ≤ (5000 : Int32)
        · have h := zif_t h c7
          refine zR_icmp_le_t (tgt := 35) dX11_ticks_30 (by decide) c7 ?_
          refine zR_iconst (x := (0 : Int32)) dX11_ticks_35 rfl ?_
          refine zR_istore_n (lv' := [(0, .ref (w.1 + 0)), (1, .int x1), (2, .int (0 : Int32))]) dX11_ticks_36 (Nat.le_of_ble_eq_true rfl) rfl ?_
          refine zR_iconst (x := (0 : Int32)) dX11_ticks_37 rfl ?_
          refine zR_istore_n (lv' := [(0, .ref (w.1 + 0)), (1, .int x1), (2, .int (0 : Int32)), (3, .int (0 : Int32))]) dX11_ticks_38 (Nat.le_of_ble_eq_true rfl) rfl ?_
          exact wX11_ticks_l39 F F V0 V1 V2 V3 V4 V5 V6 V7 x1 (0 : Int32) (0 : Int32) _ h
        · have h := zif_f h c7
          refine zR_icmp_le_f (tgt := 35) dX11_ticks_30 (by decide) c7 ?_
          refine zR_iconst (x := (-1 : Int32)) dX11_ticks_33 (by decide) ?_
          have h := Option.some.inj h
          subst h
          exact zR_iret (x := (-1 : Int32)) dX11_ticks_34 rfl rfl
set_option maxRecDepth 100000 in
set_option maxHeartbeats 4000000 in
theorem mX11_score {w : zW} (F : Nat) (V0 V1 V2 V3 V4 V5 V6 V7 : zV) (res : Int64) (h : fX11_score F V0 V5 = some res) : zMet w kX11_score 0 0 0 [.ref (w.1 + 0)] (zE zds w [V0, V1, V2, V3, V4, V5, V6, V7]) (some (.long res)) (zE zds w [V0, V1, V2, V3, V4, V5, V6, V7]) := by
  refine zMet_of (by decide) (Nat.le_of_ble_eq_true rfl) (Nat.le_refl 0) fun _ => ?_
  show zR w kX11_score 0 0 0 (some (.long res)) (zE zds w [V0, V1, V2, V3, V4, V5, V6, V7]) 0 [(0, .ref (w.1 + 0))] [] (zE zds w [V0, V1, V2, V3, V4, V5, V6, V7])
  unfold fX11_score at h
  refine zR_aload_n dX11_score_0 0 rfl ?_
  refine zG_getI dX11_score_1 zf_X11_63 zd_0 rfl rfl ?_
  by_cases c1 : (zI V0 0 9) = 0
  · have h := zif_t h c1
    refine zR_if_eq_t (tgt := 17) dX11_score_4 (by decide) c1 ?_
    refine zR_ldc2 (x := (-1 : Int64)) dX11_score_17 zk_X11_120 ?_
    have h := Option.some.inj h
    subst h
    exact zR_lret dX11_score_20 rfl
  · have h := zif_f h c1
    refine zR_if_eq_f (tgt := 17) dX11_score_4 (by decide) c1 ?_
    refine zR_aload_n dX11_score_7 0 rfl ?_
    refine zG_getR dX11_score_8 zf_X11_59 zd_0 rfl rfl ?_
    refine zG_getL dX11_score_11 zf_X11_116 zd_38 rfl rfl ?_
    refine zR_goto (tgt := 20) dX11_score_14 (by decide) ?_
    have h := Option.some.inj h
    subst h
    exact zR_lret dX11_score_20 rfl
set_option maxRecDepth 100000 in
set_option maxHeartbeats 4000000 in
theorem mX1_ballsOver_5 {w : zW} (F : Nat) (V0 V1 V2 V3 V4 V5 V6 V7 : zV) (res : Int32) (h : fX1_ballsOver F V5 = some res) : zMet w kX1_ballsOver 0 0 0 [.ref (w.1 + 38)] (zE zds w [V0, V1, V2, V3, V4, V5, V6, V7]) (some (.int res)) (zE zds w [V0, V1, V2, V3, V4, V5, V6, V7]) := by
  refine zMet_of (by decide) (Nat.le_of_ble_eq_true rfl) (Nat.le_refl 0) fun _ => ?_
  show zR w kX1_ballsOver 0 0 0 (some (.int res)) (zE zds w [V0, V1, V2, V3, V4, V5, V6, V7]) 0 [(0, .ref (w.1 + 38))] [] (zE zds w [V0, V1, V2, V3, V4, V5, V6, V7])
  unfold fX1_ballsOver at h
  refine zR_aload_n dX1_ballsOver_0 0 rfl ?_
  refine zG_getI dX1_ballsOver_1 zf_X1_19 zd_38 rfl rfl ?_
  by_cases c1 : (zI V5 0 9) = 0
  · have h := zif_t h c1
    refine zR_if_ne_f (tgt := 11) dX1_ballsOver_4 (by decide) c1 ?_
    refine zR_iconst (x := (3 : Int32)) dX1_ballsOver_7 rfl ?_
    refine zR_goto (tgt := 17) dX1_ballsOver_8 (by decide) ?_
    have h := Option.some.inj h
    subst h
    exact zR_iret (x := (3 : Int32)) dX1_ballsOver_17 rfl rfl
  · have h := zif_f h c1
    refine zR_if_ne_t (tgt := 11) dX1_ballsOver_4 (by decide) c1 ?_
    refine zR_aload_n dX1_ballsOver_11 0 rfl ?_
    refine zG_getI dX1_ballsOver_12 zf_X1_19 zd_38 rfl rfl ?_
    refine zR_iconst (x := (1 : Int32)) dX1_ballsOver_15 rfl ?_
    refine zR_isub dX1_ballsOver_16 ?_
    have h := Option.some.inj h
    subst h
    exact zR_iret (x := ((zI V5 0 9) - (1 : Int32))) dX1_ballsOver_17 rfl rfl
set_option maxRecDepth 100000 in
set_option maxHeartbeats 4000000 in
theorem mX8_isStuck_5 {w : zW} (F : Nat) (V0 V1 V2 V3 V4 V5 V6 V7 : zV) (x1 : Int32) (x2 : Int32) (res : Int32) (h : fX8_isStuck F V5 x1 x2 = some res) : zMet w kX8_isStuck 0 0 0 [.ref (w.1 + 43), .int x1, .int x2] (zE zds w [V0, V1, V2, V3, V4, V5, V6, V7]) (some (.int res)) (zE zds w [V0, V1, V2, V3, V4, V5, V6, V7]) := by
  refine zMet_of (by decide) (Nat.le_of_ble_eq_true rfl) (Nat.le_refl 0) fun _ => ?_
  show zR w kX8_isStuck 0 0 0 (some (.int res)) (zE zds w [V0, V1, V2, V3, V4, V5, V6, V7]) 0 [(0, .ref (w.1 + 43)), (1, .int x1), (2, .int x2)] [] (zE zds w [V0, V1, V2, V3, V4, V5, V6, V7])
  unfold fX8_isStuck at h
  refine zR_iload_n dX8_isStuck_0 1 rfl ?_
  by_cases c1 : x1 < 0
  · have h := zif_t h c1
    refine zR_if_lt_t (tgt := 34) dX8_isStuck_1 (by decide) c1 ?_
    refine zR_iconst (x := (0 : Int32)) dX8_isStuck_34 rfl ?_
    have h := Option.some.inj h
    subst h
    exact zR_iret (x := (0 : Int32)) dX8_isStuck_35 rfl znar0
  · have h := zif_f h c1
    refine zR_if_lt_f (tgt := 34) dX8_isStuck_1 (by decide) c1 ?_
    refine zR_iload_n dX8_isStuck_4 1 rfl ?_
    refine zR_aload_n dX8_isStuck_5 0 rfl ?_
    refine zG_getR dX8_isStuck_6 zf_X8_21 zd_43 rfl rfl ?_
    refine zG_alen (u := (16 : Int32)) dX8_isStuck_9 zd_47 (Nat.le_of_ble_eq_true rfl) rfl rfl rfl ?_
    by_cases c2 : (16 : Int32) ≤ x1
    · have h := zif_t h c2
      refine zR_icmp_ge_t (tgt := 34) dX8_isStuck_10 (by decide) c2 ?_
      refine zR_iconst (x := (0 : Int32)) dX8_isStuck_34 rfl ?_
      have h := Option.some.inj h
      subst h
      exact zR_iret (x := (0 : Int32)) dX8_isStuck_35 rfl znar0
    · have h := zif_f h c2
      refine zR_icmp_ge_f (tgt := 34) dX8_isStuck_10 (by decide) c2 ?_
      refine zR_iload_n dX8_isStuck_13 2 rfl ?_
      refine zR_iconst (x := (2 : Int32)) dX8_isStuck_14 rfl ?_
      by_cases c3 : x2 < (2 : Int32)
      · have h := zif_t h c3
        refine zR_icmp_lt_t (tgt := 34) dX8_isStuck_15 (by decide) c3 ?_
        refine zR_iconst (x := (0 : Int32)) dX8_isStuck_34 rfl ?_
        have h := Option.some.inj h
        subst h
        exact zR_iret (x := (0 : Int32)) dX8_isStuck_35 rfl znar0
      · have h := zif_f h c3
        refine zR_icmp_lt_f (tgt := 34) dX8_isStuck_15 (by decide) c3 ?_
        refine zR_aload_n dX8_isStuck_18 0 rfl ?_
        refine zG_getR dX8_isStuck_19 zf_X8_21 zd_43 rfl rfl ?_
        refine zR_iload_n dX8_isStuck_22 1 rfl ?_
        obtain ⟨g4, h⟩ := zchk_some h
        refine zG_iald dX8_isStuck_23 zd_47 rfl rfl g4 ?_
        refine zR_iload_n dX8_isStuck_24 2 rfl ?_
        refine zR_iconst (x := (1 : Int32)) dX8_isStuck_25 rfl ?_
        refine zR_isub dX8_isStuck_26 ?_
        by_cases c5 : (x2 - (1 : Int32)) ≤ (zA V5 9 (x1).toNatClampNeg)
        · have h := zif_t h c5
          refine zR_icmp_ge_t (tgt := 34) dX8_isStuck_27 (by decide) c5 ?_
          refine zR_iconst (x := (0 : Int32)) dX8_isStuck_34 rfl ?_
          have h := Option.some.inj h
          subst h
          exact zR_iret (x := (0 : Int32)) dX8_isStuck_35 rfl znar0
        · have h := zif_f h c5
          refine zR_icmp_ge_f (tgt := 34) dX8_isStuck_27 (by decide) c5 ?_
          refine zR_iconst (x := (1 : Int32)) dX8_isStuck_30 rfl ?_
          refine zR_goto (tgt := 35) dX8_isStuck_31 (by decide) ?_
          have h := Option.some.inj h
          subst h
          exact zR_iret (x := (1 : Int32)) dX8_isStuck_35 rfl znar1
set_option maxRecDepth 100000 in
set_option maxHeartbeats 4000000 in
theorem mX11_told {w : zW} (F : Nat) (V0 V1 V2 V3 V4 V5 V6 V7 : zV) (x1 : Int32) (x2 : Int32) (res : Int32) (h : fX11_told F V0 V4 V5 x1 x2 = some res) : zMet w kX11_told 1 0 0 [.ref (w.1 + 0), .int x1, .int x2] (zE zds w [V0, V1, V2, V3, V4, V5, V6, V7]) (some (.int res)) (zE zds w [V0, V1, V2, V3, V4, V5, V6, V7]) := by
  refine zMet_of (by decide) (Nat.le_of_ble_eq_true rfl) (Nat.le_refl 0) fun _ => ?_
  show zR w kX11_told 1 0 0 (some (.int res)) (zE zds w [V0, V1, V2, V3, V4, V5, V6, V7]) 0 [(0, .ref (w.1 + 0)), (1, .int x1), (2, .int x2)] [] (zE zds w [V0, V1, V2, V3, V4, V5, V6, V7])
  unfold fX11_told at h
  refine zR_aload_n dX11_told_0 0 rfl ?_
  refine zG_getR dX11_told_1 zf_X11_46 zd_0 rfl rfl ?_
  refine zR_iconst (x := (0 : Int32)) dX11_told_4 rfl ?_
  refine zR_iload_n dX11_told_5 1 rfl ?_
  obtain ⟨q1, hq2, h⟩ := zbd_some h
  refine zR_cV (rest := []) (st1 := [.int q1]) dX11_told_6 (mX9_has F V0 V1 V2 V3 V4 V5 V6 V7 (0 : Int32) x1 _ hq2) zc_X11_101 rfl (zE_at zd_15) ⟨_, _, rfl⟩ rfl (Nat.le_of_ble_eq_true rfl) (Nat.le_of_ble_eq_true rfl) rfl ?_
  by_cases c3 : q1 = 0
  · have h := zif_t h c3
    refine zR_if_ne_f (tgt := 14) dX11_told_9 (by decide) c3 ?_
    refine zR_iconst (x := (-1 : Int32)) dX11_told_12 (by decide) ?_
    have h := Option.some.inj h
    subst h
    exact zR_iret (x := (-1 : Int32)) dX11_told_13 rfl rfl
  · have h := zif_f h c3
    refine zR_if_ne_t (tgt := 14) dX11_told_9 (by decide) c3 ?_
    refine zR_iload_n dX11_told_14 2 rfl ?_
    refine zR_iconst (x := (3 : Int32)) dX11_told_15 rfl ?_
    by_cases c4 : x2 = (3 : Int32)
    · have h := zif_t h c4
      refine zR_icmp_ne_f (tgt := 29) dX11_told_16 (by decide) c4 ?_
      refine zR_aload_n dX11_told_19 0 rfl ?_
      refine zG_getR dX11_told_20 zf_X11_46 zd_0 rfl rfl ?_
      refine zG_getR dX11_told_23 zf_X11_122 zd_15 rfl rfl ?_
      refine zR_iload_n dX11_told_26 1 rfl ?_
      obtain ⟨g16, h⟩ := zchk_some h
      refine zG_iald dX11_told_27 zd_17 rfl rfl g16 ?_
      have h := Option.some.inj h
      subst h
      exact zR_iret (x := (zA V4 2 (x1).toNatClampNeg)) dX11_told_28 rfl rfl
    · have h := zif_f h c4
      refine zR_icmp_ne_t (tgt := 29) dX11_told_16 (by decide) c4 ?_
      refine zR_aload_n dX11_told_29 0 rfl ?_
      refine zG_getI dX11_told_30 zf_X11_63 zd_0 rfl rfl ?_
      by_cases c5 : (zI V0 0 9) = 0
      · have h := zif_t h c5
        refine zR_if_ne_f (tgt := 38) dX11_told_33 (by decide) c5 ?_
        refine zR_iconst (x := (-1 : Int32)) dX11_told_36 (by decide) ?_
        have h := Option.some.inj h
        subst h
        exact zR_iret (x := (-1 : Int32)) dX11_told_37 rfl rfl
      · have h := zif_f h c5
        refine zR_if_ne_t (tgt := 38) dX11_told_33 (by decide) c5 ?_
        refine zR_iload_n dX11_told_38 2 rfl ?_
        by_cases c6 : x2 = (0 : Int32)
        · have h := zif_t h c6
          refine zR_tabc (tgt := 64) dX11_told_39 c6 rfl (by decide) ?_
          refine zR_aload_n dX11_told_64 0 rfl ?_
          refine zG_getR dX11_told_65 zf_X11_59 zd_0 rfl rfl ?_
          refine zG_getR dX11_told_68 zf_X11_125 zd_38 rfl rfl ?_
          refine zG_getR dX11_told_71 zf_X11_129 zd_43 rfl rfl ?_
          refine zR_iload_n dX11_told_74 1 rfl ?_
          obtain ⟨g7, h⟩ := zchk_some h
          refine zG_iald dX11_told_75 zd_44 rfl rfl g7 ?_
          have h := Option.some.inj h
          subst h
          exact zR_iret (x := (zA V5 6 (x1).toNatClampNeg)) dX11_told_76 rfl rfl
        · have h := zif_f h c6
          by_cases c8 : x2 = (1 : Int32)
          · have h := zif_t h c8
            refine zR_tabc (tgt := 77) dX11_told_39 c8 rfl (by decide) ?_
            refine zR_aload_n dX11_told_77 0 rfl ?_
            refine zG_getR dX11_told_78 zf_X11_59 zd_0 rfl rfl ?_
            refine zG_getR dX11_told_81 zf_X11_125 zd_38 rfl rfl ?_
            refine zG_getR dX11_told_84 zf_X11_134 zd_43 rfl rfl ?_
            refine zR_iload_n dX11_told_87 1 rfl ?_
            obtain ⟨g9, h⟩ := zchk_some h
            refine zG_iald dX11_told_88 zd_45 rfl rfl g9 ?_
            have h := Option.some.inj h
            subst h
            exact zR_iret (x := (zA V5 7 (x1).toNatClampNeg)) dX11_told_89 rfl rfl
          · have h := zif_f h c8
            by_cases c10 : x2 = (2 : Int32)
            · have h := zif_t h c10
              refine zR_tabc (tgt := 90) dX11_told_39 c10 rfl (by decide) ?_
              refine zR_aload_n dX11_told_90 0 rfl ?_
              refine zG_getR dX11_told_91 zf_X11_59 zd_0 rfl rfl ?_
              refine zG_getR dX11_told_94 zf_X11_125 zd_38 rfl rfl ?_
              refine zR_iload_n dX11_told_97 1 rfl ?_
              refine zR_aload_n dX11_told_98 0 rfl ?_
              refine zG_getR dX11_told_99 zf_X11_59 zd_0 rfl rfl ?_
              obtain ⟨q11, hq12, h⟩ := zbd_some h
              refine zR_cV (rest := [.int x1, .ref (w.1 + 43)]) (st1 := [.int q11, .int x1, .ref (w.1 + 43)]) dX11_told_102 (mX1_ballsOver_5 F V0 V1 V2 V3 V4 V5 V6 V7 _ hq12) zc_X11_137 rfl (zE_at zd_38) ⟨_, _, rfl⟩ rfl (Nat.le_of_ble_eq_true rfl) (Nat.le_of_ble_eq_true rfl) rfl ?_
              obtain ⟨q13, hq14, h⟩ := zbd_some h
              refine zR_cV (rest := []) (st1 := [.int q13]) dX11_told_105 (mX8_isStuck_5 F V0 V1 V2 V3 V4 V5 V6 V7 x1 q11 _ hq14) zc_X11_140 rfl (zE_at zd_43) ⟨_, _, rfl⟩ rfl (Nat.le_of_ble_eq_true rfl) (Nat.le_of_ble_eq_true rfl) rfl ?_
              by_cases c15 : q13 = 0
              · have h := zif_t h c15
                refine zR_if_eq_t (tgt := 115) dX11_told_108 (by decide) c15 ?_
                refine zR_iconst (x := (0 : Int32)) dX11_told_115 rfl ?_
                have h := Option.some.inj h
                subst h
                exact zR_iret (x := (0 : Int32)) dX11_told_116 rfl rfl
              · have h := zif_f h c15
                refine zR_if_eq_f (tgt := 115) dX11_told_108 (by decide) c15 ?_
                refine zR_iconst (x := (1 : Int32)) dX11_told_111 rfl ?_
                refine zR_goto (tgt := 116) dX11_told_112 (by decide) ?_
                have h := Option.some.inj h
                subst h
                exact zR_iret (x := (1 : Int32)) dX11_told_116 rfl rfl
            · have h := zif_f h c10
              refine zR_tabO (tgt := 117) dX11_told_39 (by have u0 := zne c6 (n := 0) rfl; have u1 := zne c8 (n := 1) rfl; have u2 := zne c10 (n := 2) rfl; omega) (by decide) ?_
              refine zR_iconst (x := (-1 : Int32)) dX11_told_117 (by decide) ?_
              have h := Option.some.inj h
              subst h
              exact zR_iret (x := (-1 : Int32)) dX11_told_118 rfl rfl
set_option maxRecDepth 100000 in
set_option maxHeartbeats 4000000 in
theorem mX11_coil {w : zW} (F : Nat) (V0 V1 V2 V3 V4 V5 V6 V7 : zV) (x1 : Int32) (x2 : Int32) (res : Int32) (h : fX11_coil F V0 V4 V5 x1 x2 = some res) : zMet w kX11_coil 1 0 0 [.ref (w.1 + 0), .int x1, .int x2] (zE zds w [V0, V1, V2, V3, V4, V5, V6, V7]) (some (.int res)) (zE zds w [V0, V1, V2, V3, V4, V5, V6, V7]) := by
  refine zMet_of (by decide) (Nat.le_of_ble_eq_true rfl) (Nat.le_refl 0) fun _ => ?_
  show zR w kX11_coil 1 0 0 (some (.int res)) (zE zds w [V0, V1, V2, V3, V4, V5, V6, V7]) 0 [(0, .ref (w.1 + 0)), (1, .int x1), (2, .int x2)] [] (zE zds w [V0, V1, V2, V3, V4, V5, V6, V7])
  unfold fX11_coil at h
  refine zR_aload_n dX11_coil_0 0 rfl ?_
  refine zG_getI dX11_coil_1 zf_X11_63 zd_0 rfl rfl ?_
  by_cases c1 : (zI V0 0 9) = 0
  · have h := zif_t h c1
    refine zR_if_eq_t (tgt := 19) dX11_coil_4 (by decide) c1 ?_
    refine zR_iconst (x := (-1 : Int32)) dX11_coil_19 (by decide) ?_
    have h := Option.some.inj h
    subst h
    exact zR_iret (x := (-1 : Int32)) dX11_coil_20 rfl rfl
  · have h := zif_f h c1
    refine zR_if_eq_f (tgt := 19) dX11_coil_4 (by decide) c1 ?_
    refine zR_aload_n dX11_coil_7 0 rfl ?_
    refine zG_getR dX11_coil_8 zf_X11_46 zd_0 rfl rfl ?_
    refine zR_iconst (x := (1 : Int32)) dX11_coil_11 rfl ?_
    refine zR_iload_n dX11_coil_12 1 rfl ?_
    obtain ⟨q2, hq3, h⟩ := zbd_some h
    refine zR_cV (rest := []) (st1 := [.int q2]) dX11_coil_13 (mX9_has F V0 V1 V2 V3 V4 V5 V6 V7 (1 : Int32) x1 _ hq3) zc_X11_101 rfl (zE_at zd_15) ⟨_, _, rfl⟩ rfl (Nat.le_of_ble_eq_true rfl) (Nat.le_of_ble_eq_true rfl) rfl ?_
    by_cases c4 : q2 = 0
    · have h := zif_t h c4
      refine zR_if_ne_f (tgt := 21) dX11_coil_16 (by decide) c4 ?_
      refine zR_iconst (x := (-1 : Int32)) dX11_coil_19 (by decide) ?_
      have h := Option.some.inj h
      subst h
      exact zR_iret (x := (-1 : Int32)) dX11_coil_20 rfl rfl
    · have h := zif_f h c4
      refine zR_if_ne_t (tgt := 21) dX11_coil_16 (by decide) c4 ?_
      refine zR_iload_n dX11_coil_21 2 rfl ?_
      by_cases c5 : x2 = (0 : Int32)
      · have h := zif_t h c5
        refine zR_tabc (tgt := 48) dX11_coil_22 c5 rfl (by decide) ?_
        refine zR_aload_n dX11_coil_48 0 rfl ?_
        refine zG_getR dX11_coil_49 zf_X11_59 zd_0 rfl rfl ?_
        refine zG_getR dX11_coil_52 zf_X11_143 zd_38 rfl rfl ?_
        refine zG_getR dX11_coil_55 zf_X11_147 zd_48 rfl rfl ?_
        refine zR_iload_n dX11_coil_58 1 rfl ?_
        obtain ⟨g6, h⟩ := zchk_some h
        refine zG_iald dX11_coil_59 zd_49 rfl rfl g6 ?_
        have h := Option.some.inj h
        subst h
        exact zR_iret (x := (zA V5 11 (x1).toNatClampNeg)) dX11_coil_60 rfl rfl
      · have h := zif_f h c5
        by_cases c7 : x2 = (1 : Int32)
        · have h := zif_t h c7
          refine zR_tabc (tgt := 61) dX11_coil_22 c7 rfl (by decide) ?_
          refine zR_aload_n dX11_coil_61 0 rfl ?_
          refine zG_getR dX11_coil_62 zf_X11_59 zd_0 rfl rfl ?_
          refine zG_getR dX11_coil_65 zf_X11_143 zd_38 rfl rfl ?_
          refine zG_getR dX11_coil_68 zf_X11_147 zd_48 rfl rfl ?_
          refine zR_iload_n dX11_coil_71 1 rfl ?_
          obtain ⟨g8, h⟩ := zchk_some h
          refine zG_iald dX11_coil_72 zd_49 rfl rfl g8 ?_
          by_cases c9 : (zA V5 11 (x1).toNatClampNeg) ≤ 0
          · have h := zif_t h c9
            refine zR_if_le_t (tgt := 91) dX11_coil_73 (by decide) c9 ?_
            refine zR_iconst (x := (-1 : Int32)) dX11_coil_91 (by decide) ?_
            have h := Option.some.inj h
            subst h
            exact zR_iret (x := (-1 : Int32)) dX11_coil_92 rfl rfl
          · have h := zif_f h c9
            refine zR_if_le_f (tgt := 91) dX11_coil_73 (by decide) c9 ?_
            refine zR_aload_n dX11_coil_76 0 rfl ?_
            refine zG_getR dX11_coil_77 zf_X11_59 zd_0 rfl rfl ?_
            refine zG_getR dX11_coil_80 zf_X11_143 zd_38 rfl rfl ?_
            refine zG_getR dX11_coil_83 zf_X11_152 zd_48 rfl rfl ?_
            refine zR_iload_n dX11_coil_86 1 rfl ?_
            obtain ⟨g10, h⟩ := zchk_some h
            refine zG_iald dX11_coil_87 zd_50 rfl rfl g10 ?_
            refine zR_goto (tgt := 92) dX11_coil_88 (by decide) ?_
            have h := Option.some.inj h
            subst h
            exact zR_iret (x := (zA V5 12 (x1).toNatClampNeg)) dX11_coil_92 rfl rfl
        · have h := zif_f h c7
          by_cases c11 : x2 = (2 : Int32)
          · have h := zif_t h c11
            refine zR_tabc (tgt := 93) dX11_coil_22 c11 rfl (by decide) ?_
            refine zR_aload_n dX11_coil_93 0 rfl ?_
            refine zG_getR dX11_coil_94 zf_X11_59 zd_0 rfl rfl ?_
            refine zG_getR dX11_coil_97 zf_X11_143 zd_38 rfl rfl ?_
            refine zR_iload_n dX11_coil_100 1 rfl ?_
            obtain ⟨q12, hq13, h⟩ := zbd_some h
            refine zR_cV (rest := []) (st1 := [.int q12]) dX11_coil_101 (mX0_placeInRow_5 F V0 V1 V2 V3 V4 V5 V6 V7 x1 _ hq13) zc_X11_155 rfl (zE_at zd_48) ⟨_, _, rfl⟩ rfl (Nat.le_of_ble_eq_true rfl) (Nat.le_of_ble_eq_true rfl) rfl ?_
            have h := Option.some.inj h
            subst h
            exact zR_iret (x := q12) dX11_coil_104 rfl rfl
          · have h := zif_f h c11
            refine zR_tabO (tgt := 105) dX11_coil_22 (by have u0 := zne c5 (n := 0) rfl; have u1 := zne c7 (n := 1) rfl; have u2 := zne c11 (n := 2) rfl; omega) (by decide) ?_
            refine zR_iconst (x := (-1 : Int32)) dX11_coil_105 (by decide) ?_
            have h := Option.some.inj h
            subst h
            exact zR_iret (x := (-1 : Int32)) dX11_coil_106 rfl rfl
set_option maxRecDepth 100000 in
set_option maxHeartbeats 4000000 in
theorem mX6_pays {w : zW} (F : Nat) (V0 V1 V2 V3 V4 V5 V6 V7 : zV) (x1 : Int32) (res : Int32) (h : fX6_pays F V4 x1 = some res) : zMet w kX6_pays 0 0 0 [.ref (w.1 + 28), .int x1] (zE zds w [V0, V1, V2, V3, V4, V5, V6, V7]) (some (.int res)) (zE zds w [V0, V1, V2, V3, V4, V5, V6, V7]) := by
  refine zMet_of (by decide) (Nat.le_of_ble_eq_true rfl) (Nat.le_refl 0) fun _ => ?_
  show zR w kX6_pays 0 0 0 (some (.int res)) (zE zds w [V0, V1, V2, V3, V4, V5, V6, V7]) 0 [(0, .ref (w.1 + 28)), (1, .int x1)] [] (zE zds w [V0, V1, V2, V3, V4, V5, V6, V7])
  unfold fX6_pays at h
  refine zR_iload_n dX6_pays_0 1 rfl ?_
  by_cases c1 : x1 < 0
  · have h := zif_t h c1
    refine zR_if_lt_t (tgt := 25) dX6_pays_1 (by decide) c1 ?_
    refine zR_iconst (x := (0 : Int32)) dX6_pays_25 rfl ?_
    have h := Option.some.inj h
    subst h
    exact zR_iret (x := (0 : Int32)) dX6_pays_26 rfl znar0
  · have h := zif_f h c1
    refine zR_if_lt_f (tgt := 25) dX6_pays_1 (by decide) c1 ?_
    refine zR_iload_n dX6_pays_4 1 rfl ?_
    refine zR_aload_n dX6_pays_5 0 rfl ?_
    refine zG_getI dX6_pays_6 zf_X6_23 zd_28 rfl rfl ?_
    by_cases c2 : (zI V4 13 3) ≤ x1
    · have h := zif_t h c2
      refine zR_icmp_ge_t (tgt := 25) dX6_pays_9 (by decide) c2 ?_
      refine zR_iconst (x := (0 : Int32)) dX6_pays_25 rfl ?_
      have h := Option.some.inj h
      subst h
      exact zR_iret (x := (0 : Int32)) dX6_pays_26 rfl znar0
    · have h := zif_f h c2
      refine zR_icmp_ge_f (tgt := 25) dX6_pays_9 (by decide) c2 ?_
      refine zR_aload_n dX6_pays_12 0 rfl ?_
      refine zG_getR dX6_pays_13 zf_X6_38 zd_28 rfl rfl ?_
      refine zR_iload_n dX6_pays_16 1 rfl ?_
      obtain ⟨g3, h⟩ := zchk_some h
      refine zG_zald dX6_pays_17 zd_35 rfl rfl g3 ?_
      by_cases c4 : (zA V4 20 (x1).toNatClampNeg) = 0
      · have h := zif_t h c4
        refine zR_if_eq_t (tgt := 25) dX6_pays_18 (by decide) c4 ?_
        refine zR_iconst (x := (0 : Int32)) dX6_pays_25 rfl ?_
        have h := Option.some.inj h
        subst h
        exact zR_iret (x := (0 : Int32)) dX6_pays_26 rfl znar0
      · have h := zif_f h c4
        refine zR_if_eq_f (tgt := 25) dX6_pays_18 (by decide) c4 ?_
        refine zR_iconst (x := (1 : Int32)) dX6_pays_21 rfl ?_
        refine zR_goto (tgt := 26) dX6_pays_22 (by decide) ?_
        have h := Option.some.inj h
        subst h
        exact zR_iret (x := (1 : Int32)) dX6_pays_26 rfl znar1
set_option maxRecDepth 100000 in
set_option maxHeartbeats 4000000 in
theorem mX6_hasHold {w : zW} (F : Nat) (V0 V1 V2 V3 V4 V5 V6 V7 : zV) (x1 : Int32) (res : Int32) (h : fX6_hasHold F V4 x1 = some res) : zMet w kX6_hasHold 0 0 0 [.ref (w.1 + 28), .int x1] (zE zds w [V0, V1, V2, V3, V4, V5, V6, V7]) (some (.int res)) (zE zds w [V0, V1, V2, V3, V4, V5, V6, V7]) := by
  refine zMet_of (by decide) (Nat.le_of_ble_eq_true rfl) (Nat.le_refl 0) fun _ => ?_
  show zR w kX6_hasHold 0 0 0 (some (.int res)) (zE zds w [V0, V1, V2, V3, V4, V5, V6, V7]) 0 [(0, .ref (w.1 + 28)), (1, .int x1)] [] (zE zds w [V0, V1, V2, V3, V4, V5, V6, V7])
  unfold fX6_hasHold at h
  refine zR_iload_n dX6_hasHold_0 1 rfl ?_
  by_cases c1 : x1 < 0
  · have h := zif_t h c1
    refine zR_if_lt_t (tgt := 25) dX6_hasHold_1 (by decide) c1 ?_
    refine zR_iconst (x := (0 : Int32)) dX6_hasHold_25 rfl ?_
    have h := Option.some.inj h
    subst h
    exact zR_iret (x := (0 : Int32)) dX6_hasHold_26 rfl znar0
  · have h := zif_f h c1
    refine zR_if_lt_f (tgt := 25) dX6_hasHold_1 (by decide) c1 ?_
    refine zR_iload_n dX6_hasHold_4 1 rfl ?_
    refine zR_aload_n dX6_hasHold_5 0 rfl ?_
    refine zG_getI dX6_hasHold_6 zf_X6_23 zd_28 rfl rfl ?_
    by_cases c2 : (zI V4 13 3) ≤ x1
    · have h := zif_t h c2
      refine zR_icmp_ge_t (tgt := 25) dX6_hasHold_9 (by decide) c2 ?_
      refine zR_iconst (x := (0 : Int32)) dX6_hasHold_25 rfl ?_
      have h := Option.some.inj h
      subst h
      exact zR_iret (x := (0 : Int32)) dX6_hasHold_26 rfl znar0
    · have h := zif_f h c2
      refine zR_icmp_ge_f (tgt := 25) dX6_hasHold_9 (by decide) c2 ?_
      refine zR_aload_n dX6_hasHold_12 0 rfl ?_
      refine zG_getR dX6_hasHold_13 zf_X6_42 zd_28 rfl rfl ?_
      refine zR_iload_n dX6_hasHold_16 1 rfl ?_
      obtain ⟨g3, h⟩ := zchk_some h
      refine zG_zald dX6_hasHold_17 zd_36 rfl rfl g3 ?_
      by_cases c4 : (zA V4 21 (x1).toNatClampNeg) = 0
      · have h := zif_t h c4
        refine zR_if_eq_t (tgt := 25) dX6_hasHold_18 (by decide) c4 ?_
        refine zR_iconst (x := (0 : Int32)) dX6_hasHold_25 rfl ?_
        have h := Option.some.inj h
        subst h
        exact zR_iret (x := (0 : Int32)) dX6_hasHold_26 rfl znar0
      · have h := zif_f h c4
        refine zR_if_eq_f (tgt := 25) dX6_hasHold_18 (by decide) c4 ?_
        refine zR_iconst (x := (1 : Int32)) dX6_hasHold_21 rfl ?_
        refine zR_goto (tgt := 26) dX6_hasHold_22 (by decide) ?_
        have h := Option.some.inj h
        subst h
        exact zR_iret (x := (1 : Int32)) dX6_hasHold_26 rfl znar1
set_option maxRecDepth 100000 in
set_option maxHeartbeats 4000000 in
theorem wX1_wouldPay_5_b154 {w : zW} (F : Nat) (k78 : zV → zV → Int32 → Int32 → Int32 → Int32 → Int32 → Option (Int32 × zV)) (hk78 : ∀ (V0 V1 V2 V3 V4 V5 V6 V7 : zV) (x1 : Int32) (x2 : Int32) (x3 : Int32) (x4 : Int32) (x5 : Int32) (res : Int32 × zV), k78 V4 V5 x1 x2 x3 x4 x5 = some res → zR w kX1_wouldPay 4 0 0 (some (.int res.1)) (zE zds w [V0, V1, V2, V3, V4, res.2, V6, V7]) 78 [(0, .ref (w.1 + 38)), (1, .int x1), (2, .int x2), (3, .int x3), (4, .int x4), (5, .int x5)] [] (zE zds w [V0, V1, V2, V3, V4, V5, V6, V7])) (V0 V1 V2 V3 V4 V5 V6 V7 : zV) (x1 : Int32) (x2 : Int32) (x3 : Int32) (x4 : Int32) (x5 : Int32) (res : Int32 × zV) (h : fX1_wouldPay_b154 F k78 V4 V5 x1 x2 x3 x4 x5 = some res) : zR w kX1_wouldPay 4 0 0 (some (.int res.1)) (zE zds w [V0, V1, V2, V3, V4, res.2, V6, V7]) 154 [(0, .ref (w.1 + 38)), (1, .int x1), (2, .int x2), (3, .int x3), (4, .int x4), (5, .int x5)] [] (zE zds w [V0, V1, V2, V3, V4, V5, V6, V7]) := by
  unfold fX1_wouldPay_b154 at h
  refine zR_iinc (u := (x5 + 1)) (lv' := [(0, .ref (w.1 + 38)), (1, .int x1), (2, .int x2), (3, .int x3), (4, .int x4), (5, .int (x5 + 1))]) dX1_wouldPay_154 5 rfl rfl (Nat.le_of_ble_eq_true rfl) rfl ?_
  refine zR_goto (tgt := 78) dX1_wouldPay_157 (by decide) ?_
  exact hk78 V0 V1 V2 V3 V4 V5 V6 V7 x1 x2 x3 x4 (x5 + 1) _ h
set_option maxRecDepth 100000 in
set_option maxHeartbeats 4000000 in
theorem wX1_wouldPay_5_b127 {w : zW} (F : Nat) (k78 : zV → zV → Int32 → Int32 → Int32 → Int32 → Int32 → Option (Int32 × zV)) (hk78 : ∀ (V0 V1 V2 V3 V4 V5 V6 V7 : zV) (x1 : Int32) (x2 : Int32) (x3 : Int32) (x4 : Int32) (x5 : Int32) (res : Int32 × zV), k78 V4 V5 x1 x2 x3 x4 x5 = some res → zR w kX1_wouldPay 4 0 0 (some (.int res.1)) (zE zds w [V0, V1, V2, V3, V4, res.2, V6, V7]) 78 [(0, .ref (w.1 + 38)), (1, .int x1), (2, .int x2), (3, .int x3), (4, .int x4), (5, .int x5)] [] (zE zds w [V0, V1, V2, V3, V4, V5, V6, V7])) (V0 V1 V2 V3 V4 V5 V6 V7 : zV) (x1 : Int32) (x2 : Int32) (x3 : Int32) (x4 : Int32) (x5 : Int32) (s0 : Int32) (res : Int32 × zV) (h : fX1_wouldPay_b127 F k78 V4 V5 x1 x2 x3 x4 x5 s0 = some res) : zR w kX1_wouldPay 4 0 0 (some (.int res.1)) (zE zds w [V0, V1, V2, V3, V4, res.2, V6, V7]) 127 [(0, .ref (w.1 + 38)), (1, .int x1), (2, .int x2), (3, .int x3), (4, .int x4), (5, .int x5)] [.int s0] (zE zds w [V0, V1, V2, V3, V4, V5, V6, V7]) := by
  unfold fX1_wouldPay_b127 at h
  refine zR_istore (lv' := [(0, .ref (w.1 + 38)), (1, .int x1), (2, .int x2), (3, .int x3), (4, .int x4), (5, .int x5), (6, .int s0)]) dX1_wouldPay_127 (Nat.le_of_ble_eq_true rfl) rfl ?_
  refine zR_iload dX1_wouldPay_129 6 rfl ?_
  by_cases c1 : s0 = 0
  · have h := zif_t h c1
    refine zR_if_eq_t (tgt := 154) dX1_wouldPay_131 (by decide) c1 ?_
    refine zR_sub (lv' := [(0, .ref (w.1 + 38)), (1, .int x1), (2, .int x2), (3, .int x3), (4, .int x4), (5, .int x5)]) [0, 1, 2, 3, 4, 5] rfl ?_
    exact wX1_wouldPay_5_b154 F k78 hk78 V0 V1 V2 V3 V4 V5 V6 V7 x1 x2 x3 x4 x5 _ h
  · have h := zif_f h c1
    refine zR_if_eq_f (tgt := 154) dX1_wouldPay_131 (by decide) c1 ?_
    refine zR_aload_n dX1_wouldPay_134 0 rfl ?_
    refine zR_iload dX1_wouldPay_135 5 rfl ?_
    refine zR_iload_n dX1_wouldPay_137 3 rfl ?_
    obtain ⟨q2, hq3, h⟩ := zbd_some h
    refine zR_cV (rest := []) (st1 := [.int q2.1]) dX1_wouldPay_138 (mX1_holds_5 F V0 V1 V2 V3 V4 V5 V6 V7 x5 x3 _ hq3) zc_X1_168 rfl (zE_at zd_38) ⟨_, _, rfl⟩ rfl (Nat.le_of_ble_eq_true rfl) (Nat.le_of_ble_eq_true rfl) rfl ?_
    by_cases c4 : q2.1 = 0
    · have h := zif_t h c4
      refine zR_if_eq_t (tgt := 154) dX1_wouldPay_141 (by decide) c4 ?_
      refine zR_sub (lv' := [(0, .ref (w.1 + 38)), (1, .int x1), (2, .int x2), (3, .int x3), (4, .int x4), (5, .int x5)]) [0, 1, 2, 3, 4, 5] rfl ?_
      exact wX1_wouldPay_5_b154 F k78 hk78 V0 V1 V2 V3 V4 q2.2 V6 V7 x1 x2 x3 x4 x5 _ h
    · have h := zif_f h c4
      refine zR_if_eq_f (tgt := 154) dX1_wouldPay_141 (by decide) c4 ?_
      refine zR_aload_n dX1_wouldPay_144 0 rfl ?_
      refine zG_getR dX1_wouldPay_145 zf_X1_49 zd_38 rfl rfl ?_
      refine zR_iload dX1_wouldPay_148 5 rfl ?_
      obtain ⟨q5, hq6, h⟩ := zbd_some h
      refine zR_cV (rest := []) (st1 := [.int q5]) dX1_wouldPay_150 (mX6_pays F V0 V1 V2 V3 V4 q2.2 V6 V7 x5 _ hq6) zc_X1_227 rfl (zE_at zd_28) ⟨_, _, rfl⟩ rfl (Nat.le_of_ble_eq_true rfl) (Nat.le_of_ble_eq_true rfl) rfl ?_
      obtain ⟨g7, h⟩ := zchk_some h
      have h := Option.some.inj h
      subst h
      exact zR_iret (x := q5) dX1_wouldPay_153 rfl (znar01 g7)
set_option maxRecDepth 100000 in
set_option maxHeartbeats 4000000 in
theorem wX1_wouldPay_5_b126 {w : zW} (F : Nat) (k78 : zV → zV → Int32 → Int32 → Int32 → Int32 → Int32 → Option (Int32 × zV)) (hk78 : ∀ (V0 V1 V2 V3 V4 V5 V6 V7 : zV) (x1 : Int32) (x2 : Int32) (x3 : Int32) (x4 : Int32) (x5 : Int32) (res : Int32 × zV), k78 V4 V5 x1 x2 x3 x4 x5 = some res → zR w kX1_wouldPay 4 0 0 (some (.int res.1)) (zE zds w [V0, V1, V2, V3, V4, res.2, V6, V7]) 78 [(0, .ref (w.1 + 38)), (1, .int x1), (2, .int x2), (3, .int x3), (4, .int x4), (5, .int x5)] [] (zE zds w [V0, V1, V2, V3, V4, V5, V6, V7])) (V0 V1 V2 V3 V4 V5 V6 V7 : zV) (x1 : Int32) (x2 : Int32) (x3 : Int32) (x4 : Int32) (x5 : Int32) (res : Int32 × zV) (h : fX1_wouldPay_b126 F k78 V4 V5 x1 x2 x3 x4 x5 = some res) : zR w kX1_wouldPay 4 0 0 (some (.int res.1)) (zE zds w [V0, V1, V2, V3, V4, res.2, V6, V7]) 126 [(0, .ref (w.1 + 38)), (1, .int x1), (2, .int x2), (3, .int x3), (4, .int x4), (5, .int x5)] [] (zE zds w [V0, V1, V2, V3, V4, V5, V6, V7]) := by
  unfold fX1_wouldPay_b126 at h
  refine zR_iconst (x := (0 : Int32)) dX1_wouldPay_126 rfl ?_
  exact wX1_wouldPay_5_b127 F k78 hk78 V0 V1 V2 V3 V4 V5 V6 V7 x1 x2 x3 x4 x5 (0 : Int32) _ h
set_option maxRecDepth 100000 in
set_option maxHeartbeats 4000000 in
theorem wX1_wouldPay_5_b122 {w : zW} (F : Nat) (k78 : zV → zV → Int32 → Int32 → Int32 → Int32 → Int32 → Option (Int32 × zV)) (hk78 : ∀ (V0 V1 V2 V3 V4 V5 V6 V7 : zV) (x1 : Int32) (x2 : Int32) (x3 : Int32) (x4 : Int32) (x5 : Int32) (res : Int32 × zV), k78 V4 V5 x1 x2 x3 x4 x5 = some res → zR w kX1_wouldPay 4 0 0 (some (.int res.1)) (zE zds w [V0, V1, V2, V3, V4, res.2, V6, V7]) 78 [(0, .ref (w.1 + 38)), (1, .int x1), (2, .int x2), (3, .int x3), (4, .int x4), (5, .int x5)] [] (zE zds w [V0, V1, V2, V3, V4, V5, V6, V7])) (V0 V1 V2 V3 V4 V5 V6 V7 : zV) (x1 : Int32) (x2 : Int32) (x3 : Int32) (x4 : Int32) (x5 : Int32) (res : Int32 × zV) (h : fX1_wouldPay_b122 F k78 V4 V5 x1 x2 x3 x4 x5 = some res) : zR w kX1_wouldPay 4 0 0 (some (.int res.1)) (zE zds w [V0, V1, V2, V3, V4, res.2, V6, V7]) 122 [(0, .ref (w.1 + 38)), (1, .int x1), (2, .int x2), (3, .int x3), (4, .int x4), (5, .int x5)] [] (zE zds w [V0, V1, V2, V3, V4, V5, V6, V7]) := by
  unfold fX1_wouldPay_b122 at h
  refine zR_iconst (x := (1 : Int32)) dX1_wouldPay_122 rfl ?_
  refine zR_goto (tgt := 127) dX1_wouldPay_123 (by decide) ?_
  exact wX1_wouldPay_5_b127 F k78 hk78 V0 V1 V2 V3 V4 V5 V6 V7 x1 x2 x3 x4 x5 (1 : Int32) _ h
set_option maxRecDepth 100000 in
set_option maxHeartbeats 4000000 in
theorem wX1_wouldPay_5_l78 {w : zW} (F : Nat) (k18 : zV → zV → Int32 → Int32 → Option (Int32 × zV)) (hk18 : ∀ (V0 V1 V2 V3 V4 V5 V6 V7 : zV) (x1 : Int32) (x2 : Int32) (res : Int32 × zV), k18 V4 V5 x1 x2 = some res → zR w kX1_wouldPay 4 0 0 (some (.int res.1)) (zE zds w [V0, V1, V2, V3, V4, res.2, V6, V7]) 18 [(0, .ref (w.1 + 38)), (1, .int x1), (2, .int x2)] [] (zE zds w [V0, V1, V2, V3, V4, V5, V6, V7])) : ∀ (n : Nat) (V0 V1 V2 V3 V4 V5 V6 V7 : zV) (x1 : Int32) (x2 : Int32) (x3 : Int32) (x4 : Int32) (x5 : Int32) (res : Int32 × zV), fX1_wouldPay_l78 F k18 n V4 V5 x1 x2 x3 x4 x5 = some res → zR w kX1_wouldPay 4 0 0 (some (.int res.1)) (zE zds w [V0, V1, V2, V3, V4, res.2, V6, V7]) 78 [(0, .ref (w.1 + 38)), (1, .int x1), (2, .int x2), (3, .int x3), (4, .int x4), (5, .int x5)] [] (zE zds w [V0, V1, V2, V3, V4, V5, V6, V7]) := by
  intro n
  induction n with
  | zero =>
    intro V0 V1 V2 V3 V4 V5 V6 V7 x1 x2 x3 x4 x5 res h
    simp [fX1_wouldPay_l78] at h
  | succ n ih =>
    intro V0 V1 V2 V3 V4 V5 V6 V7 x1 x2 x3 x4 x5 res h
    rw [fX1_wouldPay_l78] at h
    refine zR_iload dX1_wouldPay_78 5 rfl ?_
    refine zR_iload dX1_wouldPay_80 4 rfl ?_
    by_cases c8 : x4 ≤ x5
    · have h := zif_t h c8
      refine zR_icmp_ge_t (tgt := 160) dX1_wouldPay_82 (by decide) c8 ?_
      refine zR_iinc (u := (x2 + 1)) (lv' := [(0, .ref (w.1 + 38)), (1, .int x1), (2, .int (x2 + 1)), (3, .int x3), (4, .int x4), (5, .int x5)]) dX1_wouldPay_160 2 rfl rfl (Nat.le_of_ble_eq_true rfl) rfl ?_
      refine zR_goto (tgt := 18) dX1_wouldPay_163 (by decide) ?_
      refine zR_sub (lv' := [(0, .ref (w.1 + 38)), (1, .int x1), (2, .int (x2 + 1))]) [0, 1, 2] rfl ?_
      exact hk18 V0 V1 V2 V3 V4 V5 V6 V7 x1 (x2 + 1) _ h
    · have h := zif_f h c8
      refine zR_icmp_ge_f (tgt := 160) dX1_wouldPay_82 (by decide) c8 ?_
      refine zR_aload_n dX1_wouldPay_85 0 rfl ?_
      refine zG_getR dX1_wouldPay_86 zf_X1_49 zd_38 rfl rfl ?_
      refine zR_iload dX1_wouldPay_89 5 rfl ?_
      refine zR_iload_n dX1_wouldPay_91 1 rfl ?_
      obtain ⟨q9, hq10, h⟩ := zbd_some h
      refine zR_cV (rest := []) (st1 := [.int q9]) dX1_wouldPay_92 (mX6_isOn F V0 V1 V2 V3 V4 V5 V6 V7 x5 x1 _ hq10) zc_X1_164 rfl (zE_at zd_28) ⟨_, _, rfl⟩ rfl (Nat.le_of_ble_eq_true rfl) (Nat.le_of_ble_eq_true rfl) rfl ?_
      by_cases c11 : q9 = 0
      · have h := zif_t h c11
        refine zR_if_eq_t (tgt := 126) dX1_wouldPay_95 (by decide) c11 ?_
        exact wX1_wouldPay_5_b126 F (fX1_wouldPay_l78 F k18 n) ih V0 V1 V2 V3 V4 V5 V6 V7 x1 x2 x3 x4 x5 _ h
      · have h := zif_f h c11
        refine zR_if_eq_f (tgt := 126) dX1_wouldPay_95 (by decide) c11 ?_
        refine zR_aload_n dX1_wouldPay_98 0 rfl ?_
        refine zG_getR dX1_wouldPay_99 zf_X1_49 zd_38 rfl rfl ?_
        refine zR_iload dX1_wouldPay_102 5 rfl ?_
        obtain ⟨q12, hq13, h⟩ := zbd_some h
        refine zR_cV (rest := []) (st1 := [.int q12]) dX1_wouldPay_104 (mX6_pays F V0 V1 V2 V3 V4 V5 V6 V7 x5 _ hq13) zc_X1_227 rfl (zE_at zd_28) ⟨_, _, rfl⟩ rfl (Nat.le_of_ble_eq_true rfl) (Nat.le_of_ble_eq_true rfl) rfl ?_
        by_cases c14 : q12 = 0
        · have h := zif_t h c14
          refine zR_if_ne_f (tgt := 122) dX1_wouldPay_107 (by decide) c14 ?_
          refine zR_aload_n dX1_wouldPay_110 0 rfl ?_
          refine zG_getR dX1_wouldPay_111 zf_X1_49 zd_38 rfl rfl ?_
          refine zR_iload dX1_wouldPay_114 5 rfl ?_
          obtain ⟨q15, hq16, h⟩ := zbd_some h
          refine zR_cV (rest := []) (st1 := [.int q15]) dX1_wouldPay_116 (mX6_hasHold F V0 V1 V2 V3 V4 V5 V6 V7 x5 _ hq16) zc_X1_230 rfl (zE_at zd_28) ⟨_, _, rfl⟩ rfl (Nat.le_of_ble_eq_true rfl) (Nat.le_of_ble_eq_true rfl) rfl ?_
          by_cases c17 : q15 = 0
          · have h := zif_t h c17
            refine zR_if_eq_t (tgt := 126) dX1_wouldPay_119 (by decide) c17 ?_
            exact wX1_wouldPay_5_b126 F (fX1_wouldPay_l78 F k18 n) ih V0 V1 V2 V3 V4 V5 V6 V7 x1 x2 x3 x4 x5 _ h
          · have h := zif_f h c17
            refine zR_if_eq_f (tgt := 126) dX1_wouldPay_119 (by decide) c17 ?_
            exact wX1_wouldPay_5_b122 F (fX1_wouldPay_l78 F k18 n) ih V0 V1 V2 V3 V4 V5 V6 V7 x1 x2 x3 x4 x5 _ h
        · have h := zif_f h c14
          refine zR_if_ne_t (tgt := 122) dX1_wouldPay_107 (by decide) c14 ?_
          exact wX1_wouldPay_5_b122 F (fX1_wouldPay_l78 F k18 n) ih V0 V1 V2 V3 V4 V5 V6 V7 x1 x2 x3 x4 x5 _ h
set_option maxRecDepth 100000 in
set_option maxHeartbeats 4000000 in
theorem wX1_wouldPay_5_b66 {w : zW} (F : Nat) (k18 : zV → zV → Int32 → Int32 → Option (Int32 × zV)) (hk18 : ∀ (V0 V1 V2 V3 V4 V5 V6 V7 : zV) (x1 : Int32) (x2 : Int32) (res : Int32 × zV), k18 V4 V5 x1 x2 = some res → zR w kX1_wouldPay 4 0 0 (some (.int res.1)) (zE zds w [V0, V1, V2, V3, V4, res.2, V6, V7]) 18 [(0, .ref (w.1 + 38)), (1, .int x1), (2, .int x2)] [] (zE zds w [V0, V1, V2, V3, V4, V5, V6, V7])) (V0 V1 V2 V3 V4 V5 V6 V7 : zV) (x1 : Int32) (x2 : Int32) (x3 : Int32) (s0 : Int32) (res : Int32 × zV) (h : fX1_wouldPay_b66 F k18 V4 V5 x1 x2 x3 s0 = some res) : zR w kX1_wouldPay 4 0 0 (some (.int res.1)) (zE zds w [V0, V1, V2, V3, V4, res.2, V6, V7]) 66 [(0, .ref (w.1 + 38)), (1, .int x1), (2, .int x2), (3, .int x3)] [.int s0] (zE zds w [V0, V1, V2, V3, V4, V5, V6, V7]) := by
  unfold fX1_wouldPay_b66 at h
  refine zR_istore (lv' := [(0, .ref (w.1 + 38)), (1, .int x1), (2, .int x2), (3, .int x3), (4, .int s0)]) dX1_wouldPay_66 (Nat.le_of_ble_eq_true rfl) rfl ?_
  refine zR_aload_n dX1_wouldPay_68 0 rfl ?_
  refine zG_getR dX1_wouldPay_69 zf_X1_49 zd_38 rfl rfl ?_
  refine zR_iload_n dX1_wouldPay_72 3 rfl ?_
  obtain ⟨q18, hq19, h⟩ := zbd_some h
  refine zR_cV (rest := []) (st1 := [.int q18]) dX1_wouldPay_73 (mX6_headOf F V0 V1 V2 V3 V4 V5 V6 V7 x3 _ hq19) zc_X1_159 rfl (zE_at zd_28) ⟨_, _, rfl⟩ rfl (Nat.le_of_ble_eq_true rfl) (Nat.le_of_ble_eq_true rfl) rfl ?_
  refine zR_istore (lv' := [(0, .ref (w.1 + 38)), (1, .int x1), (2, .int x2), (3, .int x3), (4, .int s0), (5, .int q18)]) dX1_wouldPay_76 (Nat.le_of_ble_eq_true rfl) rfl ?_
  exact wX1_wouldPay_5_l78 F k18 hk18 F V0 V1 V2 V3 V4 V5 V6 V7 x1 x2 x3 s0 q18 _ h
set_option maxRecDepth 100000 in
set_option maxHeartbeats 4000000 in
theorem wX1_wouldPay_5_l18 {w : zW} (F : Nat) : ∀ (n : Nat) (V0 V1 V2 V3 V4 V5 V6 V7 : zV) (x1 : Int32) (x2 : Int32) (res : Int32 × zV), fX1_wouldPay_l18 F n V4 V5 x1 x2 = some res → zR w kX1_wouldPay 4 0 0 (some (.int res.1)) (zE zds w [V0, V1, V2, V3, V4, res.2, V6, V7]) 18 [(0, .ref (w.1 + 38)), (1, .int x1), (2, .int x2)] [] (zE zds w [V0, V1, V2, V3, V4, V5, V6, V7]) := by
  intro n
  induction n with
  | zero =>
    intro V0 V1 V2 V3 V4 V5 V6 V7 x1 x2 res h
    simp [fX1_wouldPay_l18] at h
  | succ n ih =>
    intro V0 V1 V2 V3 V4 V5 V6 V7 x1 x2 res h
    rw [fX1_wouldPay_l18] at h
    refine zR_iload_n dX1_wouldPay_18 2 rfl ?_
    refine zR_aload_n dX1_wouldPay_19 0 rfl ?_
    refine zG_getR dX1_wouldPay_20 zf_X1_39 zd_38 rfl rfl ?_
    refine zG_getR dX1_wouldPay_23 zf_X1_125 zd_15 rfl rfl ?_
    refine zR_bipush (x := (7 : Int32)) dX1_wouldPay_26 rfl ?_
    refine zG_iald dX1_wouldPay_28 zd_16 rfl rfl (show zix (7 : Int32) 27 from by decide) ?_
    by_cases c20 : (zA V4 1 ((7 : Int32)).toNatClampNeg) ≤ x2
    · have h := zif_t h c20
      refine zR_icmp_ge_t (tgt := 166) dX1_wouldPay_29 (by decide) c20 ?_
      refine zR_iconst (x := (0 : Int32)) dX1_wouldPay_166 rfl ?_
      have h := Option.some.inj h
      subst h
      exact zR_iret (x := (0 : Int32)) dX1_wouldPay_167 rfl znar0
    · have h := zif_f h c20
      refine zR_icmp_ge_f (tgt := 166) dX1_wouldPay_29 (by decide) c20 ?_
      refine zR_aload_n dX1_wouldPay_32 0 rfl ?_
      refine zG_getR dX1_wouldPay_33 zf_X1_39 zd_38 rfl rfl ?_
      refine zR_iload_n dX1_wouldPay_36 2 rfl ?_
      obtain ⟨q21, hq22, h⟩ := zbd_some h
      refine zR_cV (rest := []) (st1 := [.int q21]) dX1_wouldPay_37 (mX9_inOrder F V0 V1 V2 V3 V4 V5 V6 V7 x2 _ hq22) zc_X1_128 rfl (zE_at zd_15) ⟨_, _, rfl⟩ rfl (Nat.le_of_ble_eq_true rfl) (Nat.le_of_ble_eq_true rfl) rfl ?_
      refine zR_istore_n (lv' := [(0, .ref (w.1 + 38)), (1, .int x1), (2, .int x2), (3, .int q21)]) dX1_wouldPay_40 (Nat.le_of_ble_eq_true rfl) rfl ?_
      refine zR_aload_n dX1_wouldPay_41 0 rfl ?_
      refine zG_getR dX1_wouldPay_42 zf_X1_87 zd_38 rfl rfl ?_
      refine zR_iload_n dX1_wouldPay_45 3 rfl ?_
      obtain ⟨q23, hq24, h⟩ := zbd_some h
      refine zR_cV (rest := []) (st1 := [.int q23]) dX1_wouldPay_46 (mX4_isOn_5 F V0 V1 V2 V3 V4 V5 V6 V7 q21 _ hq24) zc_X1_225 rfl (zE_at zd_56) ⟨_, _, rfl⟩ rfl (Nat.le_of_ble_eq_true rfl) (Nat.le_of_ble_eq_true rfl) rfl ?_
      by_cases c25 : q23 = 0
      · have h := zif_t h c25
        refine zR_if_eq_t (tgt := 65) dX1_wouldPay_49 (by decide) c25 ?_
        refine zR_iconst (x := (0 : Int32)) dX1_wouldPay_65 rfl ?_
        exact wX1_wouldPay_5_b66 F (fX1_wouldPay_l18 F n) ih V0 V1 V2 V3 V4 V5 V6 V7 x1 x2 q21 (0 : Int32) _ h
      · have h := zif_f h c25
        refine zR_if_eq_f (tgt := 65) dX1_wouldPay_49 (by decide) c25 ?_
        refine zR_aload_n dX1_wouldPay_52 0 rfl ?_
        refine zG_getR dX1_wouldPay_53 zf_X1_49 zd_38 rfl rfl ?_
        refine zR_iload_n dX1_wouldPay_56 3 rfl ?_
        refine zR_iconst (x := (1 : Int32)) dX1_wouldPay_57 rfl ?_
        refine zR_iadd dX1_wouldPay_58 ?_
        obtain ⟨q26, hq27, h⟩ := zbd_some h
        refine zR_cV (rest := []) (st1 := [.int q26]) dX1_wouldPay_59 (mX6_headOf F V0 V1 V2 V3 V4 V5 V6 V7 (q21 + (1 : Int32)) _ hq27) zc_X1_159 rfl (zE_at zd_28) ⟨_, _, rfl⟩ rfl (Nat.le_of_ble_eq_true rfl) (Nat.le_of_ble_eq_true rfl) rfl ?_
        refine zR_goto (tgt := 66) dX1_wouldPay_62 (by decide) ?_
        exact wX1_wouldPay_5_b66 F (fX1_wouldPay_l18 F n) ih V0 V1 V2 V3 V4 V5 V6 V7 x1 x2 q21 q26 _ h
set_option maxRecDepth 100000 in
set_option maxHeartbeats 4000000 in
theorem mX1_wouldPay_5 {w : zW} (F : Nat) (V0 V1 V2 V3 V4 V5 V6 V7 : zV) (x1 : Int32) (res : Int32 × zV) (h : fX1_wouldPay F V4 V5 x1 = some res) : zMet w kX1_wouldPay 4 0 0 [.ref (w.1 + 38), .int x1] (zE zds w [V0, V1, V2, V3, V4, V5, V6, V7]) (some (.int res.1)) (zE zds w [V0, V1, V2, V3, V4, res.2, V6, V7]) := by
  refine zMet_of (by decide) (Nat.le_of_ble_eq_true rfl) (Nat.le_refl 0) fun _ => ?_
  show zR w kX1_wouldPay 4 0 0 (some (.int res.1)) (zE zds w [V0, V1, V2, V3, V4, res.2, V6, V7]) 0 [(0, .ref (w.1 + 38)), (1, .int x1)] [] (zE zds w [V0, V1, V2, V3, V4, V5, V6, V7])
  unfold fX1_wouldPay at h
  refine zR_aload_n dX1_wouldPay_0 0 rfl ?_
  refine zG_getI dX1_wouldPay_1 zf_X1_19 zd_38 rfl rfl ?_
  by_cases c28 : (zI V5 0 9) = 0
  · have h := zif_t h c28
    refine zR_if_eq_t (tgt := 14) dX1_wouldPay_4 (by decide) c28 ?_
    refine zR_iconst (x := (0 : Int32)) dX1_wouldPay_14 rfl ?_
    have h := Option.some.inj h
    subst h
    exact zR_iret (x := (0 : Int32)) dX1_wouldPay_15 rfl znar0
  · have h := zif_f h c28
    refine zR_if_eq_f (tgt := 14) dX1_wouldPay_4 (by decide) c28 ?_
    refine zR_aload_n dX1_wouldPay_7 0 rfl ?_
    refine zG_getI dX1_wouldPay_8 zf_X1_30 zd_38 rfl rfl ?_
    by_cases c29 : (zI V5 0 12) = 0
    · have h := zif_t h c29
      refine zR_if_eq_t (tgt := 16) dX1_wouldPay_11 (by decide) c29 ?_
      refine zR_iconst (x := (0 : Int32)) dX1_wouldPay_16 rfl ?_
      refine zR_istore_n (lv' := [(0, .ref (w.1 + 38)), (1, .int x1), (2, .int (0 : Int32))]) dX1_wouldPay_17 (Nat.le_of_ble_eq_true rfl) rfl ?_
      exact wX1_wouldPay_5_l18 F F V0 V1 V2 V3 V4 V5 V6 V7 x1 (0 : Int32) _ h
    · have h := zif_f h c29
      refine zR_if_eq_f (tgt := 16) dX1_wouldPay_11 (by decide) c29 ?_
      refine zR_iconst (x := (0 : Int32)) dX1_wouldPay_14 rfl ?_
      have h := Option.some.inj h
      subst h
      exact zR_iret (x := (0 : Int32)) dX1_wouldPay_15 rfl znar0
set_option maxRecDepth 100000 in
set_option maxHeartbeats 4000000 in
theorem mX11_lamp {w : zW} (F : Nat) (V0 V1 V2 V3 V4 V5 V6 V7 : zV) (x1 : Int32) (res : Int32 × zV) (h : fX11_lamp F V0 V4 V5 x1 = some res) : zMet w kX11_lamp 5 0 0 [.ref (w.1 + 0), .int x1] (zE zds w [V0, V1, V2, V3, V4, V5, V6, V7]) (some (.int res.1)) (zE zds w [V0, V1, V2, V3, V4, res.2, V6, V7]) := by
  refine zMet_of (by decide) (Nat.le_of_ble_eq_true rfl) (Nat.le_refl 0) fun _ => ?_
  show zR w kX11_lamp 5 0 0 (some (.int res.1)) (zE zds w [V0, V1, V2, V3, V4, res.2, V6, V7]) 0 [(0, .ref (w.1 + 0)), (1, .int x1)] [] (zE zds w [V0, V1, V2, V3, V4, V5, V6, V7])
  unfold fX11_lamp at h
  refine zR_aload_n dX11_lamp_0 0 rfl ?_
  refine zG_getI dX11_lamp_1 zf_X11_63 zd_0 rfl rfl ?_
  by_cases c1 : (zI V0 0 9) = 0
  · have h := zif_t h c1
    refine zR_if_eq_t (tgt := 19) dX11_lamp_4 (by decide) c1 ?_
    refine zR_iconst (x := (-1 : Int32)) dX11_lamp_19 (by decide) ?_
    have h := Option.some.inj h
    subst h
    exact zR_iret (x := (-1 : Int32)) dX11_lamp_20 rfl rfl
  · have h := zif_f h c1
    refine zR_if_eq_f (tgt := 19) dX11_lamp_4 (by decide) c1 ?_
    refine zR_aload_n dX11_lamp_7 0 rfl ?_
    refine zG_getR dX11_lamp_8 zf_X11_46 zd_0 rfl rfl ?_
    refine zR_iconst (x := (3 : Int32)) dX11_lamp_11 rfl ?_
    refine zR_iload_n dX11_lamp_12 1 rfl ?_
    obtain ⟨q2, hq3, h⟩ := zbd_some h
    refine zR_cV (rest := []) (st1 := [.int q2]) dX11_lamp_13 (mX9_has F V0 V1 V2 V3 V4 V5 V6 V7 (3 : Int32) x1 _ hq3) zc_X11_101 rfl (zE_at zd_15) ⟨_, _, rfl⟩ rfl (Nat.le_of_ble_eq_true rfl) (Nat.le_of_ble_eq_true rfl) rfl ?_
    by_cases c4 : q2 = 0
    · have h := zif_t h c4
      refine zR_if_ne_f (tgt := 21) dX11_lamp_16 (by decide) c4 ?_
      refine zR_iconst (x := (-1 : Int32)) dX11_lamp_19 (by decide) ?_
      have h := Option.some.inj h
      subst h
      exact zR_iret (x := (-1 : Int32)) dX11_lamp_20 rfl rfl
    · have h := zif_f h c4
      refine zR_if_ne_t (tgt := 21) dX11_lamp_16 (by decide) c4 ?_
      refine zR_aload_n dX11_lamp_21 0 rfl ?_
      refine zG_getR dX11_lamp_22 zf_X11_59 zd_0 rfl rfl ?_
      refine zR_aload_n dX11_lamp_25 0 rfl ?_
      refine zG_getR dX11_lamp_26 zf_X11_46 zd_0 rfl rfl ?_
      refine zG_getR dX11_lamp_29 zf_X11_159 zd_15 rfl rfl ?_
      refine zR_iload_n dX11_lamp_32 1 rfl ?_
      obtain ⟨g5, h⟩ := zchk_some h
      refine zG_iald dX11_lamp_33 zd_20 rfl rfl g5 ?_
      obtain ⟨q6, hq7, h⟩ := zbd_some h
      refine zR_cV (rest := []) (st1 := [.int q6.1]) dX11_lamp_34 (mX1_wouldPay_5 F V0 V1 V2 V3 V4 V5 V6 V7 (zA V4 5 (x1).toNatClampNeg) _ hq7) zc_X11_162 rfl (zE_at zd_38) ⟨_, _, rfl⟩ rfl (Nat.le_of_ble_eq_true rfl) (Nat.le_of_ble_eq_true rfl) rfl ?_
      by_cases c8 : q6.1 = 0
      · have h := zif_t h c8
        refine zR_if_eq_t (tgt := 44) dX11_lamp_37 (by decide) c8 ?_
        refine zR_iconst (x := (0 : Int32)) dX11_lamp_44 rfl ?_
        have h := Option.some.inj h
        subst h
        exact zR_iret (x := (0 : Int32)) dX11_lamp_45 rfl rfl
      · have h := zif_f h c8
        refine zR_if_eq_f (tgt := 44) dX11_lamp_37 (by decide) c8 ?_
        refine zR_iconst (x := (1 : Int32)) dX11_lamp_40 rfl ?_
        refine zR_goto (tgt := 45) dX11_lamp_41 (by decide) ?_
        have h := Option.some.inj h
        subst h
        exact zR_iret (x := (1 : Int32)) dX11_lamp_45 rfl rfl
set_option maxRecDepth 100000 in
set_option maxHeartbeats 4000000 in
theorem mX11_value {w : zW} (F : Nat) (V0 V1 V2 V3 V4 V5 V6 V7 : zV) (x1 : Int32) (res : Int32) (h : fX11_value F V0 V4 V5 x1 = some res) : zMet w kX11_value 1 0 0 [.ref (w.1 + 0), .int x1] (zE zds w [V0, V1, V2, V3, V4, V5, V6, V7]) (some (.int res)) (zE zds w [V0, V1, V2, V3, V4, V5, V6, V7]) := by
  refine zMet_of (by decide) (Nat.le_of_ble_eq_true rfl) (Nat.le_refl 0) fun _ => ?_
  show zR w kX11_value 1 0 0 (some (.int res)) (zE zds w [V0, V1, V2, V3, V4, V5, V6, V7]) 0 [(0, .ref (w.1 + 0)), (1, .int x1)] [] (zE zds w [V0, V1, V2, V3, V4, V5, V6, V7])
  unfold fX11_value at h
  refine zR_aload_n dX11_value_0 0 rfl ?_
  refine zG_getI dX11_value_1 zf_X11_63 zd_0 rfl rfl ?_
  by_cases c1 : (zI V0 0 9) = 0
  · have h := zif_t h c1
    refine zR_if_eq_t (tgt := 32) dX11_value_4 (by decide) c1 ?_
    refine zR_iconst (x := (0 : Int32)) dX11_value_32 rfl ?_
    have h := Option.some.inj h
    subst h
    exact zR_iret (x := (0 : Int32)) dX11_value_33 rfl rfl
  · have h := zif_f h c1
    refine zR_if_eq_f (tgt := 32) dX11_value_4 (by decide) c1 ?_
    refine zR_aload_n dX11_value_7 0 rfl ?_
    refine zG_getR dX11_value_8 zf_X11_46 zd_0 rfl rfl ?_
    refine zR_bipush (x := (6 : Int32)) dX11_value_11 rfl ?_
    refine zR_iload_n dX11_value_13 1 rfl ?_
    obtain ⟨q2, hq3, h⟩ := zbd_some h
    refine zR_cV (rest := []) (st1 := [.int q2]) dX11_value_14 (mX9_has F V0 V1 V2 V3 V4 V5 V6 V7 (6 : Int32) x1 _ hq3) zc_X11_101 rfl (zE_at zd_15) ⟨_, _, rfl⟩ rfl (Nat.le_of_ble_eq_true rfl) (Nat.le_of_ble_eq_true rfl) rfl ?_
    by_cases c4 : q2 = 0
    · have h := zif_t h c4
      refine zR_if_eq_t (tgt := 32) dX11_value_17 (by decide) c4 ?_
      refine zR_iconst (x := (0 : Int32)) dX11_value_32 rfl ?_
      have h := Option.some.inj h
      subst h
      exact zR_iret (x := (0 : Int32)) dX11_value_33 rfl rfl
    · have h := zif_f h c4
      refine zR_if_eq_f (tgt := 32) dX11_value_17 (by decide) c4 ?_
      refine zR_aload_n dX11_value_20 0 rfl ?_
      refine zG_getR dX11_value_21 zf_X11_59 zd_0 rfl rfl ?_
      refine zG_getR dX11_value_24 zf_X11_165 zd_38 rfl rfl ?_
      refine zR_iload_n dX11_value_27 1 rfl ?_
      obtain ⟨g5, h⟩ := zchk_some h
      refine zG_iald dX11_value_28 zd_39 rfl rfl g5 ?_
      refine zR_goto (tgt := 33) dX11_value_29 (by decide) ?_
      have h := Option.some.inj h
      subst h
      exact zR_iret (x := (zA V5 1 (x1).toNatClampNeg)) dX11_value_33 rfl rfl
set_option maxRecDepth 100000 in
set_option maxHeartbeats 4000000 in
theorem mX11_mode {w : zW} (F : Nat) (V0 V1 V2 V3 V4 V5 V6 V7 : zV) (x1 : Int32) (x2 : Int32) (res : Int32) (h : fX11_mode F V0 V4 V5 x1 x2 = some res) : zMet w kX11_mode 1 0 0 [.ref (w.1 + 0), .int x1, .int x2] (zE zds w [V0, V1, V2, V3, V4, V5, V6, V7]) (some (.int res)) (zE zds w [V0, V1, V2, V3, V4, V5, V6, V7]) := by
  refine zMet_of (by decide) (Nat.le_of_ble_eq_true rfl) (Nat.le_refl 0) fun _ => ?_
  show zR w kX11_mode 1 0 0 (some (.int res)) (zE zds w [V0, V1, V2, V3, V4, V5, V6, V7]) 0 [(0, .ref (w.1 + 0)), (1, .int x1), (2, .int x2)] [] (zE zds w [V0, V1, V2, V3, V4, V5, V6, V7])
  unfold fX11_mode at h
  refine zR_aload_n dX11_mode_0 0 rfl ?_
  refine zG_getR dX11_mode_1 zf_X11_46 zd_0 rfl rfl ?_
  refine zR_bipush (x := (7 : Int32)) dX11_mode_4 rfl ?_
  refine zR_iload_n dX11_mode_6 1 rfl ?_
  obtain ⟨q1, hq2, h⟩ := zbd_some h
  refine zR_cV (rest := []) (st1 := [.int q1]) dX11_mode_7 (mX9_has F V0 V1 V2 V3 V4 V5 V6 V7 (7 : Int32) x1 _ hq2) zc_X11_101 rfl (zE_at zd_15) ⟨_, _, rfl⟩ rfl (Nat.le_of_ble_eq_true rfl) (Nat.le_of_ble_eq_true rfl) rfl ?_
  by_cases c3 : q1 = 0
  · have h := zif_t h c3
    refine zR_if_ne_f (tgt := 15) dX11_mode_10 (by decide) c3 ?_
    refine zR_iconst (x := (-1 : Int32)) dX11_mode_13 (by decide) ?_
    have h := Option.some.inj h
    subst h
    exact zR_iret (x := (-1 : Int32)) dX11_mode_14 rfl rfl
  · have h := zif_f h c3
    refine zR_if_ne_t (tgt := 15) dX11_mode_10 (by decide) c3 ?_
    refine zR_iload_n dX11_mode_15 2 rfl ?_
    refine zR_iconst (x := (3 : Int32)) dX11_mode_16 rfl ?_
    by_cases c4 : x2 = (3 : Int32)
    · have h := zif_t h c4
      refine zR_icmp_ne_f (tgt := 30) dX11_mode_17 (by decide) c4 ?_
      refine zR_aload_n dX11_mode_20 0 rfl ?_
      refine zG_getR dX11_mode_21 zf_X11_46 zd_0 rfl rfl ?_
      refine zG_getR dX11_mode_24 zf_X11_168 zd_15 rfl rfl ?_
      refine zR_iload_n dX11_mode_27 1 rfl ?_
      obtain ⟨g13, h⟩ := zchk_some h
      refine zG_iald dX11_mode_28 zd_25 rfl rfl g13 ?_
      have h := Option.some.inj h
      subst h
      exact zR_iret (x := (zA V4 10 (x1).toNatClampNeg)) dX11_mode_29 rfl rfl
    · have h := zif_f h c4
      refine zR_icmp_ne_t (tgt := 30) dX11_mode_17 (by decide) c4 ?_
      refine zR_aload_n dX11_mode_30 0 rfl ?_
      refine zG_getI dX11_mode_31 zf_X11_63 zd_0 rfl rfl ?_
      by_cases c5 : (zI V0 0 9) = 0
      · have h := zif_t h c5
        refine zR_if_ne_f (tgt := 39) dX11_mode_34 (by decide) c5 ?_
        refine zR_iconst (x := (-1 : Int32)) dX11_mode_37 (by decide) ?_
        have h := Option.some.inj h
        subst h
        exact zR_iret (x := (-1 : Int32)) dX11_mode_38 rfl rfl
      · have h := zif_f h c5
        refine zR_if_ne_t (tgt := 39) dX11_mode_34 (by decide) c5 ?_
        refine zR_iload_n dX11_mode_39 2 rfl ?_
        by_cases c6 : x2 = (0 : Int32)
        · have h := zif_t h c6
          refine zR_tabc (tgt := 68) dX11_mode_40 c6 rfl (by decide) ?_
          refine zR_aload_n dX11_mode_68 0 rfl ?_
          refine zG_getR dX11_mode_69 zf_X11_59 zd_0 rfl rfl ?_
          refine zG_getR dX11_mode_72 zf_X11_171 zd_38 rfl rfl ?_
          refine zG_getR dX11_mode_75 zf_X11_175 zd_56 rfl rfl ?_
          refine zR_iload_n dX11_mode_78 1 rfl ?_
          obtain ⟨g7, h⟩ := zchk_some h
          refine zG_zald dX11_mode_79 zd_57 rfl rfl g7 ?_
          by_cases c8 : (zA V5 19 (x1).toNatClampNeg) = 0
          · have h := zif_t h c8
            refine zR_if_eq_t (tgt := 87) dX11_mode_80 (by decide) c8 ?_
            refine zR_iconst (x := (0 : Int32)) dX11_mode_87 rfl ?_
            have h := Option.some.inj h
            subst h
            exact zR_iret (x := (0 : Int32)) dX11_mode_88 rfl rfl
          · have h := zif_f h c8
            refine zR_if_eq_f (tgt := 87) dX11_mode_80 (by decide) c8 ?_
            refine zR_iconst (x := (1 : Int32)) dX11_mode_83 rfl ?_
            refine zR_goto (tgt := 88) dX11_mode_84 (by decide) ?_
            have h := Option.some.inj h
            subst h
            exact zR_iret (x := (1 : Int32)) dX11_mode_88 rfl rfl
        · have h := zif_f h c6
          by_cases c9 : x2 = (1 : Int32)
          · have h := zif_t h c9
            refine zR_tabc (tgt := 89) dX11_mode_40 c9 rfl (by decide) ?_
            refine zR_aload_n dX11_mode_89 0 rfl ?_
            refine zG_getR dX11_mode_90 zf_X11_59 zd_0 rfl rfl ?_
            refine zG_getR dX11_mode_93 zf_X11_171 zd_38 rfl rfl ?_
            refine zG_getR dX11_mode_96 zf_X11_181 zd_56 rfl rfl ?_
            refine zR_iload_n dX11_mode_99 1 rfl ?_
            obtain ⟨g10, h⟩ := zchk_some h
            refine zG_iald dX11_mode_100 zd_58 rfl rfl g10 ?_
            have h := Option.some.inj h
            subst h
            exact zR_iret (x := (zA V5 20 (x1).toNatClampNeg)) dX11_mode_101 rfl rfl
          · have h := zif_f h c9
            by_cases c11 : x2 = (2 : Int32)
            · have h := zif_t h c11
              refine zR_tabc (tgt := 102) dX11_mode_40 c11 rfl (by decide) ?_
              refine zR_aload_n dX11_mode_102 0 rfl ?_
              refine zG_getR dX11_mode_103 zf_X11_59 zd_0 rfl rfl ?_
              refine zG_getR dX11_mode_106 zf_X11_171 zd_38 rfl rfl ?_
              refine zG_getR dX11_mode_109 zf_X11_184 zd_56 rfl rfl ?_
              refine zR_iload_n dX11_mode_112 1 rfl ?_
              obtain ⟨g12, h⟩ := zchk_some h
              refine zG_iald dX11_mode_113 zd_59 rfl rfl g12 ?_
              have h := Option.some.inj h
              subst h
              exact zR_iret (x := (zA V5 21 (x1).toNatClampNeg)) dX11_mode_114 rfl rfl
            · have h := zif_f h c11
              refine zR_tabO (tgt := 115) dX11_mode_40 (by have u0 := zne c6 (n := 0) rfl; have u1 := zne c9 (n := 1) rfl; have u2 := zne c11 (n := 2) rfl; omega) (by decide) ?_
              refine zR_iconst (x := (-1 : Int32)) dX11_mode_115 (by decide) ?_
              have h := Option.some.inj h
              subst h
              exact zR_iret (x := (-1 : Int32)) dX11_mode_116 rfl rfl
set_option maxRecDepth 100000 in
set_option maxHeartbeats 4000000 in
theorem wX3_ballsAt_b47 {w : zW} (F : Nat) (S : zS) (s0 : Int32) (s1 : Int32) (res : Int32) (h : fX3_ballsAt_b47 F s0 s1 = some res) : zR w kX3_ballsAt 0 0 0 (some (.int res)) S 47 [] [.int s1, .int s0] S := by
  unfold fX3_ballsAt_b47 at h
  refine zR_iadd dX3_ballsAt_47 ?_
  have h := Option.some.inj h
  subst h
  exact zR_iret (x := (s0 + s1)) dX3_ballsAt_48 rfl rfl
set_option maxRecDepth 100000 in
set_option maxHeartbeats 4000000 in
theorem wX3_ballsAt_b33 {w : zW} (F : Nat) (S : zS) (x0 : Int32) (x2 : Int32) (s0 : Int32) (s1 : Int32) (res : Int32) (h : fX3_ballsAt_b33 F x0 x2 s0 s1 = some res) : zR w kX3_ballsAt 0 0 0 (some (.int res)) S 33 [(0, .int x0), (2, .int x2)] [.int s1, .int s0] S := by
  unfold fX3_ballsAt_b33 at h
  refine zR_iadd dX3_ballsAt_33 ?_
  refine zR_iload_n dX3_ballsAt_34 0 rfl ?_
  refine zR_bipush (x := (9 : Int32)) dX3_ballsAt_35 rfl ?_
  refine zR_irem dX3_ballsAt_37 (by decide) ?_
  refine zR_iload_n dX3_ballsAt_38 1 rfl ?_
  by_cases c1 : (x0 - x0 / (9 : Int32) * (9 : Int32)) = x2
  · have h := zif_t h c1
    refine zR_icmp_ne_f (tgt := 46) dX3_ballsAt_39 (by decide) c1 ?_
    refine zR_iconst (x := (1 : Int32)) dX3_ballsAt_42 rfl ?_
    refine zR_goto (tgt := 47) dX3_ballsAt_43 (by decide) ?_
    refine zR_sub (lv' := []) [] rfl ?_
    exact wX3_ballsAt_b47 F S (s0 + s1) (1 : Int32) _ h
  · have h := zif_f h c1
    refine zR_icmp_ne_t (tgt := 46) dX3_ballsAt_39 (by decide) c1 ?_
    refine zR_iconst (x := (0 : Int32)) dX3_ballsAt_46 rfl ?_
    refine zR_sub (lv' := []) [] rfl ?_
    exact wX3_ballsAt_b47 F S (s0 + s1) (0 : Int32) _ h
set_option maxRecDepth 100000 in
set_option maxHeartbeats 4000000 in
theorem wX3_ballsAt_b17 {w : zW} (F : Nat) (S : zS) (x0 : Int32) (x2 : Int32) (s0 : Int32) (res : Int32) (h : fX3_ballsAt_b17 F x0 x2 s0 = some res) : zR w kX3_ballsAt 0 0 0 (some (.int res)) S 17 [(0, .int x0), (2, .int x2)] [.int s0] S := by
  unfold fX3_ballsAt_b17 at h
  refine zR_iload_n dX3_ballsAt_17 0 rfl ?_
  refine zR_bipush (x := (9 : Int32)) dX3_ballsAt_18 rfl ?_
  refine zR_idiv dX3_ballsAt_20 (by decide) ?_
  refine zR_bipush (x := (9 : Int32)) dX3_ballsAt_21 rfl ?_
  refine zR_irem dX3_ballsAt_23 (by decide) ?_
  refine zR_iload_n dX3_ballsAt_24 1 rfl ?_
  by_cases c2 : ((x0 / (9 : Int32)) - (x0 / (9 : Int32)) / (9 : Int32) * (9 : Int32)) = x2
  · have h := zif_t h c2
    refine zR_icmp_ne_f (tgt := 32) dX3_ballsAt_25 (by decide) c2 ?_
    refine zR_iconst (x := (1 : Int32)) dX3_ballsAt_28 rfl ?_
    refine zR_goto (tgt := 33) dX3_ballsAt_29 (by decide) ?_
    exact wX3_ballsAt_b33 F S x0 x2 s0 (1 : Int32) _ h
  · have h := zif_f h c2
    refine zR_icmp_ne_t (tgt := 32) dX3_ballsAt_25 (by decide) c2 ?_
    refine zR_iconst (x := (0 : Int32)) dX3_ballsAt_32 rfl ?_
    exact wX3_ballsAt_b33 F S x0 x2 s0 (0 : Int32) _ h
set_option maxRecDepth 100000 in
set_option maxHeartbeats 4000000 in
theorem mX3_ballsAt {w : zW} (F : Nat) (S : zS) (x0 : Int32) (x1 : Int32) (res : Int32) (h : fX3_ballsAt F x0 x1 = some res) : zMet w kX3_ballsAt 0 0 0 [.int x0, .int x1] S (some (.int res)) S := by
  refine zMet_of (by decide) (Nat.le_of_ble_eq_true rfl) (Nat.le_refl 0) fun _ => ?_
  show zR w kX3_ballsAt 0 0 0 (some (.int res)) S 0 [(0, .int x0), (1, .int x1)] [] S
  unfold fX3_ballsAt at h
  refine zR_iload_n dX3_ballsAt_0 1 rfl ?_
  refine zR_iconst (x := (1 : Int32)) dX3_ballsAt_1 rfl ?_
  refine zR_iadd dX3_ballsAt_2 ?_
  refine zR_istore_n (lv' := [(0, .int x0), (1, .int x1), (2, .int (x1 + (1 : Int32)))]) dX3_ballsAt_3 (Nat.le_of_ble_eq_true rfl) rfl ?_
  refine zR_iload_n dX3_ballsAt_4 0 rfl ?_
  refine zR_bipush (x := (81 : Int32)) dX3_ballsAt_5 rfl ?_
  refine zR_idiv dX3_ballsAt_7 (by decide) ?_
  refine zR_iload_n dX3_ballsAt_8 2 rfl ?_
  by_cases c3 : (x0 / (81 : Int32)) = (x1 + (1 : Int32))
  · have h := zif_t h c3
    refine zR_icmp_ne_f (tgt := 16) dX3_ballsAt_9 (by decide) c3 ?_
    refine zR_iconst (x := (1 : Int32)) dX3_ballsAt_12 rfl ?_
    refine zR_goto (tgt := 17) dX3_ballsAt_13 (by decide) ?_
    refine zR_sub (lv' := [(0, .int x0), (2, .int (x1 + (1 : Int32)))]) [0, 2] rfl ?_
    exact wX3_ballsAt_b17 F S x0 (x1 + (1 : Int32)) (1 : Int32) _ h
  · have h := zif_f h c3
    refine zR_icmp_ne_t (tgt := 16) dX3_ballsAt_9 (by decide) c3 ?_
    refine zR_iconst (x := (0 : Int32)) dX3_ballsAt_16 rfl ?_
    refine zR_sub (lv' := [(0, .int x0), (2, .int (x1 + (1 : Int32)))]) [0, 2] rfl ?_
    exact wX3_ballsAt_b17 F S x0 (x1 + (1 : Int32)) (0 : Int32) _ h
set_option maxRecDepth 100000 in
set_option maxHeartbeats 4000000 in
theorem wX3_mostAt_5_b42 {w : zW} (F : Nat) (V0 V1 V2 V3 V4 V5 V6 V7 : zV) (x2 : Int32) (res : Int32) (h : fX3_mostAt_b42 F V5 x2 = some res) : zR w kX3_mostAt 1 0 0 (some (.int res)) (zE zds w [V0, V1, V2, V3, V4, V5, V6, V7]) 42 [(2, .int x2)] [] (zE zds w [V0, V1, V2, V3, V4, V5, V6, V7]) := by
  unfold fX3_mostAt_b42 at h
  refine zR_iload_n dX3_mostAt_42 0 rfl ?_
  have h := Option.some.inj h
  subst h
  exact zR_iret (x := x2) dX3_mostAt_43 rfl rfl
set_option maxRecDepth 100000 in
set_option maxHeartbeats 4000000 in
theorem wX3_mostAt_5_l4 {w : zW} (F : Nat) : ∀ (n : Nat) (V0 V1 V2 V3 V4 V5 V6 V7 : zV) (x1 : Int32) (x2 : Int32) (x3 : Int32) (res : Int32), fX3_mostAt_l4 F n V5 x1 x2 x3 = some res → zR w kX3_mostAt 1 0 0 (some (.int res)) (zE zds w [V0, V1, V2, V3, V4, V5, V6, V7]) 4 [(0, .ref (w.1 + 52)), (1, .int x1), (2, .int x2), (3, .int x3)] [] (zE zds w [V0, V1, V2, V3, V4, V5, V6, V7]) := by
  intro n
  induction n with
  | zero =>
    intro V0 V1 V2 V3 V4 V5 V6 V7 x1 x2 x3 res h
    simp [fX3_mostAt_l4] at h
  | succ n ih =>
    intro V0 V1 V2 V3 V4 V5 V6 V7 x1 x2 x3 res h
    rw [fX3_mostAt_l4] at h
    refine zR_iload_n dX3_mostAt_4 3 rfl ?_
    refine zR_aload_n dX3_mostAt_5 0 rfl ?_
    refine zG_getI dX3_mostAt_6 zf_X3_15 zd_52 rfl rfl ?_
    by_cases c1 : (zI V5 14 5) ≤ x3
    · have h := zif_t h c1
      refine zR_icmp_ge_t (tgt := 42) dX3_mostAt_9 (by decide) c1 ?_
      refine zR_sub (lv' := [(2, .int x2)]) [2] rfl ?_
      exact wX3_mostAt_5_b42 F V0 V1 V2 V3 V4 V5 V6 V7 x2 _ h
    · have h := zif_f h c1
      refine zR_icmp_ge_f (tgt := 42) dX3_mostAt_9 (by decide) c1 ?_
      refine zR_iload_n dX3_mostAt_12 3 rfl ?_
      refine zR_aload_n dX3_mostAt_13 0 rfl ?_
      refine zG_getP dX3_mostAt_14 zf_X3_31 zd_52 rfl rfl ?_
      obtain ⟨g2, h⟩ := zchk_some h
      have i3 : zds[38 + (zP V5 14 1)]? = some (.inr (0, 5, (zP V5 14 1), 1, 0)) := by rcases g2 with u | u <;> (rw [u]; rfl)
      refine zG_alen (u := (nI (zN V5 (zP V5 14 1)))) dX3_mostAt_17 i3 (Nat.le_of_ble_eq_true rfl) rfl rfl rfl ?_
      by_cases c4 : (nI (zN V5 (zP V5 14 1))) ≤ x3
      · have h := zif_t h c4
        refine zR_icmp_ge_t (tgt := 42) dX3_mostAt_18 (by decide) c4 ?_
        refine zR_sub (lv' := [(2, .int x2)]) [2] rfl ?_
        exact wX3_mostAt_5_b42 F V0 V1 V2 V3 V4 V5 V6 V7 x2 _ h
      · have h := zif_f h c4
        refine zR_icmp_ge_f (tgt := 42) dX3_mostAt_18 (by decide) c4 ?_
        refine zR_iload_n dX3_mostAt_21 2 rfl ?_
        refine zR_aload_n dX3_mostAt_22 0 rfl ?_
        refine zG_getP dX3_mostAt_23 zf_X3_31 zd_52 rfl rfl ?_
        refine zR_iload_n dX3_mostAt_26 3 rfl ?_
        obtain ⟨g5, h⟩ := zchk_some h
        have i6 : zds[38 + (zP V5 14 1)]? = some (.inr (0, 5, (zP V5 14 1), 1, 0)) := by rcases g5 with u | u <;> (rw [u]; rfl)
        obtain ⟨g7, h⟩ := zchk_some h
        refine zG_iald dX3_mostAt_27 i6 rfl rfl g7 ?_
        refine zR_iload_n dX3_mostAt_28 1 rfl ?_
        obtain ⟨q8, hq9, h⟩ := zbd_some h
        refine zR_cS (rest := [.int x2]) (st1 := [.int q8, .int x2]) dX3_mostAt_29 (mX3_ballsAt F (zE zds w [V0, V1, V2, V3, V4, V5, V6, V7]) (zA V5 (zP V5 14 1) (x3).toNatClampNeg) x1 _ hq9) zc_X3_85 rfl rfl (Nat.le_of_ble_eq_true rfl) (Nat.le_of_ble_eq_true rfl) rfl ?_
        refine zR_mmax dX3_mostAt_32 zmw_X3_76 (Nat.le_of_ble_eq_true rfl) (Nat.le_of_ble_eq_true rfl) ?_
        obtain ⟨y10, e11, h⟩ := zlet_some h
        refine zR_nmI e11 ?_
        refine zR_istore_n (lv' := [(0, .ref (w.1 + 52)), (1, .int x1), (2, .int y10), (3, .int x3)]) dX3_mostAt_35 (Nat.le_of_ble_eq_true rfl) rfl ?_
        refine zR_iinc (u := (x3 + 1)) (lv' := [(0, .ref (w.1 + 52)), (1, .int x1), (2, .int y10), (3, .int (x3 + 1))]) dX3_mostAt_36 3 rfl rfl (Nat.le_of_ble_eq_true rfl) rfl ?_
        refine zR_goto (tgt := 4) dX3_mostAt_39 (by decide) ?_
        exact ih V0 V1 V2 V3 V4 V5 V6 V7 x1 y10 (x3 + 1) _ h
set_option maxRecDepth 100000 in
set_option maxHeartbeats 4000000 in
theorem mX3_mostAt_5 {w : zW} (F : Nat) (V0 V1 V2 V3 V4 V5 V6 V7 : zV) (x1 : Int32) (res : Int32) (h : fX3_mostAt F V5 x1 = some res) : zMet w kX3_mostAt 1 0 0 [.ref (w.1 + 52), .int x1] (zE zds w [V0, V1, V2, V3, V4, V5, V6, V7]) (some (.int res)) (zE zds w [V0, V1, V2, V3, V4, V5, V6, V7]) := by
  refine zMet_of (by decide) (Nat.le_of_ble_eq_true rfl) (Nat.le_refl 0) fun _ => ?_
  show zR w kX3_mostAt 1 0 0 (some (.int res)) (zE zds w [V0, V1, V2, V3, V4, V5, V6, V7]) 0 [(0, .ref (w.1 + 52)), (1, .int x1)] [] (zE zds w [V0, V1, V2, V3, V4, V5, V6, V7])
  unfold fX3_mostAt at h
  refine zR_iconst (x := (0 : Int32)) dX3_mostAt_0 rfl ?_
  refine zR_istore_n (lv' := [(0, .ref (w.1 + 52)), (1, .int x1), (2, .int (0 : Int32))]) dX3_mostAt_1 (Nat.le_of_ble_eq_true rfl) rfl ?_
  refine zR_iconst (x := (0 : Int32)) dX3_mostAt_2 rfl ?_
  refine zR_istore_n (lv' := [(0, .ref (w.1 + 52)), (1, .int x1), (2, .int (0 : Int32)), (3, .int (0 : Int32))]) dX3_mostAt_3 (Nat.le_of_ble_eq_true rfl) rfl ?_
  exact wX3_mostAt_5_l4 F F V0 V1 V2 V3 V4 V5 V6 V7 x1 (0 : Int32) (0 : Int32) _ h
set_option maxRecDepth 100000 in
set_option maxHeartbeats 4000000 in
theorem wX3_leastAt_5_b42 {w : zW} (F : Nat) (V0 V1 V2 V3 V4 V5 V6 V7 : zV) (x2 : Int32) (res : Int32) (h : fX3_leastAt_b42 F V5 x2 = some res) : zR w kX3_leastAt 1 0 0 (some (.int res)) (zE zds w [V0, V1, V2, V3, V4, V5, V6, V7]) 42 [(2, .int x2)] [] (zE zds w [V0, V1, V2, V3, V4, V5, V6, V7]) := by
  unfold fX3_leastAt_b42 at h
  refine zR_iload_n dX3_leastAt_42 0 rfl ?_
  have h := Option.some.inj h
  subst h
  exact zR_iret (x := x2) dX3_leastAt_43 rfl rfl
set_option maxRecDepth 100000 in
set_option maxHeartbeats 4000000 in
theorem wX3_leastAt_5_l4 {w : zW} (F : Nat) : ∀ (n : Nat) (V0 V1 V2 V3 V4 V5 V6 V7 : zV) (x1 : Int32) (x2 : Int32) (x3 : Int32) (res : Int32), fX3_leastAt_l4 F n V5 x1 x2 x3 = some res → zR w kX3_leastAt 1 0 0 (some (.int res)) (zE zds w [V0, V1, V2, V3, V4, V5, V6, V7]) 4 [(0, .ref (w.1 + 52)), (1, .int x1), (2, .int x2), (3, .int x3)] [] (zE zds w [V0, V1, V2, V3, V4, V5, V6, V7]) := by
  intro n
  induction n with
  | zero =>
    intro V0 V1 V2 V3 V4 V5 V6 V7 x1 x2 x3 res h
    simp [fX3_leastAt_l4] at h
  | succ n ih =>
    intro V0 V1 V2 V3 V4 V5 V6 V7 x1 x2 x3 res h
    rw [fX3_leastAt_l4] at h
    refine zR_iload_n dX3_leastAt_4 3 rfl ?_
    refine zR_aload_n dX3_leastAt_5 0 rfl ?_
    refine zG_getI dX3_leastAt_6 zf_X3_15 zd_52 rfl rfl ?_
    by_cases c1 : (zI V5 14 5) ≤ x3
    · have h := zif_t h c1
      refine zR_icmp_ge_t (tgt := 42) dX3_leastAt_9 (by decide) c1 ?_
      refine zR_sub (lv' := [(2, .int x2)]) [2] rfl ?_
      exact wX3_leastAt_5_b42 F V0 V1 V2 V3 V4 V5 V6 V7 x2 _ h
    · have h := zif_f h c1
      refine zR_icmp_ge_f (tgt := 42) dX3_leastAt_9 (by decide) c1 ?_
      refine zR_iload_n dX3_leastAt_12 3 rfl ?_
      refine zR_aload_n dX3_leastAt_13 0 rfl ?_
      refine zG_getP dX3_leastAt_14 zf_X3_31 zd_52 rfl rfl ?_
      obtain ⟨g2, h⟩ := zchk_some h
      have i3 : zds[38 + (zP V5 14 1)]? = some (.inr (0, 5, (zP V5 14 1), 1, 0)) := by rcases g2 with u | u <;> (rw [u]; rfl)
      refine zG_alen (u := (nI (zN V5 (zP V5 14 1)))) dX3_leastAt_17 i3 (Nat.le_of_ble_eq_true rfl) rfl rfl rfl ?_
      by_cases c4 : (nI (zN V5 (zP V5 14 1))) ≤ x3
      · have h := zif_t h c4
        refine zR_icmp_ge_t (tgt := 42) dX3_leastAt_18 (by decide) c4 ?_
        refine zR_sub (lv' := [(2, .int x2)]) [2] rfl ?_
        exact wX3_leastAt_5_b42 F V0 V1 V2 V3 V4 V5 V6 V7 x2 _ h
      · have h := zif_f h c4
        refine zR_icmp_ge_f (tgt := 42) dX3_leastAt_18 (by decide) c4 ?_
        refine zR_iload_n dX3_leastAt_21 2 rfl ?_
        refine zR_aload_n dX3_leastAt_22 0 rfl ?_
        refine zG_getP dX3_leastAt_23 zf_X3_31 zd_52 rfl rfl ?_
        refine zR_iload_n dX3_leastAt_26 3 rfl ?_
        obtain ⟨g5, h⟩ := zchk_some h
        have i6 : zds[38 + (zP V5 14 1)]? = some (.inr (0, 5, (zP V5 14 1), 1, 0)) := by rcases g5 with u | u <;> (rw [u]; rfl)
        obtain ⟨g7, h⟩ := zchk_some h
        refine zG_iald dX3_leastAt_27 i6 rfl rfl g7 ?_
        refine zR_iload_n dX3_leastAt_28 1 rfl ?_
        obtain ⟨q8, hq9, h⟩ := zbd_some h
        refine zR_cS (rest := [.int x2]) (st1 := [.int q8, .int x2]) dX3_leastAt_29 (mX3_ballsAt F (zE zds w [V0, V1, V2, V3, V4, V5, V6, V7]) (zA V5 (zP V5 14 1) (x3).toNatClampNeg) x1 _ hq9) zc_X3_85 rfl rfl (Nat.le_of_ble_eq_true rfl) (Nat.le_of_ble_eq_true rfl) rfl ?_
        refine zR_mmin dX3_leastAt_32 zmw_X3_82 (Nat.le_of_ble_eq_true rfl) (Nat.le_of_ble_eq_true rfl) ?_
        obtain ⟨y10, e11, h⟩ := zlet_some h
        refine zR_nmI e11 ?_
        refine zR_istore_n (lv' := [(0, .ref (w.1 + 52)), (1, .int x1), (2, .int y10), (3, .int x3)]) dX3_leastAt_35 (Nat.le_of_ble_eq_true rfl) rfl ?_
        refine zR_iinc (u := (x3 + 1)) (lv' := [(0, .ref (w.1 + 52)), (1, .int x1), (2, .int y10), (3, .int (x3 + 1))]) dX3_leastAt_36 3 rfl rfl (Nat.le_of_ble_eq_true rfl) rfl ?_
        refine zR_goto (tgt := 4) dX3_leastAt_39 (by decide) ?_
        exact ih V0 V1 V2 V3 V4 V5 V6 V7 x1 y10 (x3 + 1) _ h
set_option maxRecDepth 100000 in
set_option maxHeartbeats 4000000 in
theorem mX3_leastAt_5 {w : zW} (F : Nat) (V0 V1 V2 V3 V4 V5 V6 V7 : zV) (x1 : Int32) (res : Int32) (h : fX3_leastAt F V5 x1 = some res) : zMet w kX3_leastAt 1 0 0 [.ref (w.1 + 52), .int x1] (zE zds w [V0, V1, V2, V3, V4, V5, V6, V7]) (some (.int res)) (zE zds w [V0, V1, V2, V3, V4, V5, V6, V7]) := by
  refine zMet_of (by decide) (Nat.le_of_ble_eq_true rfl) (Nat.le_refl 0) fun _ => ?_
  show zR w kX3_leastAt 1 0 0 (some (.int res)) (zE zds w [V0, V1, V2, V3, V4, V5, V6, V7]) 0 [(0, .ref (w.1 + 52)), (1, .int x1)] [] (zE zds w [V0, V1, V2, V3, V4, V5, V6, V7])
  unfold fX3_leastAt at h
  refine zR_iconst (x := (3 : Int32)) dX3_leastAt_0 rfl ?_
  refine zR_istore_n (lv' := [(0, .ref (w.1 + 52)), (1, .int x1), (2, .int (3 : Int32))]) dX3_leastAt_1 (Nat.le_of_ble_eq_true rfl) rfl ?_
  refine zR_iconst (x := (0 : Int32)) dX3_leastAt_2 rfl ?_
  refine zR_istore_n (lv' := [(0, .ref (w.1 + 52)), (1, .int x1), (2, .int (3 : Int32)), (3, .int (0 : Int32))]) dX3_leastAt_3 (Nat.le_of_ble_eq_true rfl) rfl ?_
  exact wX3_leastAt_5_l4 F F V0 V1 V2 V3 V4 V5 V6 V7 x1 (3 : Int32) (0 : Int32) _ h
set_option maxRecDepth 100000 in
set_option maxHeartbeats 4000000 in
theorem mX11_balls {w : zW} (F : Nat) (V0 V1 V2 V3 V4 V5 V6 V7 : zV) (x1 : Int32) (x2 : Int32) (res : Int32) (h : fX11_balls F V0 V4 V5 x1 x2 = some res) : zMet w kX11_balls 2 0 0 [.ref (w.1 + 0), .int x1, .int x2] (zE zds w [V0, V1, V2, V3, V4, V5, V6, V7]) (some (.int res)) (zE zds w [V0, V1, V2, V3, V4, V5, V6, V7]) := by
  refine zMet_of (by decide) (Nat.le_of_ble_eq_true rfl) (Nat.le_refl 0) fun _ => ?_
  show zR w kX11_balls 2 0 0 (some (.int res)) (zE zds w [V0, V1, V2, V3, V4, V5, V6, V7]) 0 [(0, .ref (w.1 + 0)), (1, .int x1), (2, .int x2)] [] (zE zds w [V0, V1, V2, V3, V4, V5, V6, V7])
  unfold fX11_balls at h
  refine zR_aload_n dX11_balls_0 0 rfl ?_
  refine zG_getI dX11_balls_1 zf_X11_63 zd_0 rfl rfl ?_
  by_cases c1 : (zI V0 0 9) = 0
  · have h := zif_t h c1
    refine zR_if_eq_t (tgt := 19) dX11_balls_4 (by decide) c1 ?_
    refine zR_iconst (x := (-1 : Int32)) dX11_balls_19 (by decide) ?_
    have h := Option.some.inj h
    subst h
    exact zR_iret (x := (-1 : Int32)) dX11_balls_20 rfl rfl
  · have h := zif_f h c1
    refine zR_if_eq_f (tgt := 19) dX11_balls_4 (by decide) c1 ?_
    refine zR_aload_n dX11_balls_7 0 rfl ?_
    refine zG_getR dX11_balls_8 zf_X11_46 zd_0 rfl rfl ?_
    refine zR_iconst (x := (4 : Int32)) dX11_balls_11 rfl ?_
    refine zR_iload_n dX11_balls_12 1 rfl ?_
    obtain ⟨q2, hq3, h⟩ := zbd_some h
    refine zR_cV (rest := []) (st1 := [.int q2]) dX11_balls_13 (mX9_has F V0 V1 V2 V3 V4 V5 V6 V7 (4 : Int32) x1 _ hq3) zc_X11_101 rfl (zE_at zd_15) ⟨_, _, rfl⟩ rfl (Nat.le_of_ble_eq_true rfl) (Nat.le_of_ble_eq_true rfl) rfl ?_
    by_cases c4 : q2 = 0
    · have h := zif_t h c4
      refine zR_if_ne_f (tgt := 21) dX11_balls_16 (by decide) c4 ?_
      refine zR_iconst (x := (-1 : Int32)) dX11_balls_19 (by decide) ?_
      have h := Option.some.inj h
      subst h
      exact zR_iret (x := (-1 : Int32)) dX11_balls_20 rfl rfl
    · have h := zif_f h c4
      refine zR_if_ne_t (tgt := 21) dX11_balls_16 (by decide) c4 ?_
      refine zR_iload_n dX11_balls_21 2 rfl ?_
      by_cases c5 : x2 = 0
      · have h := zif_t h c5
        refine zR_if_eq_t (tgt := 39) dX11_balls_22 (by decide) c5 ?_
        refine zR_aload_n dX11_balls_39 0 rfl ?_
        refine zG_getR dX11_balls_40 zf_X11_59 zd_0 rfl rfl ?_
        refine zG_getR dX11_balls_43 zf_X11_187 zd_38 rfl rfl ?_
        refine zR_iload_n dX11_balls_46 1 rfl ?_
        obtain ⟨q6, hq7, h⟩ := zbd_some h
        refine zR_cV (rest := []) (st1 := [.int q6]) dX11_balls_47 (mX3_leastAt_5 F V0 V1 V2 V3 V4 V5 V6 V7 x1 _ hq7) zc_X11_196 rfl (zE_at zd_52) ⟨_, _, rfl⟩ rfl (Nat.le_of_ble_eq_true rfl) (Nat.le_of_ble_eq_true rfl) rfl ?_
        have h := Option.some.inj h
        subst h
        exact zR_iret (x := q6) dX11_balls_50 rfl rfl
      · have h := zif_f h c5
        refine zR_if_eq_f (tgt := 39) dX11_balls_22 (by decide) c5 ?_
        refine zR_aload_n dX11_balls_25 0 rfl ?_
        refine zG_getR dX11_balls_26 zf_X11_59 zd_0 rfl rfl ?_
        refine zG_getR dX11_balls_29 zf_X11_187 zd_38 rfl rfl ?_
        refine zR_iload_n dX11_balls_32 1 rfl ?_
        obtain ⟨q8, hq9, h⟩ := zbd_some h
        refine zR_cV (rest := []) (st1 := [.int q8]) dX11_balls_33 (mX3_mostAt_5 F V0 V1 V2 V3 V4 V5 V6 V7 x1 _ hq9) zc_X11_191 rfl (zE_at zd_52) ⟨_, _, rfl⟩ rfl (Nat.le_of_ble_eq_true rfl) (Nat.le_of_ble_eq_true rfl) rfl ?_
        refine zR_goto (tgt := 50) dX11_balls_36 (by decide) ?_
        have h := Option.some.inj h
        subst h
        exact zR_iret (x := q8) dX11_balls_50 rfl rfl
set_option maxRecDepth 100000 in
set_option maxHeartbeats 4000000 in
theorem wX8_clear_6_l2 {w : zW} (F : Nat) : ∀ (n : Nat) (V0 V1 V2 V3 V4 V5 V6 V7 : zV) (x1 : Int32) (res : zV), fX8_clear_l2 F n V6 x1 = some res → zR w kX8_clear 0 0 0 none (zE zds w [V0, V1, V2, V3, V4, V5, res, V7]) 2 [(0, .ref (w.1 + 69)), (1, .int x1)] [] (zE zds w [V0, V1, V2, V3, V4, V5, V6, V7]) := by
  intro n
  induction n with
  | zero =>
    intro V0 V1 V2 V3 V4 V5 V6 V7 x1 res h
    simp [fX8_clear_l2] at h
  | succ n ih =>
    intro V0 V1 V2 V3 V4 V5 V6 V7 x1 res h
    rw [fX8_clear_l2] at h
    refine zR_iload_n dX8_clear_2 1 rfl ?_
    refine zR_aload_n dX8_clear_3 0 rfl ?_
    refine zG_getR dX8_clear_4 zf_X8_9 zd_69 rfl rfl ?_
    refine zG_alen (u := (16 : Int32)) dX8_clear_7 zd_70 (Nat.le_of_ble_eq_true rfl) rfl rfl rfl ?_
    by_cases c1 : (16 : Int32) ≤ x1
    · have h := zif_t h c1
      refine zR_icmp_ge_t (tgt := 45) dX8_clear_8 (by decide) c1 ?_
      have h := Option.some.inj h
      subst h
      exact zR_ret dX8_clear_45 rfl
    · have h := zif_f h c1
      refine zR_icmp_ge_f (tgt := 45) dX8_clear_8 (by decide) c1 ?_
      refine zR_aload_n dX8_clear_11 0 rfl ?_
      refine zG_getR dX8_clear_12 zf_X8_9 zd_69 rfl rfl ?_
      refine zR_iload_n dX8_clear_15 1 rfl ?_
      refine zR_iconst (x := (0 : Int32)) dX8_clear_16 rfl ?_
      obtain ⟨g2, h⟩ := zchk_some h
      obtain ⟨V6_3, e4, h⟩ := zlet_some h
      refine zG_iast zds_ok dX8_clear_17 zd_70 rfl rfl g2 e4 rfl ?_
      refine zR_aload_n dX8_clear_18 0 rfl ?_
      refine zG_getR dX8_clear_19 zf_X8_15 zd_69 rfl rfl ?_
      refine zR_iload_n dX8_clear_22 1 rfl ?_
      refine zR_iconst (x := (0 : Int32)) dX8_clear_23 rfl ?_
      obtain ⟨g5, h⟩ := zchk_some h
      obtain ⟨V6_6, e7, h⟩ := zlet_some h
      refine zG_iast zds_ok dX8_clear_24 zd_71 rfl rfl g5 e7 rfl ?_
      refine zR_aload_n dX8_clear_25 0 rfl ?_
      refine zG_getR dX8_clear_26 zf_X8_18 zd_69 rfl rfl ?_
      refine zR_iload_n dX8_clear_29 1 rfl ?_
      refine zR_iconst (x := (0 : Int32)) dX8_clear_30 rfl ?_
      obtain ⟨g8, h⟩ := zchk_some h
      obtain ⟨V6_9, e10, h⟩ := zlet_some h
      refine zG_iast zds_ok dX8_clear_31 zd_72 rfl rfl g8 e10 rfl ?_
      refine zR_aload_n dX8_clear_32 0 rfl ?_
      refine zG_getR dX8_clear_33 zf_X8_21 zd_69 rfl rfl ?_
      refine zR_iload_n dX8_clear_36 1 rfl ?_
      refine zR_iconst (x := (0 : Int32)) dX8_clear_37 rfl ?_
      obtain ⟨g11, h⟩ := zchk_some h
      obtain ⟨V6_12, e13, h⟩ := zlet_some h
      refine zG_iast zds_ok dX8_clear_38 zd_73 rfl rfl g11 e13 rfl ?_
      refine zR_iinc (u := (x1 + 1)) (lv' := [(0, .ref (w.1 + 69)), (1, .int (x1 + 1))]) dX8_clear_39 1 rfl rfl (Nat.le_of_ble_eq_true rfl) rfl ?_
      refine zR_goto (tgt := 2) dX8_clear_42 (by decide) ?_
      exact ih V0 V1 V2 V3 V4 V5 V6_12 V7 (x1 + 1) _ h
set_option maxRecDepth 100000 in
set_option maxHeartbeats 4000000 in
theorem mX8_clear_6 {w : zW} (F : Nat) (V0 V1 V2 V3 V4 V5 V6 V7 : zV) (res : zV) (h : fX8_clear F V6 = some res) : zMet w kX8_clear 0 0 0 [.ref (w.1 + 69)] (zE zds w [V0, V1, V2, V3, V4, V5, V6, V7]) none (zE zds w [V0, V1, V2, V3, V4, V5, res, V7]) := by
  refine zMet_of (by decide) (Nat.le_of_ble_eq_true rfl) (Nat.le_refl 0) fun _ => ?_
  show zR w kX8_clear 0 0 0 none (zE zds w [V0, V1, V2, V3, V4, V5, res, V7]) 0 [(0, .ref (w.1 + 69))] [] (zE zds w [V0, V1, V2, V3, V4, V5, V6, V7])
  unfold fX8_clear at h
  refine zR_iconst (x := (0 : Int32)) dX8_clear_0 rfl ?_
  refine zR_istore_n (lv' := [(0, .ref (w.1 + 69)), (1, .int (0 : Int32))]) dX8_clear_1 (Nat.le_of_ble_eq_true rfl) rfl ?_
  exact wX8_clear_6_l2 F F V0 V1 V2 V3 V4 V5 V6 V7 (0 : Int32) _ h
set_option maxRecDepth 100000 in
set_option maxHeartbeats 4000000 in
theorem wX0_clear_6_l7 {w : zW} (F : Nat) : ∀ (n : Nat) (V0 V1 V2 V3 V4 V5 V6 V7 : zV) (x1 : Int32) (res : zV), fX0_clear_l7 F n V6 x1 = some res → zR w kX0_clear 0 0 0 none (zE zds w [V0, V1, V2, V3, V4, V5, res, V7]) 7 [(0, .ref (w.1 + 74)), (1, .int x1)] [] (zE zds w [V0, V1, V2, V3, V4, V5, V6, V7]) := by
  intro n
  induction n with
  | zero =>
    intro V0 V1 V2 V3 V4 V5 V6 V7 x1 res h
    simp [fX0_clear_l7] at h
  | succ n ih =>
    intro V0 V1 V2 V3 V4 V5 V6 V7 x1 res h
    rw [fX0_clear_l7] at h
    refine zR_iload_n dX0_clear_7 1 rfl ?_
    refine zR_aload_n dX0_clear_8 0 rfl ?_
    refine zG_getR dX0_clear_9 zf_X0_9 zd_74 rfl rfl ?_
    refine zG_alen (u := (8 : Int32)) dX0_clear_12 zd_75 (Nat.le_of_ble_eq_true rfl) rfl rfl rfl ?_
    by_cases c1 : (8 : Int32) ≤ x1
    · have h := zif_t h c1
      refine zR_icmp_ge_t (tgt := 36) dX0_clear_13 (by decide) c1 ?_
      have h := Option.some.inj h
      subst h
      exact zR_ret dX0_clear_36 rfl
    · have h := zif_f h c1
      refine zR_icmp_ge_f (tgt := 36) dX0_clear_13 (by decide) c1 ?_
      refine zR_aload_n dX0_clear_16 0 rfl ?_
      refine zG_getR dX0_clear_17 zf_X0_9 zd_74 rfl rfl ?_
      refine zR_iload_n dX0_clear_20 1 rfl ?_
      refine zR_iconst (x := (0 : Int32)) dX0_clear_21 rfl ?_
      obtain ⟨g2, h⟩ := zchk_some h
      obtain ⟨V6_3, e4, h⟩ := zlet_some h
      refine zG_iast zds_ok dX0_clear_22 zd_75 rfl rfl g2 e4 rfl ?_
      refine zR_aload_n dX0_clear_23 0 rfl ?_
      refine zG_getR dX0_clear_24 zf_X0_15 zd_74 rfl rfl ?_
      refine zR_iload_n dX0_clear_27 1 rfl ?_
      refine zR_iconst (x := (0 : Int32)) dX0_clear_28 rfl ?_
      obtain ⟨g5, h⟩ := zchk_some h
      obtain ⟨V6_6, e7, h⟩ := zlet_some h
      refine zG_iast zds_ok dX0_clear_29 zd_76 rfl rfl g5 e7 rfl ?_
      refine zR_iinc (u := (x1 + 1)) (lv' := [(0, .ref (w.1 + 74)), (1, .int (x1 + 1))]) dX0_clear_30 1 rfl rfl (Nat.le_of_ble_eq_true rfl) rfl ?_
      refine zR_goto (tgt := 7) dX0_clear_33 (by decide) ?_
      exact ih V0 V1 V2 V3 V4 V5 V6_6 V7 (x1 + 1) _ h
set_option maxRecDepth 100000 in
set_option maxHeartbeats 4000000 in
theorem mX0_clear_6 {w : zW} (F : Nat) (V0 V1 V2 V3 V4 V5 V6 V7 : zV) (res : zV) (h : fX0_clear F V6 = some res) : zMet w kX0_clear 0 0 0 [.ref (w.1 + 74)] (zE zds w [V0, V1, V2, V3, V4, V5, V6, V7]) none (zE zds w [V0, V1, V2, V3, V4, V5, res, V7]) := by
  refine zMet_of (by decide) (Nat.le_of_ble_eq_true rfl) (Nat.le_refl 0) fun _ => ?_
  show zR w kX0_clear 0 0 0 none (zE zds w [V0, V1, V2, V3, V4, V5, res, V7]) 0 [(0, .ref (w.1 + 74))] [] (zE zds w [V0, V1, V2, V3, V4, V5, V6, V7])
  unfold fX0_clear at h
  refine zR_aload_n dX0_clear_0 0 rfl ?_
  refine zR_iconst (x := (0 : Int32)) dX0_clear_1 rfl ?_
  obtain ⟨V6_8, e9, h⟩ := zlet_some h
  refine zG_putI zds_ok dX0_clear_2 zf_X0_21 zt_X0_4 zd_74 rfl rfl e9 rfl ?_
  refine zR_iconst (x := (0 : Int32)) dX0_clear_5 rfl ?_
  refine zR_istore_n (lv' := [(0, .ref (w.1 + 74)), (1, .int (0 : Int32))]) dX0_clear_6 (Nat.le_of_ble_eq_true rfl) rfl ?_
  exact wX0_clear_6_l7 F F V0 V1 V2 V3 V4 V5 V6_8 V7 (0 : Int32) _ h
set_option maxRecDepth 100000 in
set_option maxHeartbeats 4000000 in
theorem mX3_turnOver_6 {w : zW} (F : Nat) (V0 V1 V2 V3 V4 V5 V6 V7 : zV) (res : zV) (h : fX3_turnOver F V6 = some res) : zMet w kX3_turnOver 0 0 0 [.ref (w.1 + 78)] (zE zds w [V0, V1, V2, V3, V4, V5, V6, V7]) none (zE zds w [V0, V1, V2, V3, V4, V5, res, V7]) := by
  refine zMet_of (by decide) (Nat.le_of_ble_eq_true rfl) (Nat.le_refl 0) fun _ => ?_
  show zR w kX3_turnOver 0 0 0 none (zE zds w [V0, V1, V2, V3, V4, V5, res, V7]) 0 [(0, .ref (w.1 + 78))] [] (zE zds w [V0, V1, V2, V3, V4, V5, V6, V7])
  unfold fX3_turnOver at h
  refine zR_aload_n dX3_turnOver_0 0 rfl ?_
  refine zG_getP dX3_turnOver_1 zf_X3_35 zd_78 rfl rfl ?_
  refine zR_astore_n (lv' := [(0, .ref (w.1 + 78)), (1, .ref (w.1 + (64 + zP V6 14 2)))]) dX3_turnOver_4 (Nat.le_of_ble_eq_true rfl) rfl ?_
  refine zR_aload_n dX3_turnOver_5 0 rfl ?_
  refine zR_aload_n dX3_turnOver_6 0 rfl ?_
  refine zG_getP dX3_turnOver_7 zf_X3_31 zd_78 rfl rfl ?_
  obtain ⟨V6_1, e2, h⟩ := zlet_some h
  refine zG_putP zds_ok dX3_turnOver_10 zf_X3_35 zt_X3_2 zd_78 rfl rfl e2 rfl ?_
  refine zR_aload_n dX3_turnOver_13 0 rfl ?_
  refine zR_aload_n dX3_turnOver_14 0 rfl ?_
  refine zG_getI dX3_turnOver_15 zf_X3_15 zd_78 rfl rfl ?_
  obtain ⟨V6_3, e4, h⟩ := zlet_some h
  refine zG_putI zds_ok dX3_turnOver_18 zf_X3_18 zt_X3_6 zd_78 rfl rfl e4 rfl ?_
  refine zR_aload_n dX3_turnOver_21 0 rfl ?_
  refine zR_aload_n dX3_turnOver_22 1 rfl ?_
  obtain ⟨V6_5, e6, h⟩ := zlet_some h
  refine zG_putP zds_ok dX3_turnOver_23 zf_X3_31 zt_X3_1 zd_78 rfl rfl e6 rfl ?_
  refine zR_aload_n dX3_turnOver_26 0 rfl ?_
  refine zR_iconst (x := (0 : Int32)) dX3_turnOver_27 rfl ?_
  obtain ⟨V6_7, e8, h⟩ := zlet_some h
  refine zG_putI zds_ok dX3_turnOver_28 zf_X3_15 zt_X3_5 zd_78 rfl rfl e8 rfl ?_
  refine zR_aload_n dX3_turnOver_31 0 rfl ?_
  refine zR_dup dX3_turnOver_32 rfl ?_
  refine zG_getI dX3_turnOver_33 zf_X3_11 zd_78 rfl rfl ?_
  refine zR_iconst (x := (1 : Int32)) dX3_turnOver_36 rfl ?_
  refine zR_iadd dX3_turnOver_37 ?_
  obtain ⟨V6_9, e10, h⟩ := zlet_some h
  refine zG_putI zds_ok dX3_turnOver_38 zf_X3_11 zt_X3_4 zd_78 rfl rfl e10 rfl ?_
  have h := Option.some.inj h
  subst h
  exact zR_ret dX3_turnOver_41 rfl
set_option maxRecDepth 100000 in
set_option maxHeartbeats 4000000 in
theorem mX3_put_6 {w : zW} (F : Nat) (V0 V1 V2 V3 V4 V5 V6 V7 : zV) (x1 : Int32) (res : zV) (h : fX3_put F V6 x1 = some res) : zMet w kX3_put 0 0 0 [.ref (w.1 + 78), .int x1] (zE zds w [V0, V1, V2, V3, V4, V5, V6, V7]) none (zE zds w [V0, V1, V2, V3, V4, V5, res, V7]) := by
  refine zMet_of (by decide) (Nat.le_of_ble_eq_true rfl) (Nat.le_refl 0) fun _ => ?_
  show zR w kX3_put 0 0 0 none (zE zds w [V0, V1, V2, V3, V4, V5, res, V7]) 0 [(0, .ref (w.1 + 78)), (1, .int x1)] [] (zE zds w [V0, V1, V2, V3, V4, V5, V6, V7])
  unfold fX3_put at h
  refine zR_iload_n dX3_put_0 1 rfl ?_
  by_cases c1 : x1 < 0
  · have h := zif_t h c1
    refine zR_if_lt_t (tgt := 68) dX3_put_1 (by decide) c1 ?_
    have h := Option.some.inj h
    subst h
    exact zR_ret dX3_put_68 rfl
  · have h := zif_f h c1
    refine zR_if_lt_f (tgt := 68) dX3_put_1 (by decide) c1 ?_
    refine zR_iload_n dX3_put_4 1 rfl ?_
    refine zR_aload_n dX3_put_5 0 rfl ?_
    refine zG_getR dX3_put_6 zf_X3_38 zd_78 rfl rfl ?_
    refine zG_alen (u := (nI (zN V6 17))) dX3_put_9 zd_81 (Nat.le_of_ble_eq_true rfl) rfl rfl rfl ?_
    by_cases c2 : (nI (zN V6 17)) ≤ x1
    · have h := zif_t h c2
      refine zR_icmp_ge_t (tgt := 68) dX3_put_10 (by decide) c2 ?_
      have h := Option.some.inj h
      subst h
      exact zR_ret dX3_put_68 rfl
    · have h := zif_f h c2
      refine zR_icmp_ge_f (tgt := 68) dX3_put_10 (by decide) c2 ?_
      refine zR_aload_n dX3_put_13 0 rfl ?_
      refine zG_getR dX3_put_14 zf_X3_38 zd_78 rfl rfl ?_
      refine zR_iload_n dX3_put_17 1 rfl ?_
      obtain ⟨g3, h⟩ := zchk_some h
      refine zG_iald dX3_put_18 zd_81 rfl rfl g3 ?_
      refine zR_aload_n dX3_put_19 0 rfl ?_
      refine zG_getI dX3_put_20 zf_X3_11 zd_78 rfl rfl ?_
      by_cases c4 : (zA V6 17 (x1).toNatClampNeg) = (zI V6 14 4)
      · have h := zif_t h c4
        refine zR_icmp_eq_t (tgt := 68) dX3_put_23 (by decide) c4 ?_
        have h := Option.some.inj h
        subst h
        exact zR_ret dX3_put_68 rfl
      · have h := zif_f h c4
        refine zR_icmp_eq_f (tgt := 68) dX3_put_23 (by decide) c4 ?_
        refine zR_aload_n dX3_put_26 0 rfl ?_
        refine zG_getI dX3_put_27 zf_X3_15 zd_78 rfl rfl ?_
        refine zR_aload_n dX3_put_30 0 rfl ?_
        refine zG_getP dX3_put_31 zf_X3_31 zd_78 rfl rfl ?_
        obtain ⟨g5, h⟩ := zchk_some h
        have i6 : zds[64 + (zP V6 14 1)]? = some (.inr (0, 6, (zP V6 14 1), 1, 0)) := by rcases g5 with u | u <;> (rw [u]; rfl)
        refine zG_alen (u := (nI (zN V6 (zP V6 14 1)))) dX3_put_34 i6 (Nat.le_of_ble_eq_true rfl) rfl rfl rfl ?_
        by_cases c7 : (nI (zN V6 (zP V6 14 1))) ≤ (zI V6 14 5)
        · have h := zif_t h c7
          refine zR_icmp_ge_t (tgt := 68) dX3_put_35 (by decide) c7 ?_
          have h := Option.some.inj h
          subst h
          exact zR_ret dX3_put_68 rfl
        · have h := zif_f h c7
          refine zR_icmp_ge_f (tgt := 68) dX3_put_35 (by decide) c7 ?_
          refine zR_aload_n dX3_put_38 0 rfl ?_
          refine zG_getR dX3_put_39 zf_X3_38 zd_78 rfl rfl ?_
          refine zR_iload_n dX3_put_42 1 rfl ?_
          refine zR_aload_n dX3_put_43 0 rfl ?_
          refine zG_getI dX3_put_44 zf_X3_11 zd_78 rfl rfl ?_
          obtain ⟨g8, h⟩ := zchk_some h
          obtain ⟨V6_9, e10, h⟩ := zlet_some h
          refine zG_iast zds_ok dX3_put_47 zd_81 rfl rfl g8 e10 rfl ?_
          refine zR_aload_n dX3_put_48 0 rfl ?_
          refine zG_getP dX3_put_49 zf_X3_31 zd_78 rfl rfl ?_
          refine zR_aload_n dX3_put_52 0 rfl ?_
          refine zG_getI dX3_put_53 zf_X3_15 zd_78 rfl rfl ?_
          refine zR_iload_n dX3_put_56 1 rfl ?_
          obtain ⟨g11, h⟩ := zchk_some h
          have i12 : zds[64 + (zP V6_9 14 1)]? = some (.inr (0, 6, (zP V6_9 14 1), 1, 0)) := by rcases g11 with u | u <;> (rw [u]; rfl)
          obtain ⟨g13, h⟩ := zchk_some h
          obtain ⟨V6_14, e15, h⟩ := zlet_some h
          refine zG_iast zds_ok dX3_put_57 i12 rfl rfl g13 e15 rfl ?_
          refine zR_aload_n dX3_put_58 0 rfl ?_
          refine zR_dup dX3_put_59 rfl ?_
          refine zG_getI dX3_put_60 zf_X3_15 zd_78 rfl rfl ?_
          refine zR_iconst (x := (1 : Int32)) dX3_put_63 rfl ?_
          refine zR_iadd dX3_put_64 ?_
          obtain ⟨V6_16, e17, h⟩ := zlet_some h
          refine zG_putI zds_ok dX3_put_65 zf_X3_15 zt_X3_5 zd_78 rfl rfl e17 rfl ?_
          have h := Option.some.inj h
          subst h
          exact zR_ret dX3_put_68 rfl
set_option maxRecDepth 100000 in
set_option maxHeartbeats 4000000 in
theorem mX3_clear_6 {w : zW} (F : Nat) (V0 V1 V2 V3 V4 V5 V6 V7 : zV) (res : zV) (h : fX3_clear F V4 V6 = some res) : zMet w kX3_clear 1 0 0 [.ref (w.1 + 78)] (zE zds w [V0, V1, V2, V3, V4, V5, V6, V7]) none (zE zds w [V0, V1, V2, V3, V4, V5, res, V7]) := by
  refine zMet_of (by decide) (Nat.le_of_ble_eq_true rfl) (Nat.le_refl 0) fun _ => ?_
  show zR w kX3_clear 1 0 0 none (zE zds w [V0, V1, V2, V3, V4, V5, res, V7]) 0 [(0, .ref (w.1 + 78))] [] (zE zds w [V0, V1, V2, V3, V4, V5, V6, V7])
  unfold fX3_clear at h
  refine zR_aload_n dX3_clear_0 0 rfl ?_
  refine zR_iconst (x := (0 : Int32)) dX3_clear_1 rfl ?_
  obtain ⟨V6_1, e2, h⟩ := zlet_some h
  refine zG_putI zds_ok dX3_clear_2 zf_X3_21 zt_X3_7 zd_78 rfl rfl e2 rfl ?_
  refine zR_aload_n dX3_clear_5 0 rfl ?_
  refine zR_iconst (x := (0 : Int32)) dX3_clear_6 rfl ?_
  obtain ⟨V6_3, e4, h⟩ := zlet_some h
  refine zG_putI zds_ok dX3_clear_7 zf_X3_24 zt_X3_8 zd_78 rfl rfl e4 rfl ?_
  refine zR_aload_n dX3_clear_10 0 rfl ?_
  obtain ⟨q5, hq6, h⟩ := zbd_some h
  refine zR_cV (rest := []) (st1 := []) dX3_clear_11 (mX3_turnOver_6 F V0 V1 V2 V3 V4 V5 V6_3 V7 _ hq6) zc_X3_41 rfl (zE_at zd_78) ⟨_, _, rfl⟩ rfl (Nat.le_of_ble_eq_true rfl) (Nat.le_of_ble_eq_true rfl) rfl ?_
  refine zR_aload_n dX3_clear_14 0 rfl ?_
  refine zG_getR dX3_clear_15 zf_X3_27 zd_78 rfl rfl ?_
  refine zG_getR dX3_clear_18 zf_X3_44 zd_15 rfl rfl ?_
  refine zR_iconst (x := (4 : Int32)) dX3_clear_21 rfl ?_
  refine zG_iald dX3_clear_22 zd_16 rfl rfl (show zix (4 : Int32) 27 from by decide) ?_
  by_cases c7 : (zA V4 1 ((4 : Int32)).toNatClampNeg) ≤ 0
  · have h := zif_t h c7
    refine zR_if_le_t (tgt := 31) dX3_clear_23 (by decide) c7 ?_
    have h := Option.some.inj h
    subst h
    exact zR_ret dX3_clear_31 rfl
  · have h := zif_f h c7
    refine zR_if_le_f (tgt := 31) dX3_clear_23 (by decide) c7 ?_
    refine zR_aload_n dX3_clear_26 0 rfl ?_
    refine zR_iconst (x := (0 : Int32)) dX3_clear_27 rfl ?_
    obtain ⟨q8, hq9, h⟩ := zbd_some h
    refine zR_cV (rest := []) (st1 := []) dX3_clear_28 (mX3_put_6 F V0 V1 V2 V3 V4 V5 q5 V7 (0 : Int32) _ hq9) zc_X3_49 rfl (zE_at zd_78) ⟨_, _, rfl⟩ rfl (Nat.le_of_ble_eq_true rfl) (Nat.le_of_ble_eq_true rfl) rfl ?_
    have h := Option.some.inj h
    subst h
    exact zR_ret dX3_clear_31 rfl
set_option maxRecDepth 100000 in
set_option maxHeartbeats 4000000 in
theorem wX4_clear_6_l7 {w : zW} (F : Nat) : ∀ (n : Nat) (V0 V1 V2 V3 V4 V5 V6 V7 : zV) (x1 : Int32) (res : zV), fX4_clear_l7 F n V6 x1 = some res → zR w kX4_clear 0 0 0 none (zE zds w [V0, V1, V2, V3, V4, V5, res, V7]) 7 [(0, .ref (w.1 + 82)), (1, .int x1)] [] (zE zds w [V0, V1, V2, V3, V4, V5, V6, V7]) := by
  intro n
  induction n with
  | zero =>
    intro V0 V1 V2 V3 V4 V5 V6 V7 x1 res h
    simp [fX4_clear_l7] at h
  | succ n ih =>
    intro V0 V1 V2 V3 V4 V5 V6 V7 x1 res h
    rw [fX4_clear_l7] at h
    refine zR_iload_n dX4_clear_7 1 rfl ?_
    refine zR_aload_n dX4_clear_8 0 rfl ?_
    refine zG_getR dX4_clear_9 zf_X4_9 zd_82 rfl rfl ?_
    refine zG_alen (u := (12 : Int32)) dX4_clear_12 zd_83 (Nat.le_of_ble_eq_true rfl) rfl rfl rfl ?_
    by_cases c1 : (12 : Int32) ≤ x1
    · have h := zif_t h c1
      refine zR_icmp_ge_t (tgt := 50) dX4_clear_13 (by decide) c1 ?_
      have h := Option.some.inj h
      subst h
      exact zR_ret dX4_clear_50 rfl
    · have h := zif_f h c1
      refine zR_icmp_ge_f (tgt := 50) dX4_clear_13 (by decide) c1 ?_
      refine zR_aload_n dX4_clear_16 0 rfl ?_
      refine zG_getR dX4_clear_17 zf_X4_9 zd_82 rfl rfl ?_
      refine zR_iload_n dX4_clear_20 1 rfl ?_
      refine zR_iconst (x := (0 : Int32)) dX4_clear_21 rfl ?_
      obtain ⟨g2, h⟩ := zchk_some h
      obtain ⟨V6_3, e4, h⟩ := zlet_some h
      refine zG_zast zds_ok dX4_clear_22 zd_83 rfl rfl g2 e4 rfl ?_
      refine zR_aload_n dX4_clear_23 0 rfl ?_
      refine zG_getR dX4_clear_24 zf_X4_15 zd_82 rfl rfl ?_
      refine zR_iload_n dX4_clear_27 1 rfl ?_
      refine zR_iconst (x := (0 : Int32)) dX4_clear_28 rfl ?_
      obtain ⟨g5, h⟩ := zchk_some h
      obtain ⟨V6_6, e7, h⟩ := zlet_some h
      refine zG_iast zds_ok dX4_clear_29 zd_84 rfl rfl g5 e7 rfl ?_
      refine zR_aload_n dX4_clear_30 0 rfl ?_
      refine zG_getR dX4_clear_31 zf_X4_19 zd_82 rfl rfl ?_
      refine zR_iload_n dX4_clear_34 1 rfl ?_
      refine zR_iconst (x := (0 : Int32)) dX4_clear_35 rfl ?_
      obtain ⟨g8, h⟩ := zchk_some h
      obtain ⟨V6_9, e10, h⟩ := zlet_some h
      refine zG_iast zds_ok dX4_clear_36 zd_85 rfl rfl g8 e10 rfl ?_
      refine zR_aload_n dX4_clear_37 0 rfl ?_
      refine zG_getR dX4_clear_38 zf_X4_22 zd_82 rfl rfl ?_
      refine zR_iload_n dX4_clear_41 1 rfl ?_
      refine zR_iconst (x := (0 : Int32)) dX4_clear_42 rfl ?_
      obtain ⟨g11, h⟩ := zchk_some h
      obtain ⟨V6_12, e13, h⟩ := zlet_some h
      refine zG_iast zds_ok dX4_clear_43 zd_86 rfl rfl g11 e13 rfl ?_
      refine zR_iinc (u := (x1 + 1)) (lv' := [(0, .ref (w.1 + 82)), (1, .int (x1 + 1))]) dX4_clear_44 1 rfl rfl (Nat.le_of_ble_eq_true rfl) rfl ?_
      refine zR_goto (tgt := 7) dX4_clear_47 (by decide) ?_
      exact ih V0 V1 V2 V3 V4 V5 V6_12 V7 (x1 + 1) _ h
set_option maxRecDepth 100000 in
set_option maxHeartbeats 4000000 in
theorem mX4_clear_6 {w : zW} (F : Nat) (V0 V1 V2 V3 V4 V5 V6 V7 : zV) (res : zV) (h : fX4_clear F V6 = some res) : zMet w kX4_clear 0 0 0 [.ref (w.1 + 82)] (zE zds w [V0, V1, V2, V3, V4, V5, V6, V7]) none (zE zds w [V0, V1, V2, V3, V4, V5, res, V7]) := by
  refine zMet_of (by decide) (Nat.le_of_ble_eq_true rfl) (Nat.le_refl 0) fun _ => ?_
  show zR w kX4_clear 0 0 0 none (zE zds w [V0, V1, V2, V3, V4, V5, res, V7]) 0 [(0, .ref (w.1 + 82))] [] (zE zds w [V0, V1, V2, V3, V4, V5, V6, V7])
  unfold fX4_clear at h
  refine zR_aload_n dX4_clear_0 0 rfl ?_
  refine zR_iconst (x := (0 : Int32)) dX4_clear_1 rfl ?_
  obtain ⟨V6_14, e15, h⟩ := zlet_some h
  refine zG_putI zds_ok dX4_clear_2 zf_X4_28 zt_X4_6 zd_82 rfl rfl e15 rfl ?_
  refine zR_iconst (x := (0 : Int32)) dX4_clear_5 rfl ?_
  refine zR_istore_n (lv' := [(0, .ref (w.1 + 82)), (1, .int (0 : Int32))]) dX4_clear_6 (Nat.le_of_ble_eq_true rfl) rfl ?_
  exact wX4_clear_6_l7 F F V0 V1 V2 V3 V4 V5 V6_14 V7 (0 : Int32) _ h
set_option maxRecDepth 100000 in
set_option maxHeartbeats 4000000 in
theorem wX3_moveAll_6_l2 {w : zW} (F : Nat) : ∀ (n : Nat) (V0 V1 V2 V3 V4 V5 V6 V7 : zV) (x1 : Int32) (x2 : Int32) (x3 : Int32) (res : zV), fX3_moveAll_l2 F n V6 x1 x2 x3 = some res → zR w kX3_moveAll 2 0 0 none (zE zds w [V0, V1, V2, V3, V4, V5, res, V7]) 2 [(0, .ref (w.1 + 78)), (1, .int x1), (2, .int x2), (3, .int x3)] [] (zE zds w [V0, V1, V2, V3, V4, V5, V6, V7]) := by
  intro n
  induction n with
  | zero =>
    intro V0 V1 V2 V3 V4 V5 V6 V7 x1 x2 x3 res h
    simp [fX3_moveAll_l2] at h
  | succ n ih =>
    intro V0 V1 V2 V3 V4 V5 V6 V7 x1 x2 x3 res h
    rw [fX3_moveAll_l2] at h
    refine zR_iload_n dX3_moveAll_2 3 rfl ?_
    refine zR_aload_n dX3_moveAll_3 0 rfl ?_
    refine zG_getI dX3_moveAll_4 zf_X3_18 zd_78 rfl rfl ?_
    by_cases c1 : (zI V6 14 6) ≤ x3
    · have h := zif_t h c1
      refine zR_icmp_ge_t (tgt := 40) dX3_moveAll_7 (by decide) c1 ?_
      have h := Option.some.inj h
      subst h
      exact zR_ret dX3_moveAll_40 rfl
    · have h := zif_f h c1
      refine zR_icmp_ge_f (tgt := 40) dX3_moveAll_7 (by decide) c1 ?_
      refine zR_iload_n dX3_moveAll_10 3 rfl ?_
      refine zR_aload_n dX3_moveAll_11 0 rfl ?_
      refine zG_getP dX3_moveAll_12 zf_X3_35 zd_78 rfl rfl ?_
      obtain ⟨g2, h⟩ := zchk_some h
      have i3 : zds[64 + (zP V6 14 2)]? = some (.inr (0, 6, (zP V6 14 2), 1, 0)) := by rcases g2 with u | u <;> (rw [u]; rfl)
      refine zG_alen (u := (nI (zN V6 (zP V6 14 2)))) dX3_moveAll_15 i3 (Nat.le_of_ble_eq_true rfl) rfl rfl rfl ?_
      by_cases c4 : (nI (zN V6 (zP V6 14 2))) ≤ x3
      · have h := zif_t h c4
        refine zR_icmp_ge_t (tgt := 40) dX3_moveAll_16 (by decide) c4 ?_
        have h := Option.some.inj h
        subst h
        exact zR_ret dX3_moveAll_40 rfl
      · have h := zif_f h c4
        refine zR_icmp_ge_f (tgt := 40) dX3_moveAll_16 (by decide) c4 ?_
        refine zR_aload_n dX3_moveAll_19 0 rfl ?_
        refine zR_aload_n dX3_moveAll_20 0 rfl ?_
        refine zG_getP dX3_moveAll_21 zf_X3_35 zd_78 rfl rfl ?_
        refine zR_iload_n dX3_moveAll_24 3 rfl ?_
        obtain ⟨g5, h⟩ := zchk_some h
        have i6 : zds[64 + (zP V6 14 2)]? = some (.inr (0, 6, (zP V6 14 2), 1, 0)) := by rcases g5 with u | u <;> (rw [u]; rfl)
        obtain ⟨g7, h⟩ := zchk_some h
        refine zG_iald dX3_moveAll_25 i6 rfl rfl g7 ?_
        refine zR_iload_n dX3_moveAll_26 1 rfl ?_
        refine zR_iload_n dX3_moveAll_27 2 rfl ?_
        obtain ⟨q8, hq9, h⟩ := zbd_some h
        refine zR_cS (rest := [.ref (w.1 + 78)]) (st1 := [.int q8, .ref (w.1 + 78)]) dX3_moveAll_28 (mX3_moved F (zE zds w [V0, V1, V2, V3, V4, V5, V6, V7]) (zA V6 (zP V6 14 2) (x3).toNatClampNeg) x1 x2 _ hq9) zc_X3_72 rfl rfl (Nat.le_of_ble_eq_true rfl) (Nat.le_of_ble_eq_true rfl) rfl ?_
        obtain ⟨q10, hq11, h⟩ := zbd_some h
        refine zR_cV (rest := []) (st1 := []) dX3_moveAll_31 (mX3_put_6 F V0 V1 V2 V3 V4 V5 V6 V7 q8 _ hq11) zc_X3_49 rfl (zE_at zd_78) ⟨_, _, rfl⟩ rfl (Nat.le_of_ble_eq_true rfl) (Nat.le_of_ble_eq_true rfl) rfl ?_
        refine zR_iinc (u := (x3 + 1)) (lv' := [(0, .ref (w.1 + 78)), (1, .int x1), (2, .int x2), (3, .int (x3 + 1))]) dX3_moveAll_34 3 rfl rfl (Nat.le_of_ble_eq_true rfl) rfl ?_
        refine zR_goto (tgt := 2) dX3_moveAll_37 (by decide) ?_
        exact ih V0 V1 V2 V3 V4 V5 q10 V7 x1 x2 (x3 + 1) _ h
set_option maxRecDepth 100000 in
set_option maxHeartbeats 4000000 in
theorem mX3_moveAll_6 {w : zW} (F : Nat) (V0 V1 V2 V3 V4 V5 V6 V7 : zV) (x1 : Int32) (x2 : Int32) (res : zV) (h : fX3_moveAll F V6 x1 x2 = some res) : zMet w kX3_moveAll 2 0 0 [.ref (w.1 + 78), .int x1, .int x2] (zE zds w [V0, V1, V2, V3, V4, V5, V6, V7]) none (zE zds w [V0, V1, V2, V3, V4, V5, res, V7]) := by
  refine zMet_of (by decide) (Nat.le_of_ble_eq_true rfl) (Nat.le_refl 0) fun _ => ?_
  show zR w kX3_moveAll 2 0 0 none (zE zds w [V0, V1, V2, V3, V4, V5, res, V7]) 0 [(0, .ref (w.1 + 78)), (1, .int x1), (2, .int x2)] [] (zE zds w [V0, V1, V2, V3, V4, V5, V6, V7])
  unfold fX3_moveAll at h
  refine zR_iconst (x := (0 : Int32)) dX3_moveAll_0 rfl ?_
  refine zR_istore_n (lv' := [(0, .ref (w.1 + 78)), (1, .int x1), (2, .int x2), (3, .int (0 : Int32))]) dX3_moveAll_1 (Nat.le_of_ble_eq_true rfl) rfl ?_
  exact wX3_moveAll_6_l2 F F V0 V1 V2 V3 V4 V5 V6 V7 x1 x2 (0 : Int32) _ h
set_option maxRecDepth 100000 in
set_option maxHeartbeats 4000000 in
theorem wX3_spread_6_b94 {w : zW} (F : Nat) (k2 : zV → zV → Int32 → Option (zV)) (hk2 : ∀ (V0 V1 V2 V3 V4 V5 V6 V7 : zV) (x1 : Int32) (res : zV), k2 V4 V6 x1 = some res → zR w kX3_spread 2 0 0 none (zE zds w [V0, V1, V2, V3, V4, V5, res, V7]) 2 [(0, .ref (w.1 + 78)), (1, .int x1)] [] (zE zds w [V0, V1, V2, V3, V4, V5, V6, V7])) (V0 V1 V2 V3 V4 V5 V6 V7 : zV) (x1 : Int32) (res : zV) (h : fX3_spread_b94 F k2 V4 V6 x1 = some res) : zR w kX3_spread 2 0 0 none (zE zds w [V0, V1, V2, V3, V4, V5, res, V7]) 94 [(0, .ref (w.1 + 78)), (1, .int x1)] [] (zE zds w [V0, V1, V2, V3, V4, V5, V6, V7]) := by
  unfold fX3_spread_b94 at h
  refine zR_iinc (u := (x1 + 1)) (lv' := [(0, .ref (w.1 + 78)), (1, .int (x1 + 1))]) dX3_spread_94 1 rfl rfl (Nat.le_of_ble_eq_true rfl) rfl ?_
  refine zR_goto (tgt := 2) dX3_spread_97 (by decide) ?_
  exact hk2 V0 V1 V2 V3 V4 V5 V6 V7 (x1 + 1) _ h
set_option maxRecDepth 100000 in
set_option maxHeartbeats 4000000 in
theorem wX3_spread_6_b88 {w : zW} (F : Nat) (k21 : zV → zV → Int32 → Int32 → Option (zV)) (hk21 : ∀ (V0 V1 V2 V3 V4 V5 V6 V7 : zV) (x1 : Int32) (x2 : Int32) (res : zV), k21 V4 V6 x1 x2 = some res → zR w kX3_spread 2 0 0 none (zE zds w [V0, V1, V2, V3, V4, V5, res, V7]) 21 [(0, .ref (w.1 + 78)), (1, .int x1), (2, .int x2)] [] (zE zds w [V0, V1, V2, V3, V4, V5, V6, V7])) (V0 V1 V2 V3 V4 V5 V6 V7 : zV) (x1 : Int32) (x2 : Int32) (res : zV) (h : fX3_spread_b88 F k21 V4 V6 x1 x2 = some res) : zR w kX3_spread 2 0 0 none (zE zds w [V0, V1, V2, V3, V4, V5, res, V7]) 88 [(0, .ref (w.1 + 78)), (1, .int x1), (2, .int x2)] [] (zE zds w [V0, V1, V2, V3, V4, V5, V6, V7]) := by
  unfold fX3_spread_b88 at h
  refine zR_iinc (u := (x2 + 1)) (lv' := [(0, .ref (w.1 + 78)), (1, .int x1), (2, .int (x2 + 1))]) dX3_spread_88 2 rfl rfl (Nat.le_of_ble_eq_true rfl) rfl ?_
  refine zR_goto (tgt := 21) dX3_spread_91 (by decide) ?_
  exact hk21 V0 V1 V2 V3 V4 V5 V6 V7 x1 (x2 + 1) _ h
set_option maxRecDepth 100000 in
set_option maxHeartbeats 4000000 in
theorem wX3_spread_6_l21 {w : zW} (F : Nat) (k2 : zV → zV → Int32 → Option (zV)) (hk2 : ∀ (V0 V1 V2 V3 V4 V5 V6 V7 : zV) (x1 : Int32) (res : zV), k2 V4 V6 x1 = some res → zR w kX3_spread 2 0 0 none (zE zds w [V0, V1, V2, V3, V4, V5, res, V7]) 2 [(0, .ref (w.1 + 78)), (1, .int x1)] [] (zE zds w [V0, V1, V2, V3, V4, V5, V6, V7])) : ∀ (n : Nat) (V0 V1 V2 V3 V4 V5 V6 V7 : zV) (x1 : Int32) (x2 : Int32) (res : zV), fX3_spread_l21 F k2 n V4 V6 x1 x2 = some res → zR w kX3_spread 2 0 0 none (zE zds w [V0, V1, V2, V3, V4, V5, res, V7]) 21 [(0, .ref (w.1 + 78)), (1, .int x1), (2, .int x2)] [] (zE zds w [V0, V1, V2, V3, V4, V5, V6, V7]) := by
  intro n
  induction n with
  | zero =>
    intro V0 V1 V2 V3 V4 V5 V6 V7 x1 x2 res h
    simp [fX3_spread_l21] at h
  | succ n ih =>
    intro V0 V1 V2 V3 V4 V5 V6 V7 x1 x2 res h
    rw [fX3_spread_l21] at h
    refine zR_iload_n dX3_spread_21 2 rfl ?_
    refine zR_aload_n dX3_spread_22 0 rfl ?_
    refine zG_getR dX3_spread_23 zf_X3_27 zd_78 rfl rfl ?_
    refine zG_getR dX3_spread_26 zf_X3_44 zd_15 rfl rfl ?_
    refine zR_iconst (x := (5 : Int32)) dX3_spread_29 rfl ?_
    refine zG_iald dX3_spread_30 zd_16 rfl rfl (show zix (5 : Int32) 27 from by decide) ?_
    by_cases c1 : (zA V4 1 ((5 : Int32)).toNatClampNeg) ≤ x2
    · have h := zif_t h c1
      refine zR_icmp_ge_t (tgt := 94) dX3_spread_31 (by decide) c1 ?_
      refine zR_sub (lv' := [(0, .ref (w.1 + 78)), (1, .int x1)]) [0, 1] rfl ?_
      exact wX3_spread_6_b94 F k2 hk2 V0 V1 V2 V3 V4 V5 V6 V7 x1 _ h
    · have h := zif_f h c1
      refine zR_icmp_ge_f (tgt := 94) dX3_spread_31 (by decide) c1 ?_
      refine zR_iload_n dX3_spread_34 2 rfl ?_
      refine zR_bipush (x := (24 : Int32)) dX3_spread_35 rfl ?_
      by_cases c2 : (24 : Int32) ≤ x2
      · have h := zif_t h c2
        refine zR_icmp_ge_t (tgt := 94) dX3_spread_37 (by decide) c2 ?_
        refine zR_sub (lv' := [(0, .ref (w.1 + 78)), (1, .int x1)]) [0, 1] rfl ?_
        exact wX3_spread_6_b94 F k2 hk2 V0 V1 V2 V3 V4 V5 V6 V7 x1 _ h
      · have h := zif_f h c2
        refine zR_icmp_ge_f (tgt := 94) dX3_spread_37 (by decide) c2 ?_
        refine zR_aload_n dX3_spread_40 0 rfl ?_
        refine zG_getR dX3_spread_41 zf_X3_27 zd_78 rfl rfl ?_
        refine zG_getR dX3_spread_44 zf_X3_60 zd_15 rfl rfl ?_
        refine zR_iload_n dX3_spread_47 2 rfl ?_
        obtain ⟨g3, h⟩ := zchk_some h
        refine zG_iald dX3_spread_48 zd_23 rfl rfl g3 ?_
        refine zR_iconst (x := (-1 : Int32)) dX3_spread_49 (by decide) ?_
        by_cases c4 : (zA V4 8 (x2).toNatClampNeg) = (-1 : Int32)
        · have h := zif_t h c4
          refine zR_icmp_ne_f (tgt := 88) dX3_spread_50 (by decide) c4 ?_
          refine zR_aload_n dX3_spread_53 0 rfl ?_
          refine zR_aload_n dX3_spread_54 0 rfl ?_
          refine zG_getP dX3_spread_55 zf_X3_31 zd_78 rfl rfl ?_
          refine zR_iload_n dX3_spread_58 1 rfl ?_
          obtain ⟨g5, h⟩ := zchk_some h
          have i6 : zds[64 + (zP V6 14 1)]? = some (.inr (0, 6, (zP V6 14 1), 1, 0)) := by rcases g5 with u | u <;> (rw [u]; rfl)
          obtain ⟨g7, h⟩ := zchk_some h
          refine zG_iald dX3_spread_59 i6 rfl rfl g7 ?_
          refine zR_aload_n dX3_spread_60 0 rfl ?_
          refine zG_getR dX3_spread_61 zf_X3_27 zd_78 rfl rfl ?_
          refine zG_getR dX3_spread_64 zf_X3_63 zd_15 rfl rfl ?_
          refine zR_iload_n dX3_spread_67 2 rfl ?_
          obtain ⟨g8, h⟩ := zchk_some h
          refine zG_iald dX3_spread_68 zd_21 rfl rfl g8 ?_
          refine zR_iconst (x := (1 : Int32)) dX3_spread_69 rfl ?_
          refine zR_iadd dX3_spread_70 ?_
          refine zR_aload_n dX3_spread_71 0 rfl ?_
          refine zG_getR dX3_spread_72 zf_X3_27 zd_78 rfl rfl ?_
          refine zG_getR dX3_spread_75 zf_X3_66 zd_15 rfl rfl ?_
          refine zR_iload_n dX3_spread_78 2 rfl ?_
          obtain ⟨g9, h⟩ := zchk_some h
          refine zG_iald dX3_spread_79 zd_22 rfl rfl g9 ?_
          refine zR_iconst (x := (1 : Int32)) dX3_spread_80 rfl ?_
          refine zR_iadd dX3_spread_81 ?_
          obtain ⟨q10, hq11, h⟩ := zbd_some h
          refine zR_cS (rest := [.ref (w.1 + 78)]) (st1 := [.int q10, .ref (w.1 + 78)]) dX3_spread_82 (mX3_moved F (zE zds w [V0, V1, V2, V3, V4, V5, V6, V7]) (zA V6 (zP V6 14 1) (x1).toNatClampNeg) ((zA V4 6 (x2).toNatClampNeg) + (1 : Int32)) ((zA V4 7 (x2).toNatClampNeg) + (1 : Int32)) _ hq11) zc_X3_72 rfl rfl (Nat.le_of_ble_eq_true rfl) (Nat.le_of_ble_eq_true rfl) rfl ?_
          obtain ⟨q12, hq13, h⟩ := zbd_some h
          refine zR_cV (rest := []) (st1 := []) dX3_spread_85 (mX3_put_6 F V0 V1 V2 V3 V4 V5 V6 V7 q10 _ hq13) zc_X3_49 rfl (zE_at zd_78) ⟨_, _, rfl⟩ rfl (Nat.le_of_ble_eq_true rfl) (Nat.le_of_ble_eq_true rfl) rfl ?_
          exact wX3_spread_6_b88 F (fX3_spread_l21 F k2 n) ih V0 V1 V2 V3 V4 V5 q12 V7 x1 x2 _ h
        · have h := zif_f h c4
          refine zR_icmp_ne_t (tgt := 88) dX3_spread_50 (by decide) c4 ?_
          exact wX3_spread_6_b88 F (fX3_spread_l21 F k2 n) ih V0 V1 V2 V3 V4 V5 V6 V7 x1 x2 _ h
set_option maxRecDepth 100000 in
set_option maxHeartbeats 4000000 in
theorem wX3_spread_6_l2 {w : zW} (F : Nat) : ∀ (n : Nat) (V0 V1 V2 V3 V4 V5 V6 V7 : zV) (x1 : Int32) (res : zV), fX3_spread_l2 F n V4 V6 x1 = some res → zR w kX3_spread 2 0 0 none (zE zds w [V0, V1, V2, V3, V4, V5, res, V7]) 2 [(0, .ref (w.1 + 78)), (1, .int x1)] [] (zE zds w [V0, V1, V2, V3, V4, V5, V6, V7]) := by
  intro n
  induction n with
  | zero =>
    intro V0 V1 V2 V3 V4 V5 V6 V7 x1 res h
    simp [fX3_spread_l2] at h
  | succ n ih =>
    intro V0 V1 V2 V3 V4 V5 V6 V7 x1 res h
    rw [fX3_spread_l2] at h
    refine zR_iload_n dX3_spread_2 1 rfl ?_
    refine zR_aload_n dX3_spread_3 0 rfl ?_
    refine zG_getI dX3_spread_4 zf_X3_15 zd_78 rfl rfl ?_
    by_cases c14 : (zI V6 14 5) ≤ x1
    · have h := zif_t h c14
      refine zR_icmp_ge_t (tgt := 100) dX3_spread_7 (by decide) c14 ?_
      have h := Option.some.inj h
      subst h
      exact zR_ret dX3_spread_100 rfl
    · have h := zif_f h c14
      refine zR_icmp_ge_f (tgt := 100) dX3_spread_7 (by decide) c14 ?_
      refine zR_iload_n dX3_spread_10 1 rfl ?_
      refine zR_aload_n dX3_spread_11 0 rfl ?_
      refine zG_getP dX3_spread_12 zf_X3_31 zd_78 rfl rfl ?_
      obtain ⟨g15, h⟩ := zchk_some h
      have i16 : zds[64 + (zP V6 14 1)]? = some (.inr (0, 6, (zP V6 14 1), 1, 0)) := by rcases g15 with u | u <;> (rw [u]; rfl)
      refine zG_alen (u := (nI (zN V6 (zP V6 14 1)))) dX3_spread_15 i16 (Nat.le_of_ble_eq_true rfl) rfl rfl rfl ?_
      by_cases c17 : (nI (zN V6 (zP V6 14 1))) ≤ x1
      · have h := zif_t h c17
        refine zR_icmp_ge_t (tgt := 100) dX3_spread_16 (by decide) c17 ?_
        have h := Option.some.inj h
        subst h
        exact zR_ret dX3_spread_100 rfl
      · have h := zif_f h c17
        refine zR_icmp_ge_f (tgt := 100) dX3_spread_16 (by decide) c17 ?_
        refine zR_iconst (x := (0 : Int32)) dX3_spread_19 rfl ?_
        refine zR_istore_n (lv' := [(0, .ref (w.1 + 78)), (1, .int x1), (2, .int (0 : Int32))]) dX3_spread_20 (Nat.le_of_ble_eq_true rfl) rfl ?_
        exact wX3_spread_6_l21 F (fX3_spread_l2 F n) ih F V0 V1 V2 V3 V4 V5 V6 V7 x1 (0 : Int32) _ h
set_option maxRecDepth 100000 in
set_option maxHeartbeats 4000000 in
theorem mX3_spread_6 {w : zW} (F : Nat) (V0 V1 V2 V3 V4 V5 V6 V7 : zV) (res : zV) (h : fX3_spread F V4 V6 = some res) : zMet w kX3_spread 2 0 0 [.ref (w.1 + 78)] (zE zds w [V0, V1, V2, V3, V4, V5, V6, V7]) none (zE zds w [V0, V1, V2, V3, V4, V5, res, V7]) := by
  refine zMet_of (by decide) (Nat.le_of_ble_eq_true rfl) (Nat.le_refl 0) fun _ => ?_
  show zR w kX3_spread 2 0 0 none (zE zds w [V0, V1, V2, V3, V4, V5, res, V7]) 0 [(0, .ref (w.1 + 78))] [] (zE zds w [V0, V1, V2, V3, V4, V5, V6, V7])
  unfold fX3_spread at h
  refine zR_iconst (x := (0 : Int32)) dX3_spread_0 rfl ?_
  refine zR_istore_n (lv' := [(0, .ref (w.1 + 78)), (1, .int (0 : Int32))]) dX3_spread_1 (Nat.le_of_ble_eq_true rfl) rfl ?_
  exact wX3_spread_6_l2 F F V0 V1 V2 V3 V4 V5 V6 V7 (0 : Int32) _ h
set_option maxRecDepth 100000 in
set_option maxHeartbeats 4000000 in
theorem mX3_takeBall_6 {w : zW} (F : Nat) (V0 V1 V2 V3 V4 V5 V6 V7 : zV) (res : zV) (h : fX3_takeBall F V4 V6 = some res) : zMet w kX3_takeBall 3 0 0 [.ref (w.1 + 78)] (zE zds w [V0, V1, V2, V3, V4, V5, V6, V7]) none (zE zds w [V0, V1, V2, V3, V4, V5, res, V7]) := by
  refine zMet_of (by decide) (Nat.le_of_ble_eq_true rfl) (Nat.le_refl 0) fun _ => ?_
  show zR w kX3_takeBall 3 0 0 none (zE zds w [V0, V1, V2, V3, V4, V5, res, V7]) 0 [(0, .ref (w.1 + 78))] [] (zE zds w [V0, V1, V2, V3, V4, V5, V6, V7])
  unfold fX3_takeBall at h
  refine zR_aload_n dX3_takeBall_0 0 rfl ?_
  refine zG_getI dX3_takeBall_1 zf_X3_21 zd_78 rfl rfl ?_
  refine zR_iconst (x := (3 : Int32)) dX3_takeBall_4 rfl ?_
  by_cases c1 : (3 : Int32) ≤ (zI V6 14 7)
  · have h := zif_t h c1
    refine zR_icmp_ge_t (tgt := 32) dX3_takeBall_5 (by decide) c1 ?_
    have h := Option.some.inj h
    subst h
    exact zR_ret dX3_takeBall_32 rfl
  · have h := zif_f h c1
    refine zR_icmp_ge_f (tgt := 32) dX3_takeBall_5 (by decide) c1 ?_
    refine zR_aload_n dX3_takeBall_8 0 rfl ?_
    refine zR_dup dX3_takeBall_9 rfl ?_
    refine zG_getI dX3_takeBall_10 zf_X3_21 zd_78 rfl rfl ?_
    refine zR_iconst (x := (1 : Int32)) dX3_takeBall_13 rfl ?_
    refine zR_iadd dX3_takeBall_14 ?_
    obtain ⟨V6_2, e3, h⟩ := zlet_some h
    refine zG_putI zds_ok dX3_takeBall_15 zf_X3_21 zt_X3_7 zd_78 rfl rfl e3 rfl ?_
    refine zR_aload_n dX3_takeBall_18 0 rfl ?_
    obtain ⟨q4, hq5, h⟩ := zbd_some h
    refine zR_cV (rest := []) (st1 := []) dX3_takeBall_19 (mX3_turnOver_6 F V0 V1 V2 V3 V4 V5 V6_2 V7 _ hq5) zc_X3_41 rfl (zE_at zd_78) ⟨_, _, rfl⟩ rfl (Nat.le_of_ble_eq_true rfl) (Nat.le_of_ble_eq_true rfl) rfl ?_
    refine zR_aload_n dX3_takeBall_22 0 rfl ?_
    refine zR_iconst (x := (0 : Int32)) dX3_takeBall_23 rfl ?_
    refine zR_iconst (x := (1 : Int32)) dX3_takeBall_24 rfl ?_
    obtain ⟨q6, hq7, h⟩ := zbd_some h
    refine zR_cV (rest := []) (st1 := []) dX3_takeBall_25 (mX3_moveAll_6 F V0 V1 V2 V3 V4 V5 q4 V7 (0 : Int32) (1 : Int32) _ hq7) zc_X3_53 rfl (zE_at zd_78) ⟨_, _, rfl⟩ rfl (Nat.le_of_ble_eq_true rfl) (Nat.le_of_ble_eq_true rfl) rfl ?_
    refine zR_aload_n dX3_takeBall_28 0 rfl ?_
    obtain ⟨q8, hq9, h⟩ := zbd_some h
    refine zR_cV (rest := []) (st1 := []) dX3_takeBall_29 (mX3_spread_6 F V0 V1 V2 V3 V4 V5 q6 V7 _ hq9) zc_X3_57 rfl (zE_at zd_78) ⟨_, _, rfl⟩ rfl (Nat.le_of_ble_eq_true rfl) (Nat.le_of_ble_eq_true rfl) rfl ?_
    have h := Option.some.inj h
    subst h
    exact zR_ret dX3_takeBall_32 rfl
set_option maxRecDepth 100000 in
set_option maxHeartbeats 4000000 in
theorem wX4_remember_6_b49 {w : zW} (F : Nat) (k2 : zV → zV → Int32 → Option (zV)) (hk2 : ∀ (V0 V1 V2 V3 V4 V5 V6 V7 : zV) (x1 : Int32) (res : zV), k2 V4 V6 x1 = some res → zR w kX4_remember 0 0 0 none (zE zds w [V0, V1, V2, V3, V4, V5, res, V7]) 2 [(0, .ref (w.1 + 82)), (1, .int x1)] [] (zE zds w [V0, V1, V2, V3, V4, V5, V6, V7])) (V0 V1 V2 V3 V4 V5 V6 V7 : zV) (x1 : Int32) (s1 : Int32) (s2 : Int32) (res : zV) (h : fX4_remember_b49 F k2 V4 V6 x1 s1 s2 = some res) : zR w kX4_remember 0 0 0 none (zE zds w [V0, V1, V2, V3, V4, V5, res, V7]) 49 [(0, .ref (w.1 + 82)), (1, .int x1)] [.int s2, .int s1, .ref (w.1 + 87)] (zE zds w [V0, V1, V2, V3, V4, V5, V6, V7]) := by
  unfold fX4_remember_b49 at h
  obtain ⟨g1, h⟩ := zchk_some h
  obtain ⟨V6_2, e3, h⟩ := zlet_some h
  refine zG_iast zds_ok dX4_remember_49 zd_87 rfl rfl g1 e3 rfl ?_
  refine zR_iinc (u := (x1 + 1)) (lv' := [(0, .ref (w.1 + 82)), (1, .int (x1 + 1))]) dX4_remember_50 1 rfl rfl (Nat.le_of_ble_eq_true rfl) rfl ?_
  refine zR_goto (tgt := 2) dX4_remember_53 (by decide) ?_
  exact hk2 V0 V1 V2 V3 V4 V5 V6_2 V7 (x1 + 1) _ h
set_option maxRecDepth 100000 in
set_option maxHeartbeats 4000000 in
theorem wX4_remember_6_l2 {w : zW} (F : Nat) : ∀ (n : Nat) (V0 V1 V2 V3 V4 V5 V6 V7 : zV) (x1 : Int32) (res : zV), fX4_remember_l2 F n V4 V6 x1 = some res → zR w kX4_remember 0 0 0 none (zE zds w [V0, V1, V2, V3, V4, V5, res, V7]) 2 [(0, .ref (w.1 + 82)), (1, .int x1)] [] (zE zds w [V0, V1, V2, V3, V4, V5, V6, V7]) := by
  intro n
  induction n with
  | zero =>
    intro V0 V1 V2 V3 V4 V5 V6 V7 x1 res h
    simp [fX4_remember_l2] at h
  | succ n ih =>
    intro V0 V1 V2 V3 V4 V5 V6 V7 x1 res h
    rw [fX4_remember_l2] at h
    refine zR_iload_n dX4_remember_2 1 rfl ?_
    refine zR_aload_n dX4_remember_3 0 rfl ?_
    refine zG_getR dX4_remember_4 zf_X4_32 zd_82 rfl rfl ?_
    refine zG_getR dX4_remember_7 zf_X4_36 zd_15 rfl rfl ?_
    refine zR_bipush (x := (7 : Int32)) dX4_remember_10 rfl ?_
    refine zG_iald dX4_remember_12 zd_16 rfl rfl (show zix (7 : Int32) 27 from by decide) ?_
    by_cases c4 : (zA V4 1 ((7 : Int32)).toNatClampNeg) ≤ x1
    · have h := zif_t h c4
      refine zR_icmp_ge_t (tgt := 56) dX4_remember_13 (by decide) c4 ?_
      have h := Option.some.inj h
      subst h
      exact zR_ret dX4_remember_56 rfl
    · have h := zif_f h c4
      refine zR_icmp_ge_f (tgt := 56) dX4_remember_13 (by decide) c4 ?_
      refine zR_iload_n dX4_remember_16 1 rfl ?_
      refine zR_aload_n dX4_remember_17 0 rfl ?_
      refine zG_getR dX4_remember_18 zf_X4_25 zd_82 rfl rfl ?_
      refine zG_alen (u := (12 : Int32)) dX4_remember_21 zd_87 (Nat.le_of_ble_eq_true rfl) rfl rfl rfl ?_
      by_cases c5 : (12 : Int32) ≤ x1
      · have h := zif_t h c5
        refine zR_icmp_ge_t (tgt := 56) dX4_remember_22 (by decide) c5 ?_
        have h := Option.some.inj h
        subst h
        exact zR_ret dX4_remember_56 rfl
      · have h := zif_f h c5
        refine zR_icmp_ge_f (tgt := 56) dX4_remember_22 (by decide) c5 ?_
        refine zR_aload_n dX4_remember_25 0 rfl ?_
        refine zG_getR dX4_remember_26 zf_X4_25 zd_82 rfl rfl ?_
        refine zR_iload_n dX4_remember_29 1 rfl ?_
        refine zR_aload_n dX4_remember_30 0 rfl ?_
        refine zG_getR dX4_remember_31 zf_X4_9 zd_82 rfl rfl ?_
        refine zR_iload_n dX4_remember_34 1 rfl ?_
        obtain ⟨g6, h⟩ := zchk_some h
        refine zG_zald dX4_remember_35 zd_83 rfl rfl g6 ?_
        by_cases c7 : (zA V6 19 (x1).toNatClampNeg) = 0
        · have h := zif_t h c7
          refine zR_if_eq_t (tgt := 48) dX4_remember_36 (by decide) c7 ?_
          refine zR_iconst (x := (-1 : Int32)) dX4_remember_48 (by decide) ?_
          exact wX4_remember_6_b49 F (fX4_remember_l2 F n) ih V0 V1 V2 V3 V4 V5 V6 V7 x1 x1 (-1 : Int32) _ h
        · have h := zif_f h c7
          refine zR_if_eq_f (tgt := 48) dX4_remember_36 (by decide) c7 ?_
          refine zR_aload_n dX4_remember_39 0 rfl ?_
          refine zG_getR dX4_remember_40 zf_X4_22 zd_82 rfl rfl ?_
          refine zR_iload_n dX4_remember_43 1 rfl ?_
          obtain ⟨g8, h⟩ := zchk_some h
          refine zG_iald dX4_remember_44 zd_86 rfl rfl g8 ?_
          refine zR_goto (tgt := 49) dX4_remember_45 (by decide) ?_
          exact wX4_remember_6_b49 F (fX4_remember_l2 F n) ih V0 V1 V2 V3 V4 V5 V6 V7 x1 x1 (zA V6 22 (x1).toNatClampNeg) _ h
set_option maxRecDepth 100000 in
set_option maxHeartbeats 4000000 in
theorem mX4_remember_6 {w : zW} (F : Nat) (V0 V1 V2 V3 V4 V5 V6 V7 : zV) (res : zV) (h : fX4_remember F V4 V6 = some res) : zMet w kX4_remember 0 0 0 [.ref (w.1 + 82)] (zE zds w [V0, V1, V2, V3, V4, V5, V6, V7]) none (zE zds w [V0, V1, V2, V3, V4, V5, res, V7]) := by
  refine zMet_of (by decide) (Nat.le_of_ble_eq_true rfl) (Nat.le_refl 0) fun _ => ?_
  show zR w kX4_remember 0 0 0 none (zE zds w [V0, V1, V2, V3, V4, V5, res, V7]) 0 [(0, .ref (w.1 + 82))] [] (zE zds w [V0, V1, V2, V3, V4, V5, V6, V7])
  unfold fX4_remember at h
  refine zR_iconst (x := (0 : Int32)) dX4_remember_0 rfl ?_
  refine zR_istore_n (lv' := [(0, .ref (w.1 + 82)), (1, .int (0 : Int32))]) dX4_remember_1 (Nat.le_of_ble_eq_true rfl) rfl ?_
  exact wX4_remember_6_l2 F F V0 V1 V2 V3 V4 V5 V6 V7 (0 : Int32) _ h
set_option maxRecDepth 100000 in
set_option maxHeartbeats 4000000 in
theorem mX1_beginActs_6 {w : zW} (F : Nat) (V0 V1 V2 V3 V4 V5 V6 V7 : zV) (res : zV) (h : fX1_beginActs F V4 V6 = some res) : zMet w kX1_beginActs 1 0 0 [.ref (w.1 + 64)] (zE zds w [V0, V1, V2, V3, V4, V5, V6, V7]) none (zE zds w [V0, V1, V2, V3, V4, V5, res, V7]) := by
  refine zMet_of (by decide) (Nat.le_of_ble_eq_true rfl) (Nat.le_refl 0) fun _ => ?_
  show zR w kX1_beginActs 1 0 0 none (zE zds w [V0, V1, V2, V3, V4, V5, res, V7]) 0 [(0, .ref (w.1 + 64))] [] (zE zds w [V0, V1, V2, V3, V4, V5, V6, V7])
  unfold fX1_beginActs at h
  refine zR_aload_n dX1_beginActs_0 0 rfl ?_
  refine zR_iconst (x := (0 : Int32)) dX1_beginActs_1 rfl ?_
  obtain ⟨V6_1, e2, h⟩ := zlet_some h
  refine zG_putI zds_ok dX1_beginActs_2 zf_X1_33 zt_X1_13 zd_64 rfl rfl e2 rfl ?_
  refine zR_aload_n dX1_beginActs_5 0 rfl ?_
  refine zR_iconst (x := (0 : Int32)) dX1_beginActs_6 rfl ?_
  obtain ⟨V6_3, e4, h⟩ := zlet_some h
  refine zG_putZ zds_ok dX1_beginActs_7 zf_X1_36 zt_X1_14 zd_64 rfl rfl (Or.inl rfl) e4 rfl ?_
  refine zR_aload_n dX1_beginActs_10 0 rfl ?_
  refine zG_getR dX1_beginActs_11 zf_X1_87 zd_64 rfl rfl ?_
  obtain ⟨q5, hq6, h⟩ := zbd_some h
  refine zR_cV (rest := []) (st1 := []) dX1_beginActs_14 (mX4_remember_6 F V0 V1 V2 V3 V4 V5 V6_3 V7 _ hq6) zc_X1_147 rfl (zE_at zd_82) ⟨_, _, rfl⟩ rfl (Nat.le_of_ble_eq_true rfl) (Nat.le_of_ble_eq_true rfl) rfl ?_
  have h := Option.some.inj h
  subst h
  exact zR_ret dX1_beginActs_17 rfl
set_option maxRecDepth 100000 in
set_option maxHeartbeats 4000000 in
theorem wX4_turnOn_6_b89 {w : zW} (F : Nat) (V0 V1 V2 V3 V4 V5 V6 V7 : zV) (s1 : Int32) (s2 : Int32) (res : Int32 × zV) (h : fX4_turnOn_b89 F V4 V6 s1 s2 = some res) : zR w kX4_turnOn 1 0 0 (some (.int res.1)) (zE zds w [V0, V1, V2, V3, V4, V5, res.2, V7]) 89 [] [.int s2, .int s1, .ref (w.1 + 82)] (zE zds w [V0, V1, V2, V3, V4, V5, V6, V7]) := by
  unfold fX4_turnOn_b89 at h
  refine zR_iadd dX4_turnOn_89 ?_
  obtain ⟨V6_1, e2, h⟩ := zlet_some h
  refine zG_putI zds_ok dX4_turnOn_90 zf_X4_28 zt_X4_6 zd_82 rfl rfl e2 rfl ?_
  refine zR_iconst (x := (1 : Int32)) dX4_turnOn_93 rfl ?_
  have h := Option.some.inj h
  subst h
  exact zR_iret (x := (1 : Int32)) dX4_turnOn_94 rfl znar1
set_option maxRecDepth 100000 in
set_option maxHeartbeats 4000000 in
theorem mX4_turnOn_6 {w : zW} (F : Nat) (V0 V1 V2 V3 V4 V5 V6 V7 : zV) (x1 : Int32) (res : Int32 × zV) (h : fX4_turnOn F V4 V6 x1 = some res) : zMet w kX4_turnOn 1 0 0 [.ref (w.1 + 82), .int x1] (zE zds w [V0, V1, V2, V3, V4, V5, V6, V7]) (some (.int res.1)) (zE zds w [V0, V1, V2, V3, V4, V5, res.2, V7]) := by
  refine zMet_of (by decide) (Nat.le_of_ble_eq_true rfl) (Nat.le_refl 0) fun _ => ?_
  show zR w kX4_turnOn 1 0 0 (some (.int res.1)) (zE zds w [V0, V1, V2, V3, V4, V5, res.2, V7]) 0 [(0, .ref (w.1 + 82)), (1, .int x1)] [] (zE zds w [V0, V1, V2, V3, V4, V5, V6, V7])
  unfold fX4_turnOn at h
  refine zR_aload_n dX4_turnOn_0 0 rfl ?_
  refine zG_getR dX4_turnOn_1 zf_X4_32 zd_82 rfl rfl ?_
  refine zR_bipush (x := (7 : Int32)) dX4_turnOn_4 rfl ?_
  refine zR_iload_n dX4_turnOn_6 1 rfl ?_
  obtain ⟨q3, hq4, h⟩ := zbd_some h
  refine zR_cV (rest := []) (st1 := [.int q3]) dX4_turnOn_7 (mX9_has F V0 V1 V2 V3 V4 V5 V6 V7 (7 : Int32) x1 _ hq4) zc_X4_41 rfl (zE_at zd_15) ⟨_, _, rfl⟩ rfl (Nat.le_of_ble_eq_true rfl) (Nat.le_of_ble_eq_true rfl) rfl ?_
  by_cases c5 : q3 = 0
  · have h := zif_t h c5
    refine zR_if_eq_t (tgt := 22) dX4_turnOn_10 (by decide) c5 ?_
    refine zR_iconst (x := (0 : Int32)) dX4_turnOn_22 rfl ?_
    have h := Option.some.inj h
    subst h
    exact zR_iret (x := (0 : Int32)) dX4_turnOn_23 rfl znar0
  · have h := zif_f h c5
    refine zR_if_eq_f (tgt := 22) dX4_turnOn_10 (by decide) c5 ?_
    refine zR_iload_n dX4_turnOn_13 1 rfl ?_
    refine zR_aload_n dX4_turnOn_14 0 rfl ?_
    refine zG_getR dX4_turnOn_15 zf_X4_9 zd_82 rfl rfl ?_
    refine zG_alen (u := (12 : Int32)) dX4_turnOn_18 zd_83 (Nat.le_of_ble_eq_true rfl) rfl rfl rfl ?_
    by_cases c6 : x1 < (12 : Int32)
    · have h := zif_t h c6
      refine zR_icmp_lt_t (tgt := 24) dX4_turnOn_19 (by decide) c6 ?_
      refine zR_aload_n dX4_turnOn_24 0 rfl ?_
      refine zG_getR dX4_turnOn_25 zf_X4_15 zd_82 rfl rfl ?_
      refine zR_iload_n dX4_turnOn_28 1 rfl ?_
      refine zR_aload_n dX4_turnOn_29 0 rfl ?_
      refine zG_getR dX4_turnOn_30 zf_X4_32 zd_82 rfl rfl ?_
      refine zG_getR dX4_turnOn_33 zf_X4_45 zd_15 rfl rfl ?_
      refine zR_iload_n dX4_turnOn_36 1 rfl ?_
      obtain ⟨g7, h⟩ := zchk_some h
      refine zG_iald dX4_turnOn_37 zd_26 rfl rfl g7 ?_
      obtain ⟨g8, h⟩ := zchk_some h
      obtain ⟨V6_9, e10, h⟩ := zlet_some h
      refine zG_iast zds_ok dX4_turnOn_38 zd_84 rfl rfl g8 e10 rfl ?_
      refine zR_aload_n dX4_turnOn_39 0 rfl ?_
      refine zG_getR dX4_turnOn_40 zf_X4_9 zd_82 rfl rfl ?_
      refine zR_iload_n dX4_turnOn_43 1 rfl ?_
      obtain ⟨g11, h⟩ := zchk_some h
      refine zG_zald dX4_turnOn_44 zd_83 rfl rfl g11 ?_
      by_cases c12 : (zA V6_9 19 (x1).toNatClampNeg) = 0
      · have h := zif_t h c12
        refine zR_if_eq_t (tgt := 50) dX4_turnOn_45 (by decide) c12 ?_
        refine zR_aload_n dX4_turnOn_50 0 rfl ?_
        refine zG_getR dX4_turnOn_51 zf_X4_9 zd_82 rfl rfl ?_
        refine zR_iload_n dX4_turnOn_54 1 rfl ?_
        refine zR_iconst (x := (1 : Int32)) dX4_turnOn_55 rfl ?_
        obtain ⟨g13, h⟩ := zchk_some h
        obtain ⟨V6_14, e15, h⟩ := zlet_some h
        refine zG_zast zds_ok dX4_turnOn_56 zd_83 rfl rfl g13 e15 rfl ?_
        refine zR_aload_n dX4_turnOn_57 0 rfl ?_
        refine zG_getR dX4_turnOn_58 zf_X4_19 zd_82 rfl rfl ?_
        refine zR_iload_n dX4_turnOn_61 1 rfl ?_
        refine zR_dup2 dX4_turnOn_62 rfl rfl ?_
        obtain ⟨g16, h⟩ := zchk_some h
        refine zG_iald dX4_turnOn_63 zd_85 rfl rfl g16 ?_
        refine zR_iconst (x := (1 : Int32)) dX4_turnOn_64 rfl ?_
        refine zR_iadd dX4_turnOn_65 ?_
        obtain ⟨g17, h⟩ := zchk_some h
        obtain ⟨V6_18, e19, h⟩ := zlet_some h
        refine zG_iast zds_ok dX4_turnOn_66 zd_85 rfl rfl g17 e19 rfl ?_
        refine zR_aload_n dX4_turnOn_67 0 rfl ?_
        refine zR_dup dX4_turnOn_68 rfl ?_
        refine zG_getI dX4_turnOn_69 zf_X4_28 zd_82 rfl rfl ?_
        refine zR_aload_n dX4_turnOn_72 0 rfl ?_
        refine zG_getR dX4_turnOn_73 zf_X4_32 zd_82 rfl rfl ?_
        refine zG_getR dX4_turnOn_76 zf_X4_45 zd_15 rfl rfl ?_
        refine zR_iload_n dX4_turnOn_79 1 rfl ?_
        obtain ⟨g20, h⟩ := zchk_some h
        refine zG_iald dX4_turnOn_80 zd_26 rfl rfl g20 ?_
        by_cases c21 : (zA V4 11 (x1).toNatClampNeg) ≤ 0
        · have h := zif_t h c21
          refine zR_if_le_t (tgt := 88) dX4_turnOn_81 (by decide) c21 ?_
          refine zR_iconst (x := (0 : Int32)) dX4_turnOn_88 rfl ?_
          refine zR_sub (lv' := []) [] rfl ?_
          exact wX4_turnOn_6_b89 F V0 V1 V2 V3 V4 V5 V6_18 V7 (zI V6_18 18 6) (0 : Int32) _ h
        · have h := zif_f h c21
          refine zR_if_le_f (tgt := 88) dX4_turnOn_81 (by decide) c21 ?_
          refine zR_iconst (x := (1 : Int32)) dX4_turnOn_84 rfl ?_
          refine zR_goto (tgt := 89) dX4_turnOn_85 (by decide) ?_
          refine zR_sub (lv' := []) [] rfl ?_
          exact wX4_turnOn_6_b89 F V0 V1 V2 V3 V4 V5 V6_18 V7 (zI V6_18 18 6) (1 : Int32) _ h
      · have h := zif_f h c12
        refine zR_if_eq_f (tgt := 50) dX4_turnOn_45 (by decide) c12 ?_
        refine zR_iconst (x := (0 : Int32)) dX4_turnOn_48 rfl ?_
        have h := Option.some.inj h
        subst h
        exact zR_iret (x := (0 : Int32)) dX4_turnOn_49 rfl znar0
    · have h := zif_f h c6
      refine zR_icmp_lt_f (tgt := 24) dX4_turnOn_19 (by decide) c6 ?_
      refine zR_iconst (x := (0 : Int32)) dX4_turnOn_22 rfl ?_
      have h := Option.some.inj h
      subst h
      exact zR_iret (x := (0 : Int32)) dX4_turnOn_23 rfl znar0
set_option maxRecDepth 100000 in
set_option maxHeartbeats 4000000 in
theorem mX4_offsOf_6 {w : zW} (F : Nat) (V0 V1 V2 V3 V4 V5 V6 V7 : zV) (x1 : Int32) (res : Int32) (h : fX4_offsOf F V6 x1 = some res) : zMet w kX4_offsOf 0 0 0 [.ref (w.1 + 82), .int x1] (zE zds w [V0, V1, V2, V3, V4, V5, V6, V7]) (some (.int res)) (zE zds w [V0, V1, V2, V3, V4, V5, V6, V7]) := by
  refine zMet_of (by decide) (Nat.le_of_ble_eq_true rfl) (Nat.le_refl 0) fun _ => ?_
  show zR w kX4_offsOf 0 0 0 (some (.int res)) (zE zds w [V0, V1, V2, V3, V4, V5, V6, V7]) 0 [(0, .ref (w.1 + 82)), (1, .int x1)] [] (zE zds w [V0, V1, V2, V3, V4, V5, V6, V7])
  unfold fX4_offsOf at h
  refine zR_iload_n dX4_offsOf_0 1 rfl ?_
  by_cases c1 : x1 < 0
  · have h := zif_t h c1
    refine zR_if_lt_t (tgt := 22) dX4_offsOf_1 (by decide) c1 ?_
    refine zR_iconst (x := (0 : Int32)) dX4_offsOf_22 rfl ?_
    have h := Option.some.inj h
    subst h
    exact zR_iret (x := (0 : Int32)) dX4_offsOf_23 rfl rfl
  · have h := zif_f h c1
    refine zR_if_lt_f (tgt := 22) dX4_offsOf_1 (by decide) c1 ?_
    refine zR_iload_n dX4_offsOf_4 1 rfl ?_
    refine zR_aload_n dX4_offsOf_5 0 rfl ?_
    refine zG_getR dX4_offsOf_6 zf_X4_22 zd_82 rfl rfl ?_
    refine zG_alen (u := (12 : Int32)) dX4_offsOf_9 zd_86 (Nat.le_of_ble_eq_true rfl) rfl rfl rfl ?_
    by_cases c2 : (12 : Int32) ≤ x1
    · have h := zif_t h c2
      refine zR_icmp_ge_t (tgt := 22) dX4_offsOf_10 (by decide) c2 ?_
      refine zR_iconst (x := (0 : Int32)) dX4_offsOf_22 rfl ?_
      have h := Option.some.inj h
      subst h
      exact zR_iret (x := (0 : Int32)) dX4_offsOf_23 rfl rfl
    · have h := zif_f h c2
      refine zR_icmp_ge_f (tgt := 22) dX4_offsOf_10 (by decide) c2 ?_
      refine zR_aload_n dX4_offsOf_13 0 rfl ?_
      refine zG_getR dX4_offsOf_14 zf_X4_22 zd_82 rfl rfl ?_
      refine zR_iload_n dX4_offsOf_17 1 rfl ?_
      obtain ⟨g3, h⟩ := zchk_some h
      refine zG_iald dX4_offsOf_18 zd_86 rfl rfl g3 ?_
      refine zR_goto (tgt := 23) dX4_offsOf_19 (by decide) ?_
      have h := Option.some.inj h
      subst h
      exact zR_iret (x := (zA V6 22 (x1).toNatClampNeg)) dX4_offsOf_23 rfl rfl
set_option maxRecDepth 100000 in
set_option maxHeartbeats 4000000 in
theorem mX4_timeLeftOf_6 {w : zW} (F : Nat) (V0 V1 V2 V3 V4 V5 V6 V7 : zV) (x1 : Int32) (res : Int32) (h : fX4_timeLeftOf F V6 x1 = some res) : zMet w kX4_timeLeftOf 0 0 0 [.ref (w.1 + 82), .int x1] (zE zds w [V0, V1, V2, V3, V4, V5, V6, V7]) (some (.int res)) (zE zds w [V0, V1, V2, V3, V4, V5, V6, V7]) := by
  refine zMet_of (by decide) (Nat.le_of_ble_eq_true rfl) (Nat.le_refl 0) fun _ => ?_
  show zR w kX4_timeLeftOf 0 0 0 (some (.int res)) (zE zds w [V0, V1, V2, V3, V4, V5, V6, V7]) 0 [(0, .ref (w.1 + 82)), (1, .int x1)] [] (zE zds w [V0, V1, V2, V3, V4, V5, V6, V7])
  unfold fX4_timeLeftOf at h
  refine zR_iload_n dX4_timeLeftOf_0 1 rfl ?_
  by_cases c1 : x1 < 0
  · have h := zif_t h c1
    refine zR_if_lt_t (tgt := 22) dX4_timeLeftOf_1 (by decide) c1 ?_
    refine zR_iconst (x := (0 : Int32)) dX4_timeLeftOf_22 rfl ?_
    have h := Option.some.inj h
    subst h
    exact zR_iret (x := (0 : Int32)) dX4_timeLeftOf_23 rfl rfl
  · have h := zif_f h c1
    refine zR_if_lt_f (tgt := 22) dX4_timeLeftOf_1 (by decide) c1 ?_
    refine zR_iload_n dX4_timeLeftOf_4 1 rfl ?_
    refine zR_aload_n dX4_timeLeftOf_5 0 rfl ?_
    refine zG_getR dX4_timeLeftOf_6 zf_X4_15 zd_82 rfl rfl ?_
    refine zG_alen (u := (12 : Int32)) dX4_timeLeftOf_9 zd_84 (Nat.le_of_ble_eq_true rfl) rfl rfl rfl ?_
    by_cases c2 : (12 : Int32) ≤ x1
    · have h := zif_t h c2
      refine zR_icmp_ge_t (tgt := 22) dX4_timeLeftOf_10 (by decide) c2 ?_
      refine zR_iconst (x := (0 : Int32)) dX4_timeLeftOf_22 rfl ?_
      have h := Option.some.inj h
      subst h
      exact zR_iret (x := (0 : Int32)) dX4_timeLeftOf_23 rfl rfl
    · have h := zif_f h c2
      refine zR_icmp_ge_f (tgt := 22) dX4_timeLeftOf_10 (by decide) c2 ?_
      refine zR_aload_n dX4_timeLeftOf_13 0 rfl ?_
      refine zG_getR dX4_timeLeftOf_14 zf_X4_15 zd_82 rfl rfl ?_
      refine zR_iload_n dX4_timeLeftOf_17 1 rfl ?_
      obtain ⟨g3, h⟩ := zchk_some h
      refine zG_iald dX4_timeLeftOf_18 zd_84 rfl rfl g3 ?_
      refine zR_goto (tgt := 23) dX4_timeLeftOf_19 (by decide) ?_
      have h := Option.some.inj h
      subst h
      exact zR_iret (x := (zA V6 20 (x1).toNatClampNeg)) dX4_timeLeftOf_23 rfl rfl
set_option maxRecDepth 100000 in
set_option maxHeartbeats 4000000 in
theorem mX7_unit_6 {w : zW} (F : Nat) (V0 V1 V2 V3 V4 V5 V6 V7 : zV) (x0 : Int32) (x1 : Int32) (x3 : Int32) (x4 : Int32) (res : Int32) (h : fX7_unit F V6 x0 x1 x3 x4 = some res) : zMet w kX7_unit 0 0 0 [.int x0, .int x1, .ref (w.1 + 65), .int x3, .int x4] (zE zds w [V0, V1, V2, V3, V4, V5, V6, V7]) (some (.int res)) (zE zds w [V0, V1, V2, V3, V4, V5, V6, V7]) := by
  refine zMet_of (by decide) (Nat.le_of_ble_eq_true rfl) (Nat.le_refl 0) fun _ => ?_
  show zR w kX7_unit 0 0 0 (some (.int res)) (zE zds w [V0, V1, V2, V3, V4, V5, V6, V7]) 0 [(0, .int x0), (1, .int x1), (2, .ref (w.1 + 65)), (3, .int x3), (4, .int x4)] [] (zE zds w [V0, V1, V2, V3, V4, V5, V6, V7])
  unfold fX7_unit at h
  refine zR_iload_n dX7_unit_0 0 rfl ?_
  by_cases c1 : x0 = (25 : Int32)
  · have h := zif_t h c1
    refine zR_tabc (tgt := 46) dX7_unit_1 c1 rfl (by decide) ?_
    refine zR_iload_n dX7_unit_46 3 rfl ?_
    have h := Option.some.inj h
    subst h
    exact zR_iret (x := x3) dX7_unit_47 rfl rfl
  · have h := zif_f h c1
    by_cases c2 : x0 = (26 : Int32)
    · have h := zif_t h c2
      refine zR_tabc (tgt := 48) dX7_unit_1 c2 rfl (by decide) ?_
      refine zR_iload dX7_unit_48 4 rfl ?_
      have h := Option.some.inj h
      subst h
      exact zR_iret (x := x4) dX7_unit_50 rfl rfl
    · have h := zif_f h c2
      by_cases c3 : x0 = (27 : Int32)
      · have h := zif_t h c3
        refine zR_tabc (tgt := 28) dX7_unit_1 c3 rfl (by decide) ?_
        refine zR_iload_n dX7_unit_28 1 rfl ?_
        by_cases c4 : x1 < 0
        · have h := zif_t h c4
          refine zR_if_lt_t (tgt := 44) dX7_unit_29 (by decide) c4 ?_
          refine zR_iconst (x := (0 : Int32)) dX7_unit_44 rfl ?_
          have h := Option.some.inj h
          subst h
          exact zR_iret (x := (0 : Int32)) dX7_unit_45 rfl rfl
        · have h := zif_f h c4
          refine zR_if_lt_f (tgt := 44) dX7_unit_29 (by decide) c4 ?_
          refine zR_iload_n dX7_unit_32 1 rfl ?_
          refine zR_aload_n dX7_unit_33 2 rfl ?_
          refine zG_alen (u := (16 : Int32)) dX7_unit_34 zd_65 (Nat.le_of_ble_eq_true rfl) rfl rfl rfl ?_
          by_cases c5 : (16 : Int32) ≤ x1
          · have h := zif_t h c5
            refine zR_icmp_ge_t (tgt := 44) dX7_unit_35 (by decide) c5 ?_
            refine zR_iconst (x := (0 : Int32)) dX7_unit_44 rfl ?_
            have h := Option.some.inj h
            subst h
            exact zR_iret (x := (0 : Int32)) dX7_unit_45 rfl rfl
          · have h := zif_f h c5
            refine zR_icmp_ge_f (tgt := 44) dX7_unit_35 (by decide) c5 ?_
            refine zR_aload_n dX7_unit_38 2 rfl ?_
            refine zR_iload_n dX7_unit_39 1 rfl ?_
            obtain ⟨g6, h⟩ := zchk_some h
            refine zG_iald dX7_unit_40 zd_65 rfl rfl g6 ?_
            refine zR_goto (tgt := 45) dX7_unit_41 (by decide) ?_
            have h := Option.some.inj h
            subst h
            exact zR_iret (x := (zA V6 1 (x1).toNatClampNeg)) dX7_unit_45 rfl rfl
      · have h := zif_f h c3
        refine zR_tabO (tgt := 51) dX7_unit_1 (by have u25 := zne c1 (n := 25) rfl; have u26 := zne c2 (n := 26) rfl; have u27 := zne c3 (n := 27) rfl; omega) (by decide) ?_
        refine zR_iload_n dX7_unit_51 1 rfl ?_
        have h := Option.some.inj h
        subst h
        exact zR_iret (x := x1) dX7_unit_52 rfl rfl
set_option maxRecDepth 100000 in
set_option maxHeartbeats 4000000 in
theorem wX7_work_6_b257 {w : zW} (F : Nat) (k19 : zV → zV → Int32 → Int32 → Int32 → Int32 → Int32 → Int32 → Int32 → Option (Int32 × zV)) (hk19 : ∀ (V0 V1 V2 V3 V4 V5 V6 V7 : zV) (x3 : Int32) (x4 : Int32) (x5 : Int32) (x6 : Int32) (x7 : Int32) (x8 : Int32) (x9 : Int32) (res : Int32 × zV), k19 V4 V6 x3 x4 x5 x6 x7 x8 x9 = some res → zR w kX7_work 1 0 0 (some (.int res.1)) (zE zds w [V0, V1, V2, V3, V4, V5, res.2, V7]) 19 [(0, .ref (w.1 + 66)), (2, .ref (w.1 + 65)), (3, .int x3), (4, .int x4), (5, .int x5), (6, .int x6), (7, .int x7), (8, .int x8), (9, .int x9)] [] (zE zds w [V0, V1, V2, V3, V4, V5, V6, V7])) (V0 V1 V2 V3 V4 V5 V6 V7 : zV) (x3 : Int32) (x4 : Int32) (x5 : Int32) (x6 : Int32) (x7 : Int32) (x8 : Int32) (x9 : Int32) (res : Int32 × zV) (h : fX7_work_b257 F k19 V4 V6 x3 x4 x5 x6 x7 x8 x9 = some res) : zR w kX7_work 1 0 0 (some (.int res.1)) (zE zds w [V0, V1, V2, V3, V4, V5, res.2, V7]) 257 [(0, .ref (w.1 + 66)), (2, .ref (w.1 + 65)), (3, .int x3), (4, .int x4), (5, .int x5), (6, .int x6), (7, .int x7), (8, .int x8), (9, .int x9)] [] (zE zds w [V0, V1, V2, V3, V4, V5, V6, V7]) := by
  unfold fX7_work_b257 at h
  refine zR_iinc (u := (x9 + 1)) (lv' := [(0, .ref (w.1 + 66)), (2, .ref (w.1 + 65)), (3, .int x3), (4, .int x4), (5, .int x5), (6, .int x6), (7, .int x7), (8, .int x8), (9, .int (x9 + 1))]) dX7_work_257 8 rfl rfl (Nat.le_of_ble_eq_true rfl) rfl ?_
  refine zR_goto (tgt := 19) dX7_work_260 (by decide) ?_
  exact hk19 V0 V1 V2 V3 V4 V5 V6 V7 x3 x4 x5 x6 x7 x8 (x9 + 1) _ h
set_option maxRecDepth 100000 in
set_option maxHeartbeats 4000000 in
theorem wX7_work_6_b215 {w : zW} (F : Nat) (k19 : zV → zV → Int32 → Int32 → Int32 → Int32 → Int32 → Int32 → Int32 → Option (Int32 × zV)) (hk19 : ∀ (V0 V1 V2 V3 V4 V5 V6 V7 : zV) (x3 : Int32) (x4 : Int32) (x5 : Int32) (x6 : Int32) (x7 : Int32) (x8 : Int32) (x9 : Int32) (res : Int32 × zV), k19 V4 V6 x3 x4 x5 x6 x7 x8 x9 = some res → zR w kX7_work 1 0 0 (some (.int res.1)) (zE zds w [V0, V1, V2, V3, V4, V5, res.2, V7]) 19 [(0, .ref (w.1 + 66)), (2, .ref (w.1 + 65)), (3, .int x3), (4, .int x4), (5, .int x5), (6, .int x6), (7, .int x7), (8, .int x8), (9, .int x9)] [] (zE zds w [V0, V1, V2, V3, V4, V5, V6, V7])) (V0 V1 V2 V3 V4 V5 V6 V7 : zV) (x3 : Int32) (x4 : Int32) (x5 : Int32) (x6 : Int32) (x7 : Int32) (x9 : Int32) (x10 : Int32) (res : Int32 × zV) (h : fX7_work_b215 F k19 V4 V6 x3 x4 x5 x6 x7 x9 x10 = some res) : zR w kX7_work 1 0 0 (some (.int res.1)) (zE zds w [V0, V1, V2, V3, V4, V5, res.2, V7]) 215 [(0, .ref (w.1 + 66)), (2, .ref (w.1 + 65)), (3, .int x3), (4, .int x4), (5, .int x5), (6, .int x6), (7, .int x7), (9, .int x9), (10, .int x10)] [] (zE zds w [V0, V1, V2, V3, V4, V5, V6, V7]) := by
  unfold fX7_work_b215 at h
  refine zR_iload dX7_work_215 6 rfl ?_
  refine zR_iload dX7_work_217 8 rfl ?_
  refine zR_aload_n dX7_work_219 0 rfl ?_
  refine zG_getR dX7_work_220 zf_X7_22 zd_66 rfl rfl ?_
  refine zR_iload dX7_work_223 7 rfl ?_
  obtain ⟨q1, hq2, h⟩ := zbd_some h
  refine zR_cV (rest := [.int x10, .int x7]) (st1 := [.int q1, .int x10, .int x7]) dX7_work_225 (mX6_numberAt F V0 V1 V2 V3 V4 V5 V6 V7 x9 _ hq2) zc_X7_42 rfl (zE_at zd_28) ⟨_, _, rfl⟩ rfl (Nat.le_of_ble_eq_true rfl) (Nat.le_of_ble_eq_true rfl) rfl ?_
  refine zR_aload_n dX7_work_228 1 rfl ?_
  refine zR_iload_n dX7_work_229 2 rfl ?_
  refine zR_iload dX7_work_230 3 rfl ?_
  obtain ⟨q3, hq4, h⟩ := zbd_some h
  refine zR_cS (rest := [.int x7]) (st1 := [.int q3, .int x7]) dX7_work_232 (mX7_unit_6 F V0 V1 V2 V3 V4 V5 V6 V7 x10 q1 x3 x4 _ hq4) zc_X7_45 rfl rfl (Nat.le_of_ble_eq_true rfl) (Nat.le_of_ble_eq_true rfl) rfl ?_
  refine zR_imul dX7_work_235 ?_
  refine zR_istore (lv' := [(0, .ref (w.1 + 66)), (2, .ref (w.1 + 65)), (3, .int x3), (4, .int x4), (5, .int x5), (6, .int x6), (7, .int (x7 * q3)), (9, .int x9), (10, .int x10)]) dX7_work_236 (Nat.le_of_ble_eq_true rfl) rfl ?_
  refine zR_iconst (x := (0 : Int32)) dX7_work_238 rfl ?_
  refine zR_istore (lv' := [(0, .ref (w.1 + 66)), (2, .ref (w.1 + 65)), (3, .int x3), (4, .int x4), (5, .int x5), (6, .int x6), (7, .int (x7 * q3)), (9, .int x9), (10, .int x10), (8, .int (0 : Int32))]) dX7_work_239 (Nat.le_of_ble_eq_true rfl) rfl ?_
  refine zR_goto (tgt := 257) dX7_work_241 (by decide) ?_
  refine zR_sub (lv' := [(0, .ref (w.1 + 66)), (2, .ref (w.1 + 65)), (3, .int x3), (4, .int x4), (5, .int x5), (6, .int x6), (7, .int (x7 * q3)), (8, .int (0 : Int32)), (9, .int x9)]) [0, 1, 2, 3, 4, 5, 6, 9, 7] rfl ?_
  exact wX7_work_6_b257 F k19 hk19 V0 V1 V2 V3 V4 V5 V6 V7 x3 x4 x5 x6 (x7 * q3) (0 : Int32) x9 _ h
set_option maxRecDepth 100000 in
set_option maxHeartbeats 4000000 in
theorem wX7_work_6_b182 {w : zW} (F : Nat) (k19 : zV → zV → Int32 → Int32 → Int32 → Int32 → Int32 → Int32 → Int32 → Option (Int32 × zV)) (hk19 : ∀ (V0 V1 V2 V3 V4 V5 V6 V7 : zV) (x3 : Int32) (x4 : Int32) (x5 : Int32) (x6 : Int32) (x7 : Int32) (x8 : Int32) (x9 : Int32) (res : Int32 × zV), k19 V4 V6 x3 x4 x5 x6 x7 x8 x9 = some res → zR w kX7_work 1 0 0 (some (.int res.1)) (zE zds w [V0, V1, V2, V3, V4, V5, res.2, V7]) 19 [(0, .ref (w.1 + 66)), (2, .ref (w.1 + 65)), (3, .int x3), (4, .int x4), (5, .int x5), (6, .int x6), (7, .int x7), (8, .int x8), (9, .int x9)] [] (zE zds w [V0, V1, V2, V3, V4, V5, V6, V7])) (V0 V1 V2 V3 V4 V5 V6 V7 : zV) (x3 : Int32) (x4 : Int32) (x5 : Int32) (x6 : Int32) (x8 : Int32) (x9 : Int32) (s0 : Int32) (res : Int32 × zV) (h : fX7_work_b182 F k19 V4 V6 x3 x4 x5 x6 x8 x9 s0 = some res) : zR w kX7_work 1 0 0 (some (.int res.1)) (zE zds w [V0, V1, V2, V3, V4, V5, res.2, V7]) 182 [(0, .ref (w.1 + 66)), (2, .ref (w.1 + 65)), (3, .int x3), (4, .int x4), (5, .int x5), (6, .int x6), (8, .int x8), (9, .int x9)] [.int s0] (zE zds w [V0, V1, V2, V3, V4, V5, V6, V7]) := by
  unfold fX7_work_b182 at h
  refine zR_istore (lv' := [(0, .ref (w.1 + 66)), (2, .ref (w.1 + 65)), (3, .int x3), (4, .int x4), (5, .int x5), (6, .int x6), (8, .int x8), (9, .int x9), (7, .int s0)]) dX7_work_182 (Nat.le_of_ble_eq_true rfl) rfl ?_
  refine zR_goto (tgt := 257) dX7_work_184 (by decide) ?_
  refine zR_sub (lv' := [(0, .ref (w.1 + 66)), (2, .ref (w.1 + 65)), (3, .int x3), (4, .int x4), (5, .int x5), (6, .int x6), (7, .int s0), (8, .int x8), (9, .int x9)]) [0, 1, 2, 3, 4, 5, 8, 6, 7] rfl ?_
  exact wX7_work_6_b257 F k19 hk19 V0 V1 V2 V3 V4 V5 V6 V7 x3 x4 x5 x6 s0 x8 x9 _ h
set_option maxRecDepth 100000 in
set_option maxHeartbeats 4000000 in
theorem wX7_work_6_b167 {w : zW} (F : Nat) (k19 : zV → zV → Int32 → Int32 → Int32 → Int32 → Int32 → Int32 → Int32 → Option (Int32 × zV)) (hk19 : ∀ (V0 V1 V2 V3 V4 V5 V6 V7 : zV) (x3 : Int32) (x4 : Int32) (x5 : Int32) (x6 : Int32) (x7 : Int32) (x8 : Int32) (x9 : Int32) (res : Int32 × zV), k19 V4 V6 x3 x4 x5 x6 x7 x8 x9 = some res → zR w kX7_work 1 0 0 (some (.int res.1)) (zE zds w [V0, V1, V2, V3, V4, V5, res.2, V7]) 19 [(0, .ref (w.1 + 66)), (2, .ref (w.1 + 65)), (3, .int x3), (4, .int x4), (5, .int x5), (6, .int x6), (7, .int x7), (8, .int x8), (9, .int x9)] [] (zE zds w [V0, V1, V2, V3, V4, V5, V6, V7])) (V0 V1 V2 V3 V4 V5 V6 V7 : zV) (x3 : Int32) (x4 : Int32) (x5 : Int32) (x8 : Int32) (x9 : Int32) (x10 : Int32) (s0 : Int32) (s1 : Int32) (res : Int32 × zV) (h : fX7_work_b167 F k19 V4 V6 x3 x4 x5 x8 x9 x10 s0 s1 = some res) : zR w kX7_work 1 0 0 (some (.int res.1)) (zE zds w [V0, V1, V2, V3, V4, V5, res.2, V7]) 167 [(0, .ref (w.1 + 66)), (2, .ref (w.1 + 65)), (3, .int x3), (4, .int x4), (5, .int x5), (8, .int x8), (9, .int x9), (10, .int x10)] [.int s1, .int s0] (zE zds w [V0, V1, V2, V3, V4, V5, V6, V7]) := by
  unfold fX7_work_b167 at h
  refine zR_iadd dX7_work_167 ?_
  refine zR_istore (lv' := [(0, .ref (w.1 + 66)), (2, .ref (w.1 + 65)), (3, .int x3), (4, .int x4), (5, .int x5), (8, .int x8), (9, .int x9), (10, .int x10), (6, .int (s0 + s1))]) dX7_work_168 (Nat.le_of_ble_eq_true rfl) rfl ?_
  refine zR_iload dX7_work_170 7 rfl ?_
  refine zR_bipush (x := (34 : Int32)) dX7_work_172 rfl ?_
  by_cases c5 : x10 = (34 : Int32)
  · have h := zif_t h c5
    refine zR_icmp_ne_f (tgt := 181) dX7_work_174 (by decide) c5 ?_
    refine zR_iconst (x := (1 : Int32)) dX7_work_177 rfl ?_
    refine zR_goto (tgt := 182) dX7_work_178 (by decide) ?_
    refine zR_sub (lv' := [(0, .ref (w.1 + 66)), (2, .ref (w.1 + 65)), (3, .int x3), (4, .int x4), (5, .int x5), (6, .int (s0 + s1)), (8, .int x8), (9, .int x9)]) [0, 1, 2, 3, 4, 8, 5, 6] rfl ?_
    exact wX7_work_6_b182 F k19 hk19 V0 V1 V2 V3 V4 V5 V6 V7 x3 x4 x5 (s0 + s1) x8 x9 (1 : Int32) _ h
  · have h := zif_f h c5
    refine zR_icmp_ne_t (tgt := 181) dX7_work_174 (by decide) c5 ?_
    refine zR_iconst (x := (-1 : Int32)) dX7_work_181 (by decide) ?_
    refine zR_sub (lv' := [(0, .ref (w.1 + 66)), (2, .ref (w.1 + 65)), (3, .int x3), (4, .int x4), (5, .int x5), (6, .int (s0 + s1)), (8, .int x8), (9, .int x9)]) [0, 1, 2, 3, 4, 8, 5, 6] rfl ?_
    exact wX7_work_6_b182 F k19 hk19 V0 V1 V2 V3 V4 V5 V6 V7 x3 x4 x5 (s0 + s1) x8 x9 (-1 : Int32) _ h
set_option maxRecDepth 100000 in
set_option maxHeartbeats 4000000 in
theorem wX7_work_6_b154 {w : zW} (F : Nat) (k19 : zV → zV → Int32 → Int32 → Int32 → Int32 → Int32 → Int32 → Int32 → Option (Int32 × zV)) (hk19 : ∀ (V0 V1 V2 V3 V4 V5 V6 V7 : zV) (x3 : Int32) (x4 : Int32) (x5 : Int32) (x6 : Int32) (x7 : Int32) (x8 : Int32) (x9 : Int32) (res : Int32 × zV), k19 V4 V6 x3 x4 x5 x6 x7 x8 x9 = some res → zR w kX7_work 1 0 0 (some (.int res.1)) (zE zds w [V0, V1, V2, V3, V4, V5, res.2, V7]) 19 [(0, .ref (w.1 + 66)), (2, .ref (w.1 + 65)), (3, .int x3), (4, .int x4), (5, .int x5), (6, .int x6), (7, .int x7), (8, .int x8), (9, .int x9)] [] (zE zds w [V0, V1, V2, V3, V4, V5, V6, V7])) (V0 V1 V2 V3 V4 V5 V6 V7 : zV) (x3 : Int32) (x4 : Int32) (x5 : Int32) (x6 : Int32) (x7 : Int32) (x8 : Int32) (x9 : Int32) (x10 : Int32) (res : Int32 × zV) (h : fX7_work_b154 F k19 V4 V6 x3 x4 x5 x6 x7 x8 x9 x10 = some res) : zR w kX7_work 1 0 0 (some (.int res.1)) (zE zds w [V0, V1, V2, V3, V4, V5, res.2, V7]) 154 [(0, .ref (w.1 + 66)), (2, .ref (w.1 + 65)), (3, .int x3), (4, .int x4), (5, .int x5), (6, .int x6), (7, .int x7), (8, .int x8), (9, .int x9), (10, .int x10)] [] (zE zds w [V0, V1, V2, V3, V4, V5, V6, V7]) := by
  unfold fX7_work_b154 at h
  refine zR_iload dX7_work_154 5 rfl ?_
  refine zR_iload dX7_work_156 7 rfl ?_
  by_cases c6 : x8 = 0
  · have h := zif_t h c6
    refine zR_if_eq_t (tgt := 165) dX7_work_158 (by decide) c6 ?_
    refine zR_iload dX7_work_165 6 rfl ?_
    refine zR_sub (lv' := [(0, .ref (w.1 + 66)), (2, .ref (w.1 + 65)), (3, .int x3), (4, .int x4), (5, .int x5), (8, .int x8), (9, .int x9), (10, .int x10)]) [0, 1, 2, 3, 4, 7, 8, 9] rfl ?_
    exact wX7_work_6_b167 F k19 hk19 V0 V1 V2 V3 V4 V5 V6 V7 x3 x4 x5 x8 x9 x10 x6 x7 _ h
  · have h := zif_f h c6
    refine zR_if_eq_f (tgt := 165) dX7_work_158 (by decide) c6 ?_
    refine zR_iconst (x := (0 : Int32)) dX7_work_161 rfl ?_
    refine zR_goto (tgt := 167) dX7_work_162 (by decide) ?_
    refine zR_sub (lv' := [(0, .ref (w.1 + 66)), (2, .ref (w.1 + 65)), (3, .int x3), (4, .int x4), (5, .int x5), (8, .int x8), (9, .int x9), (10, .int x10)]) [0, 1, 2, 3, 4, 7, 8, 9] rfl ?_
    exact wX7_work_6_b167 F k19 hk19 V0 V1 V2 V3 V4 V5 V6 V7 x3 x4 x5 x8 x9 x10 x6 (0 : Int32) _ h
set_option maxRecDepth 100000 in
set_option maxHeartbeats 4000000 in
theorem wX7_work_6_b140 {w : zW} (F : Nat) (k19 : zV → zV → Int32 → Int32 → Int32 → Int32 → Int32 → Int32 → Int32 → Option (Int32 × zV)) (hk19 : ∀ (V0 V1 V2 V3 V4 V5 V6 V7 : zV) (x3 : Int32) (x4 : Int32) (x5 : Int32) (x6 : Int32) (x7 : Int32) (x8 : Int32) (x9 : Int32) (res : Int32 × zV), k19 V4 V6 x3 x4 x5 x6 x7 x8 x9 = some res → zR w kX7_work 1 0 0 (some (.int res.1)) (zE zds w [V0, V1, V2, V3, V4, V5, res.2, V7]) 19 [(0, .ref (w.1 + 66)), (2, .ref (w.1 + 65)), (3, .int x3), (4, .int x4), (5, .int x5), (6, .int x6), (7, .int x7), (8, .int x8), (9, .int x9)] [] (zE zds w [V0, V1, V2, V3, V4, V5, V6, V7])) (V0 V1 V2 V3 V4 V5 V6 V7 : zV) (x3 : Int32) (x4 : Int32) (x5 : Int32) (x6 : Int32) (x7 : Int32) (x8 : Int32) (x9 : Int32) (x10 : Int32) (res : Int32 × zV) (h : fX7_work_b140 F k19 V4 V6 x3 x4 x5 x6 x7 x8 x9 x10 = some res) : zR w kX7_work 1 0 0 (some (.int res.1)) (zE zds w [V0, V1, V2, V3, V4, V5, res.2, V7]) 140 [(0, .ref (w.1 + 66)), (2, .ref (w.1 + 65)), (3, .int x3), (4, .int x4), (5, .int x5), (6, .int x6), (7, .int x7), (8, .int x8), (9, .int x9), (10, .int x10)] [] (zE zds w [V0, V1, V2, V3, V4, V5, V6, V7]) := by
  unfold fX7_work_b140 at h
  refine zR_iload dX7_work_140 9 rfl ?_
  refine zR_bipush (x := (34 : Int32)) dX7_work_142 rfl ?_
  by_cases c7 : x10 = (34 : Int32)
  · have h := zif_t h c7
    refine zR_icmp_eq_t (tgt := 154) dX7_work_144 (by decide) c7 ?_
    exact wX7_work_6_b154 F k19 hk19 V0 V1 V2 V3 V4 V5 V6 V7 x3 x4 x5 x6 x7 x8 x9 x10 _ h
  · have h := zif_f h c7
    refine zR_icmp_eq_f (tgt := 154) dX7_work_144 (by decide) c7 ?_
    refine zR_iload dX7_work_147 9 rfl ?_
    refine zR_bipush (x := (35 : Int32)) dX7_work_149 rfl ?_
    by_cases c8 : x10 = (35 : Int32)
    · have h := zif_t h c8
      refine zR_icmp_ne_f (tgt := 187) dX7_work_151 (by decide) c8 ?_
      exact wX7_work_6_b154 F k19 hk19 V0 V1 V2 V3 V4 V5 V6 V7 x3 x4 x5 x6 x7 x8 x9 x10 _ h
    · have h := zif_f h c8
      refine zR_icmp_ne_t (tgt := 187) dX7_work_151 (by decide) c8 ?_
      refine zR_iload dX7_work_187 9 rfl ?_
      refine zR_bipush (x := (28 : Int32)) dX7_work_189 rfl ?_
      by_cases c9 : x10 = (28 : Int32)
      · have h := zif_t h c9
        refine zR_icmp_eq_t (tgt := 215) dX7_work_191 (by decide) c9 ?_
        refine zR_sub (lv' := [(0, .ref (w.1 + 66)), (2, .ref (w.1 + 65)), (3, .int x3), (4, .int x4), (5, .int x5), (6, .int x6), (7, .int x7), (9, .int x9), (10, .int x10)]) [0, 1, 2, 3, 4, 5, 6, 8, 9] rfl ?_
        exact wX7_work_6_b215 F k19 hk19 V0 V1 V2 V3 V4 V5 V6 V7 x3 x4 x5 x6 x7 x9 x10 _ h
      · have h := zif_f h c9
        refine zR_icmp_eq_f (tgt := 215) dX7_work_191 (by decide) c9 ?_
        refine zR_iload dX7_work_194 9 rfl ?_
        refine zR_bipush (x := (27 : Int32)) dX7_work_196 rfl ?_
        by_cases c10 : x10 = (27 : Int32)
        · have h := zif_t h c10
          refine zR_icmp_eq_t (tgt := 215) dX7_work_198 (by decide) c10 ?_
          refine zR_sub (lv' := [(0, .ref (w.1 + 66)), (2, .ref (w.1 + 65)), (3, .int x3), (4, .int x4), (5, .int x5), (6, .int x6), (7, .int x7), (9, .int x9), (10, .int x10)]) [0, 1, 2, 3, 4, 5, 6, 8, 9] rfl ?_
          exact wX7_work_6_b215 F k19 hk19 V0 V1 V2 V3 V4 V5 V6 V7 x3 x4 x5 x6 x7 x9 x10 _ h
        · have h := zif_f h c10
          refine zR_icmp_eq_f (tgt := 215) dX7_work_198 (by decide) c10 ?_
          refine zR_iload dX7_work_201 9 rfl ?_
          refine zR_bipush (x := (25 : Int32)) dX7_work_203 rfl ?_
          by_cases c11 : x10 = (25 : Int32)
          · have h := zif_t h c11
            refine zR_icmp_eq_t (tgt := 215) dX7_work_205 (by decide) c11 ?_
            refine zR_sub (lv' := [(0, .ref (w.1 + 66)), (2, .ref (w.1 + 65)), (3, .int x3), (4, .int x4), (5, .int x5), (6, .int x6), (7, .int x7), (9, .int x9), (10, .int x10)]) [0, 1, 2, 3, 4, 5, 6, 8, 9] rfl ?_
            exact wX7_work_6_b215 F k19 hk19 V0 V1 V2 V3 V4 V5 V6 V7 x3 x4 x5 x6 x7 x9 x10 _ h
          · have h := zif_f h c11
            refine zR_icmp_eq_f (tgt := 215) dX7_work_205 (by decide) c11 ?_
            refine zR_iload dX7_work_208 9 rfl ?_
            refine zR_bipush (x := (26 : Int32)) dX7_work_210 rfl ?_
            by_cases c12 : x10 = (26 : Int32)
            · have h := zif_t h c12
              refine zR_icmp_ne_f (tgt := 244) dX7_work_212 (by decide) c12 ?_
              refine zR_sub (lv' := [(0, .ref (w.1 + 66)), (2, .ref (w.1 + 65)), (3, .int x3), (4, .int x4), (5, .int x5), (6, .int x6), (7, .int x7), (9, .int x9), (10, .int x10)]) [0, 1, 2, 3, 4, 5, 6, 8, 9] rfl ?_
              exact wX7_work_6_b215 F k19 hk19 V0 V1 V2 V3 V4 V5 V6 V7 x3 x4 x5 x6 x7 x9 x10 _ h
            · have h := zif_f h c12
              refine zR_icmp_ne_t (tgt := 244) dX7_work_212 (by decide) c12 ?_
              refine zR_iload dX7_work_244 9 rfl ?_
              refine zR_bipush (x := (36 : Int32)) dX7_work_246 rfl ?_
              by_cases c13 : x10 = (36 : Int32)
              · have h := zif_t h c13
                refine zR_icmp_eq_t (tgt := 257) dX7_work_248 (by decide) c13 ?_
                refine zR_sub (lv' := [(0, .ref (w.1 + 66)), (2, .ref (w.1 + 65)), (3, .int x3), (4, .int x4), (5, .int x5), (6, .int x6), (7, .int x7), (8, .int x8), (9, .int x9)]) [0, 1, 2, 3, 4, 5, 6, 7, 8] rfl ?_
                exact wX7_work_6_b257 F k19 hk19 V0 V1 V2 V3 V4 V5 V6 V7 x3 x4 x5 x6 x7 x8 x9 _ h
              · have h := zif_f h c13
                refine zR_icmp_eq_f (tgt := 257) dX7_work_248 (by decide) c13 ?_
                refine zR_iload dX7_work_251 5 rfl ?_
                refine zR_iload dX7_work_253 6 rfl ?_
                refine zR_iadd dX7_work_255 ?_
                have h := Option.some.inj h
                subst h
                exact zR_iret (x := (x6 + x7)) dX7_work_256 rfl rfl
set_option maxRecDepth 100000 in
set_option maxHeartbeats 4000000 in
theorem wX7_work_6_b98 {w : zW} (F : Nat) (k19 : zV → zV → Int32 → Int32 → Int32 → Int32 → Int32 → Int32 → Int32 → Option (Int32 × zV)) (hk19 : ∀ (V0 V1 V2 V3 V4 V5 V6 V7 : zV) (x3 : Int32) (x4 : Int32) (x5 : Int32) (x6 : Int32) (x7 : Int32) (x8 : Int32) (x9 : Int32) (res : Int32 × zV), k19 V4 V6 x3 x4 x5 x6 x7 x8 x9 = some res → zR w kX7_work 1 0 0 (some (.int res.1)) (zE zds w [V0, V1, V2, V3, V4, V5, res.2, V7]) 19 [(0, .ref (w.1 + 66)), (2, .ref (w.1 + 65)), (3, .int x3), (4, .int x4), (5, .int x5), (6, .int x6), (7, .int x7), (8, .int x8), (9, .int x9)] [] (zE zds w [V0, V1, V2, V3, V4, V5, V6, V7])) (V0 V1 V2 V3 V4 V5 V6 V7 : zV) (x3 : Int32) (x4 : Int32) (x5 : Int32) (x6 : Int32) (x7 : Int32) (x8 : Int32) (x9 : Int32) (x10 : Int32) (res : Int32 × zV) (h : fX7_work_b98 F k19 V4 V6 x3 x4 x5 x6 x7 x8 x9 x10 = some res) : zR w kX7_work 1 0 0 (some (.int res.1)) (zE zds w [V0, V1, V2, V3, V4, V5, res.2, V7]) 98 [(0, .ref (w.1 + 66)), (2, .ref (w.1 + 65)), (3, .int x3), (4, .int x4), (5, .int x5), (6, .int x6), (7, .int x7), (8, .int x8), (9, .int x9), (10, .int x10)] [] (zE zds w [V0, V1, V2, V3, V4, V5, V6, V7]) := by
  unfold fX7_work_b98 at h
  refine zR_iload dX7_work_98 9 rfl ?_
  refine zR_bipush (x := (33 : Int32)) dX7_work_100 rfl ?_
  by_cases c14 : x10 = (33 : Int32)
  · have h := zif_t h c14
    refine zR_icmp_ne_f (tgt := 140) dX7_work_102 (by decide) c14 ?_
    refine zR_iload dX7_work_105 4 rfl ?_
    by_cases c15 : x5 ≤ 0
    · have h := zif_t h c15
      refine zR_if_le_t (tgt := 140) dX7_work_107 (by decide) c15 ?_
      exact wX7_work_6_b140 F k19 hk19 V0 V1 V2 V3 V4 V5 V6 V7 x3 x4 x5 x6 x7 x8 x9 x10 _ h
    · have h := zif_f h c15
      refine zR_if_le_f (tgt := 140) dX7_work_107 (by decide) c15 ?_
      refine zR_iinc (u := (x5 + (-1))) (lv' := [(0, .ref (w.1 + 66)), (2, .ref (w.1 + 65)), (3, .int x3), (4, .int x4), (5, .int (x5 + (-1))), (6, .int x6), (7, .int x7), (8, .int x8), (9, .int x9), (10, .int x10)]) dX7_work_110 4 rfl (by rw [show Int32.ofInt (-1) = (-1 : Int32) from by decide]) (Nat.le_of_ble_eq_true rfl) rfl ?_
      refine zR_aload_n dX7_work_113 0 rfl ?_
      refine zG_getR dX7_work_114 zf_X7_15 zd_66 rfl rfl ?_
      refine zR_iload dX7_work_117 4 rfl ?_
      obtain ⟨g16, h⟩ := zchk_some h
      refine zG_iald dX7_work_119 zd_68 rfl rfl g16 ?_
      refine zR_iload dX7_work_120 5 rfl ?_
      refine zR_iload dX7_work_122 6 rfl ?_
      refine zR_iadd dX7_work_124 ?_
      refine zR_imul dX7_work_125 ?_
      obtain ⟨y17, e18, h⟩ := zlet_some h
      refine zR_nmI e18 ?_
      refine zR_istore (lv' := [(0, .ref (w.1 + 66)), (2, .ref (w.1 + 65)), (3, .int x3), (4, .int x4), (5, .int (x5 + (-1))), (6, .int x6), (7, .int y17), (8, .int x8), (9, .int x9), (10, .int x10)]) dX7_work_126 (Nat.le_of_ble_eq_true rfl) rfl ?_
      refine zR_aload_n dX7_work_128 0 rfl ?_
      refine zG_getR dX7_work_129 zf_X7_9 zd_66 rfl rfl ?_
      refine zR_iload dX7_work_132 4 rfl ?_
      obtain ⟨g19, h⟩ := zchk_some h
      refine zG_iald dX7_work_134 zd_67 rfl rfl g19 ?_
      obtain ⟨y20, e21, h⟩ := zlet_some h
      refine zR_nmI e21 ?_
      refine zR_istore (lv' := [(0, .ref (w.1 + 66)), (2, .ref (w.1 + 65)), (3, .int x3), (4, .int x4), (5, .int (x5 + (-1))), (6, .int y20), (7, .int y17), (8, .int x8), (9, .int x9), (10, .int x10)]) dX7_work_135 (Nat.le_of_ble_eq_true rfl) rfl ?_
      refine zR_goto (tgt := 257) dX7_work_137 (by decide) ?_
      refine zR_sub (lv' := [(0, .ref (w.1 + 66)), (2, .ref (w.1 + 65)), (3, .int x3), (4, .int x4), (5, .int (x5 + (-1))), (6, .int y20), (7, .int y17), (8, .int x8), (9, .int x9)]) [0, 1, 2, 3, 4, 5, 6, 7, 8] rfl ?_
      exact wX7_work_6_b257 F k19 hk19 V0 V1 V2 V3 V4 V5 V6 V7 x3 x4 (x5 + (-1)) y20 y17 x8 x9 _ h
  · have h := zif_f h c14
    refine zR_icmp_ne_t (tgt := 140) dX7_work_102 (by decide) c14 ?_
    exact wX7_work_6_b140 F k19 hk19 V0 V1 V2 V3 V4 V5 V6 V7 x3 x4 x5 x6 x7 x8 x9 x10 _ h
set_option maxRecDepth 100000 in
set_option maxHeartbeats 4000000 in
theorem wX7_work_6_l19 {w : zW} (F : Nat) : ∀ (n : Nat) (V0 V1 V2 V3 V4 V5 V6 V7 : zV) (x3 : Int32) (x4 : Int32) (x5 : Int32) (x6 : Int32) (x7 : Int32) (x8 : Int32) (x9 : Int32) (res : Int32 × zV), fX7_work_l19 F n V4 V6 x3 x4 x5 x6 x7 x8 x9 = some res → zR w kX7_work 1 0 0 (some (.int res.1)) (zE zds w [V0, V1, V2, V3, V4, V5, res.2, V7]) 19 [(0, .ref (w.1 + 66)), (2, .ref (w.1 + 65)), (3, .int x3), (4, .int x4), (5, .int x5), (6, .int x6), (7, .int x7), (8, .int x8), (9, .int x9)] [] (zE zds w [V0, V1, V2, V3, V4, V5, V6, V7]) := by
  intro n
  induction n with
  | zero =>
    intro V0 V1 V2 V3 V4 V5 V6 V7 x3 x4 x5 x6 x7 x8 x9 res h
    simp [fX7_work_l19] at h
  | succ n ih =>
    intro V0 V1 V2 V3 V4 V5 V6 V7 x3 x4 x5 x6 x7 x8 x9 res h
    rw [fX7_work_l19] at h
    refine zR_iload dX7_work_19 8 rfl ?_
    refine zR_aload_n dX7_work_21 0 rfl ?_
    refine zG_getR dX7_work_22 zf_X7_22 zd_66 rfl rfl ?_
    obtain ⟨q22, hq23, h⟩ := zbd_some h
    refine zR_cV (rest := [.int x9]) (st1 := [.int q22, .int x9]) dX7_work_25 (mX6_size F V0 V1 V2 V3 V4 V5 V6 V7 _ hq23) zc_X7_32 rfl (zE_at zd_28) ⟨_, _, rfl⟩ rfl (Nat.le_of_ble_eq_true rfl) (Nat.le_of_ble_eq_true rfl) rfl ?_
    by_cases c24 : q22 ≤ x9
    · have h := zif_t h c24
      refine zR_icmp_ge_t (tgt := 263) dX7_work_28 (by decide) c24 ?_
      refine zR_iload dX7_work_263 5 rfl ?_
      refine zR_iload dX7_work_265 6 rfl ?_
      refine zR_iadd dX7_work_267 ?_
      have h := Option.some.inj h
      subst h
      exact zR_iret (x := (x6 + x7)) dX7_work_268 rfl rfl
    · have h := zif_f h c24
      refine zR_icmp_ge_f (tgt := 263) dX7_work_28 (by decide) c24 ?_
      refine zR_aload_n dX7_work_31 0 rfl ?_
      refine zR_iload dX7_work_32 8 rfl ?_
      obtain ⟨V6_25, e26, h⟩ := zlet_some h
      refine zG_putI zds_ok dX7_work_34 zf_X7_18 zt_X7_3 zd_66 rfl rfl e26 rfl ?_
      refine zR_aload_n dX7_work_37 0 rfl ?_
      refine zG_getR dX7_work_38 zf_X7_22 zd_66 rfl rfl ?_
      refine zR_iload dX7_work_41 8 rfl ?_
      obtain ⟨q27, hq28, h⟩ := zbd_some h
      refine zR_cV (rest := []) (st1 := [.int q27]) dX7_work_43 (mX6_kindAt F V0 V1 V2 V3 V4 V5 V6_25 V7 x9 _ hq28) zc_X7_38 rfl (zE_at zd_28) ⟨_, _, rfl⟩ rfl (Nat.le_of_ble_eq_true rfl) (Nat.le_of_ble_eq_true rfl) rfl ?_
      refine zR_istore (lv' := [(0, .ref (w.1 + 66)), (2, .ref (w.1 + 65)), (3, .int x3), (4, .int x4), (5, .int x5), (6, .int x6), (7, .int x7), (8, .int x8), (9, .int x9), (10, .int q27)]) dX7_work_46 (Nat.le_of_ble_eq_true rfl) rfl ?_
      refine zR_iload dX7_work_48 9 rfl ?_
      refine zR_bipush (x := (32 : Int32)) dX7_work_50 rfl ?_
      by_cases c29 : q27 = (32 : Int32)
      · have h := zif_t h c29
        refine zR_icmp_ne_f (tgt := 98) dX7_work_52 (by decide) c29 ?_
        refine zR_iload dX7_work_55 4 rfl ?_
        refine zR_aload_n dX7_work_57 0 rfl ?_
        refine zG_getR dX7_work_58 zf_X7_9 zd_66 rfl rfl ?_
        refine zG_alen (u := (6 : Int32)) dX7_work_61 zd_67 (Nat.le_of_ble_eq_true rfl) rfl rfl rfl ?_
        by_cases c30 : (6 : Int32) ≤ x5
        · have h := zif_t h c30
          refine zR_icmp_ge_t (tgt := 98) dX7_work_62 (by decide) c30 ?_
          exact wX7_work_6_b98 F (fX7_work_l19 F n) ih V0 V1 V2 V3 V4 V5 V6_25 V7 x3 x4 x5 x6 x7 x8 x9 q27 _ h
        · have h := zif_f h c30
          refine zR_icmp_ge_f (tgt := 98) dX7_work_62 (by decide) c30 ?_
          refine zR_aload_n dX7_work_65 0 rfl ?_
          refine zG_getR dX7_work_66 zf_X7_9 zd_66 rfl rfl ?_
          refine zR_iload dX7_work_69 4 rfl ?_
          refine zR_iload dX7_work_71 5 rfl ?_
          obtain ⟨g31, h⟩ := zchk_some h
          obtain ⟨V6_32, e33, h⟩ := zlet_some h
          refine zG_iast zds_ok dX7_work_73 zd_67 rfl rfl g31 e33 rfl ?_
          refine zR_aload_n dX7_work_74 0 rfl ?_
          refine zG_getR dX7_work_75 zf_X7_15 zd_66 rfl rfl ?_
          refine zR_iload dX7_work_78 4 rfl ?_
          refine zR_iload dX7_work_80 6 rfl ?_
          obtain ⟨g34, h⟩ := zchk_some h
          obtain ⟨V6_35, e36, h⟩ := zlet_some h
          refine zG_iast zds_ok dX7_work_82 zd_68 rfl rfl g34 e36 rfl ?_
          refine zR_iinc (u := (x5 + 1)) (lv' := [(0, .ref (w.1 + 66)), (2, .ref (w.1 + 65)), (3, .int x3), (4, .int x4), (5, .int (x5 + 1)), (6, .int x6), (7, .int x7), (8, .int x8), (9, .int x9), (10, .int q27)]) dX7_work_83 4 rfl rfl (Nat.le_of_ble_eq_true rfl) rfl ?_
          refine zR_iconst (x := (0 : Int32)) dX7_work_86 rfl ?_
          refine zR_istore (lv' := [(0, .ref (w.1 + 66)), (2, .ref (w.1 + 65)), (3, .int x3), (4, .int x4), (5, .int (x5 + 1)), (6, .int (0 : Int32)), (7, .int x7), (8, .int x8), (9, .int x9), (10, .int q27)]) dX7_work_87 (Nat.le_of_ble_eq_true rfl) rfl ?_
          refine zR_iconst (x := (1 : Int32)) dX7_work_89 rfl ?_
          refine zR_istore (lv' := [(0, .ref (w.1 + 66)), (2, .ref (w.1 + 65)), (3, .int x3), (4, .int x4), (5, .int (x5 + 1)), (6, .int (0 : Int32)), (7, .int (1 : Int32)), (8, .int x8), (9, .int x9), (10, .int q27)]) dX7_work_90 (Nat.le_of_ble_eq_true rfl) rfl ?_
          refine zR_iconst (x := (1 : Int32)) dX7_work_92 rfl ?_
          refine zR_istore (lv' := [(0, .ref (w.1 + 66)), (2, .ref (w.1 + 65)), (3, .int x3), (4, .int x4), (5, .int (x5 + 1)), (6, .int (0 : Int32)), (7, .int (1 : Int32)), (8, .int (1 : Int32)), (9, .int x9), (10, .int q27)]) dX7_work_93 (Nat.le_of_ble_eq_true rfl) rfl ?_
          refine zR_goto (tgt := 257) dX7_work_95 (by decide) ?_
          refine zR_sub (lv' := [(0, .ref (w.1 + 66)), (2, .ref (w.1 + 65)), (3, .int x3), (4, .int x4), (5, .int (x5 + 1)), (6, .int (0 : Int32)), (7, .int (1 : Int32)), (8, .int (1 : Int32)), (9, .int x9)]) [0, 1, 2, 3, 4, 5, 6, 7, 8] rfl ?_
          exact wX7_work_6_b257 F (fX7_work_l19 F n) ih V0 V1 V2 V3 V4 V5 V6_35 V7 x3 x4 (x5 + 1) (0 : Int32) (1 : Int32) (1 : Int32) x9 _ h
      · have h := zif_f h c29
        refine zR_icmp_ne_t (tgt := 98) dX7_work_52 (by decide) c29 ?_
        exact wX7_work_6_b98 F (fX7_work_l19 F n) ih V0 V1 V2 V3 V4 V5 V6_25 V7 x3 x4 x5 x6 x7 x8 x9 q27 _ h
set_option maxRecDepth 100000 in
set_option maxHeartbeats 4000000 in
theorem mX7_work_6 {w : zW} (F : Nat) (V0 V1 V2 V3 V4 V5 V6 V7 : zV) (x1 : Int32) (x3 : Int32) (x4 : Int32) (res : Int32 × zV) (h : fX7_work F V4 V6 x1 x3 x4 = some res) : zMet w kX7_work 1 0 0 [.ref (w.1 + 66), .int x1, .ref (w.1 + 65), .int x3, .int x4] (zE zds w [V0, V1, V2, V3, V4, V5, V6, V7]) (some (.int res.1)) (zE zds w [V0, V1, V2, V3, V4, V5, res.2, V7]) := by
  refine zMet_of (by decide) (Nat.le_of_ble_eq_true rfl) (Nat.le_refl 0) fun _ => ?_
  show zR w kX7_work 1 0 0 (some (.int res.1)) (zE zds w [V0, V1, V2, V3, V4, V5, res.2, V7]) 0 [(0, .ref (w.1 + 66)), (1, .int x1), (2, .ref (w.1 + 65)), (3, .int x3), (4, .int x4)] [] (zE zds w [V0, V1, V2, V3, V4, V5, V6, V7])
  unfold fX7_work at h
  refine zR_iconst (x := (0 : Int32)) dX7_work_0 rfl ?_
  refine zR_istore (lv' := [(0, .ref (w.1 + 66)), (1, .int x1), (2, .ref (w.1 + 65)), (3, .int x3), (4, .int x4), (5, .int (0 : Int32))]) dX7_work_1 (Nat.le_of_ble_eq_true rfl) rfl ?_
  refine zR_iconst (x := (0 : Int32)) dX7_work_3 rfl ?_
  refine zR_istore (lv' := [(0, .ref (w.1 + 66)), (1, .int x1), (2, .ref (w.1 + 65)), (3, .int x3), (4, .int x4), (5, .int (0 : Int32)), (6, .int (0 : Int32))]) dX7_work_4 (Nat.le_of_ble_eq_true rfl) rfl ?_
  refine zR_iconst (x := (1 : Int32)) dX7_work_6 rfl ?_
  refine zR_istore (lv' := [(0, .ref (w.1 + 66)), (1, .int x1), (2, .ref (w.1 + 65)), (3, .int x3), (4, .int x4), (5, .int (0 : Int32)), (6, .int (0 : Int32)), (7, .int (1 : Int32))]) dX7_work_7 (Nat.le_of_ble_eq_true rfl) rfl ?_
  refine zR_iconst (x := (1 : Int32)) dX7_work_9 rfl ?_
  refine zR_istore (lv' := [(0, .ref (w.1 + 66)), (1, .int x1), (2, .ref (w.1 + 65)), (3, .int x3), (4, .int x4), (5, .int (0 : Int32)), (6, .int (0 : Int32)), (7, .int (1 : Int32)), (8, .int (1 : Int32))]) dX7_work_10 (Nat.le_of_ble_eq_true rfl) rfl ?_
  refine zR_iconst (x := (0 : Int32)) dX7_work_12 rfl ?_
  refine zR_iload_n dX7_work_13 1 rfl ?_
  refine zR_mmax dX7_work_14 zmw_X7_26 (Nat.le_of_ble_eq_true rfl) (Nat.le_of_ble_eq_true rfl) ?_
  obtain ⟨y37, e38, h⟩ := zlet_some h
  refine zR_nmI e38 ?_
  refine zR_istore (lv' := [(0, .ref (w.1 + 66)), (1, .int x1), (2, .ref (w.1 + 65)), (3, .int x3), (4, .int x4), (5, .int (0 : Int32)), (6, .int (0 : Int32)), (7, .int (1 : Int32)), (8, .int (1 : Int32)), (9, .int y37)]) dX7_work_17 (Nat.le_of_ble_eq_true rfl) rfl ?_
  refine zR_sub (lv' := [(0, .ref (w.1 + 66)), (2, .ref (w.1 + 65)), (3, .int x3), (4, .int x4), (5, .int (0 : Int32)), (6, .int (0 : Int32)), (7, .int (1 : Int32)), (8, .int (1 : Int32)), (9, .int y37)]) [0, 2, 3, 4, 5, 6, 7, 8, 9] rfl ?_
  exact wX7_work_6_l19 F F V0 V1 V2 V3 V4 V5 V6 V7 x3 x4 (0 : Int32) (0 : Int32) (1 : Int32) (1 : Int32) y37 _ h
set_option maxRecDepth 100000 in
set_option maxHeartbeats 4000000 in
theorem mX1_work_6 {w : zW} (F : Nat) (V0 V1 V2 V3 V4 V5 V6 V7 : zV) (x1 : Int32) (x2 : Int32) (res : Int32 × zV) (h : fX1_work F V4 V6 x1 x2 = some res) : zMet w kX1_work 2 0 0 [.ref (w.1 + 64), .int x1, .int x2] (zE zds w [V0, V1, V2, V3, V4, V5, V6, V7]) (some (.int res.1)) (zE zds w [V0, V1, V2, V3, V4, V5, res.2, V7]) := by
  refine zMet_of (by decide) (Nat.le_of_ble_eq_true rfl) (Nat.le_refl 0) fun _ => ?_
  show zR w kX1_work 2 0 0 (some (.int res.1)) (zE zds w [V0, V1, V2, V3, V4, V5, res.2, V7]) 0 [(0, .ref (w.1 + 64)), (1, .int x1), (2, .int x2)] [] (zE zds w [V0, V1, V2, V3, V4, V5, V6, V7])
  unfold fX1_work at h
  refine zR_aload_n dX1_work_0 0 rfl ?_
  refine zG_getR dX1_work_1 zf_X1_55 zd_64 rfl rfl ?_
  refine zR_iload_n dX1_work_4 1 rfl ?_
  refine zR_aload_n dX1_work_5 0 rfl ?_
  refine zG_getR dX1_work_6 zf_X1_9 zd_64 rfl rfl ?_
  refine zR_aload_n dX1_work_9 0 rfl ?_
  refine zG_getR dX1_work_10 zf_X1_87 zd_64 rfl rfl ?_
  refine zR_iload_n dX1_work_13 2 rfl ?_
  obtain ⟨q1, hq2, h⟩ := zbd_some h
  refine zR_cV (rest := [.ref (w.1 + 65), .int x1, .ref (w.1 + 66)]) (st1 := [.int q1, .ref (w.1 + 65), .int x1, .ref (w.1 + 66)]) dX1_work_14 (mX4_timeLeftOf_6 F V0 V1 V2 V3 V4 V5 V6 V7 x2 _ hq2) zc_X1_210 rfl (zE_at zd_82) ⟨_, _, rfl⟩ rfl (Nat.le_of_ble_eq_true rfl) (Nat.le_of_ble_eq_true rfl) rfl ?_
  refine zR_aload_n dX1_work_17 0 rfl ?_
  refine zG_getR dX1_work_18 zf_X1_80 zd_64 rfl rfl ?_
  refine zG_getI dX1_work_21 zf_X1_150 zd_78 rfl rfl ?_
  obtain ⟨q3, hq4, h⟩ := zbd_some h
  refine zR_cV (rest := []) (st1 := [.int q3.1]) dX1_work_24 (mX7_work_6 F V0 V1 V2 V3 V4 V5 V6 V7 x1 q1 (zI V6 14 7) _ hq4) zc_X1_213 rfl (zE_at zd_66) ⟨_, _, rfl⟩ rfl (Nat.le_of_ble_eq_true rfl) (Nat.le_of_ble_eq_true rfl) rfl ?_
  have h := Option.some.inj h
  subst h
  exact zR_iret (x := q3.1) dX1_work_27 rfl rfl
set_option maxRecDepth 100000 in
set_option maxHeartbeats 4000000 in
theorem wX1_holds_6_b111 {w : zW} (F : Nat) (k12 : zV → zV → Int32 → Int32 → Int32 → Option (Int32 × zV)) (hk12 : ∀ (V0 V1 V2 V3 V4 V5 V6 V7 : zV) (x2 : Int32) (x3 : Int32) (x4 : Int32) (res : Int32 × zV), k12 V4 V6 x2 x3 x4 = some res → zR w kX1_holds 3 0 0 (some (.int res.1)) (zE zds w [V0, V1, V2, V3, V4, V5, res.2, V7]) 12 [(0, .ref (w.1 + 64)), (2, .int x2), (3, .int x3), (4, .int x4)] [] (zE zds w [V0, V1, V2, V3, V4, V5, V6, V7])) (V0 V1 V2 V3 V4 V5 V6 V7 : zV) (x2 : Int32) (x4 : Int32) (s0 : Int32) (res : Int32 × zV) (h : fX1_holds_b111 F k12 V4 V6 x2 x4 s0 = some res) : zR w kX1_holds 3 0 0 (some (.int res.1)) (zE zds w [V0, V1, V2, V3, V4, V5, res.2, V7]) 111 [(0, .ref (w.1 + 64)), (2, .int x2), (4, .int x4)] [.int s0] (zE zds w [V0, V1, V2, V3, V4, V5, V6, V7]) := by
  unfold fX1_holds_b111 at h
  refine zR_istore_n (lv' := [(0, .ref (w.1 + 64)), (2, .int x2), (4, .int x4), (3, .int s0)]) dX1_holds_111 (Nat.le_of_ble_eq_true rfl) rfl ?_
  refine zR_iinc (u := (x4 + 1)) (lv' := [(0, .ref (w.1 + 64)), (2, .int x2), (4, .int (x4 + 1)), (3, .int s0)]) dX1_holds_112 2 rfl rfl (Nat.le_of_ble_eq_true rfl) rfl ?_
  refine zR_goto (tgt := 12) dX1_holds_115 (by decide) ?_
  refine zR_sub (lv' := [(0, .ref (w.1 + 64)), (2, .int x2), (3, .int s0), (4, .int (x4 + 1))]) [0, 1, 3, 2] rfl ?_
  exact hk12 V0 V1 V2 V3 V4 V5 V6 V7 x2 s0 (x4 + 1) _ h
set_option maxRecDepth 100000 in
set_option maxHeartbeats 4000000 in
theorem wX1_holds_6_l12 {w : zW} (F : Nat) : ∀ (n : Nat) (V0 V1 V2 V3 V4 V5 V6 V7 : zV) (x2 : Int32) (x3 : Int32) (x4 : Int32) (res : Int32 × zV), fX1_holds_l12 F n V4 V6 x2 x3 x4 = some res → zR w kX1_holds 3 0 0 (some (.int res.1)) (zE zds w [V0, V1, V2, V3, V4, V5, res.2, V7]) 12 [(0, .ref (w.1 + 64)), (2, .int x2), (3, .int x3), (4, .int x4)] [] (zE zds w [V0, V1, V2, V3, V4, V5, V6, V7]) := by
  intro n
  induction n with
  | zero =>
    intro V0 V1 V2 V3 V4 V5 V6 V7 x2 x3 x4 res h
    simp [fX1_holds_l12] at h
  | succ n ih =>
    intro V0 V1 V2 V3 V4 V5 V6 V7 x2 x3 x4 res h
    rw [fX1_holds_l12] at h
    refine zR_iload dX1_holds_12 3 rfl ?_
    refine zR_sipush (x := (1000 : Int32)) dX1_holds_14 rfl ?_
    by_cases c1 : (1000 : Int32) < x4
    · have h := zif_t h c1
      refine zR_icmp_gt_t (tgt := 118) dX1_holds_17 (by decide) c1 ?_
      refine zR_iconst (x := (1 : Int32)) dX1_holds_118 rfl ?_
      have h := Option.some.inj h
      subst h
      exact zR_iret (x := (1 : Int32)) dX1_holds_119 rfl znar1
    · have h := zif_f h c1
      refine zR_icmp_gt_f (tgt := 118) dX1_holds_17 (by decide) c1 ?_
      refine zR_iload_n dX1_holds_20 2 rfl ?_
      refine zR_iconst (x := (-1 : Int32)) dX1_holds_21 (by decide) ?_
      by_cases c2 : x3 = (-1 : Int32)
      · have h := zif_t h c2
        refine zR_icmp_eq_t (tgt := 118) dX1_holds_22 (by decide) c2 ?_
        refine zR_iconst (x := (1 : Int32)) dX1_holds_118 rfl ?_
        have h := Option.some.inj h
        subst h
        exact zR_iret (x := (1 : Int32)) dX1_holds_119 rfl znar1
      · have h := zif_f h c2
        refine zR_icmp_eq_f (tgt := 118) dX1_holds_22 (by decide) c2 ?_
        refine zR_aload_n dX1_holds_25 0 rfl ?_
        refine zR_iload_n dX1_holds_26 2 rfl ?_
        refine zR_iload_n dX1_holds_27 1 rfl ?_
        obtain ⟨q3, hq4, h⟩ := zbd_some h
        refine zR_cV (rest := []) (st1 := [.int q3.1]) dX1_holds_28 (mX1_work_6 F V0 V1 V2 V3 V4 V5 V6 V7 x3 x2 _ hq4) zc_X1_187 rfl (zE_at zd_64) ⟨_, _, rfl⟩ rfl (Nat.le_of_ble_eq_true rfl) (Nat.le_of_ble_eq_true rfl) rfl ?_
        refine zR_istore (lv' := [(0, .ref (w.1 + 64)), (2, .int x2), (3, .int x3), (4, .int x4), (5, .int q3.1)]) dX1_holds_31 (Nat.le_of_ble_eq_true rfl) rfl ?_
        refine zR_aload_n dX1_holds_33 0 rfl ?_
        refine zG_getR dX1_holds_34 zf_X1_49 zd_64 rfl rfl ?_
        refine zR_aload_n dX1_holds_37 0 rfl ?_
        refine zG_getR dX1_holds_38 zf_X1_55 zd_64 rfl rfl ?_
        refine zG_getI dX1_holds_41 zf_X1_219 zd_66 rfl rfl ?_
        obtain ⟨q5, hq6, h⟩ := zbd_some h
        refine zR_cV (rest := []) (st1 := [.int q5]) dX1_holds_44 (mX6_kindAt F V0 V1 V2 V3 V4 V5 q3.2 V7 (zI q3.2 2 3) _ hq6) zc_X1_181 rfl (zE_at zd_28) ⟨_, _, rfl⟩ rfl (Nat.le_of_ble_eq_true rfl) (Nat.le_of_ble_eq_true rfl) rfl ?_
        refine zR_istore (lv' := [(0, .ref (w.1 + 64)), (2, .int x2), (3, .int x3), (4, .int x4), (5, .int q3.1), (6, .int q5)]) dX1_holds_47 (Nat.le_of_ble_eq_true rfl) rfl ?_
        refine zR_aload_n dX1_holds_49 0 rfl ?_
        refine zR_aload_n dX1_holds_50 0 rfl ?_
        refine zG_getR dX1_holds_51 zf_X1_55 zd_64 rfl rfl ?_
        refine zG_getI dX1_holds_54 zf_X1_219 zd_66 rfl rfl ?_
        refine zR_iconst (x := (1 : Int32)) dX1_holds_57 rfl ?_
        refine zR_iadd dX1_holds_58 ?_
        refine zR_iload_n dX1_holds_59 1 rfl ?_
        obtain ⟨q7, hq8, h⟩ := zbd_some h
        refine zR_cV (rest := []) (st1 := [.int q7.1]) dX1_holds_60 (mX1_work_6 F V0 V1 V2 V3 V4 V5 q3.2 V7 ((zI q3.2 2 3) + (1 : Int32)) x2 _ hq8) zc_X1_187 rfl (zE_at zd_64) ⟨_, _, rfl⟩ rfl (Nat.le_of_ble_eq_true rfl) (Nat.le_of_ble_eq_true rfl) rfl ?_
        refine zR_istore (lv' := [(0, .ref (w.1 + 64)), (2, .int x2), (3, .int x3), (4, .int x4), (5, .int q3.1), (6, .int q5), (7, .int q7.1)]) dX1_holds_63 (Nat.le_of_ble_eq_true rfl) rfl ?_
        refine zR_iload dX1_holds_65 4 rfl ?_
        refine zR_iload dX1_holds_67 5 rfl ?_
        refine zR_iload dX1_holds_69 6 rfl ?_
        obtain ⟨q9, hq10, h⟩ := zbd_some h
        refine zR_cS (rest := []) (st1 := [.int q9]) dX1_holds_71 (mX1_compares F (zE zds w [V0, V1, V2, V3, V4, V5, q7.2, V7]) q3.1 q5 q7.1 _ hq10) zc_X1_222 rfl rfl (Nat.le_of_ble_eq_true rfl) (Nat.le_of_ble_eq_true rfl) rfl ?_
        by_cases c11 : q9 = 0
        · have h := zif_t h c11
          refine zR_if_ne_f (tgt := 79) dX1_holds_74 (by decide) c11 ?_
          refine zR_iconst (x := (0 : Int32)) dX1_holds_77 rfl ?_
          have h := Option.some.inj h
          subst h
          exact zR_iret (x := (0 : Int32)) dX1_holds_78 rfl znar0
        · have h := zif_f h c11
          refine zR_if_ne_t (tgt := 79) dX1_holds_74 (by decide) c11 ?_
          refine zR_aload_n dX1_holds_79 0 rfl ?_
          refine zG_getR dX1_holds_80 zf_X1_49 zd_64 rfl rfl ?_
          refine zR_aload_n dX1_holds_83 0 rfl ?_
          refine zG_getR dX1_holds_84 zf_X1_55 zd_64 rfl rfl ?_
          refine zG_getI dX1_holds_87 zf_X1_219 zd_66 rfl rfl ?_
          obtain ⟨q12, hq13, h⟩ := zbd_some h
          refine zR_cV (rest := []) (st1 := [.int q12]) dX1_holds_90 (mX6_kindAt F V0 V1 V2 V3 V4 V5 q7.2 V7 (zI q7.2 2 3) _ hq13) zc_X1_181 rfl (zE_at zd_28) ⟨_, _, rfl⟩ rfl (Nat.le_of_ble_eq_true rfl) (Nat.le_of_ble_eq_true rfl) rfl ?_
          refine zR_bipush (x := (15 : Int32)) dX1_holds_93 rfl ?_
          by_cases c14 : q12 = (15 : Int32)
          · have h := zif_t h c14
            refine zR_icmp_ne_f (tgt := 110) dX1_holds_95 (by decide) c14 ?_
            refine zR_aload_n dX1_holds_98 0 rfl ?_
            refine zG_getR dX1_holds_99 zf_X1_55 zd_64 rfl rfl ?_
            refine zG_getI dX1_holds_102 zf_X1_219 zd_66 rfl rfl ?_
            refine zR_iconst (x := (1 : Int32)) dX1_holds_105 rfl ?_
            refine zR_iadd dX1_holds_106 ?_
            refine zR_goto (tgt := 111) dX1_holds_107 (by decide) ?_
            refine zR_sub (lv' := [(0, .ref (w.1 + 64)), (2, .int x2), (4, .int x4)]) [0, 1, 3] rfl ?_
            exact wX1_holds_6_b111 F (fX1_holds_l12 F n) ih V0 V1 V2 V3 V4 V5 q7.2 V7 x2 x4 ((zI q7.2 2 3) + (1 : Int32)) _ h
          · have h := zif_f h c14
            refine zR_icmp_ne_t (tgt := 110) dX1_holds_95 (by decide) c14 ?_
            refine zR_iconst (x := (-1 : Int32)) dX1_holds_110 (by decide) ?_
            refine zR_sub (lv' := [(0, .ref (w.1 + 64)), (2, .int x2), (4, .int x4)]) [0, 1, 3] rfl ?_
            exact wX1_holds_6_b111 F (fX1_holds_l12 F n) ih V0 V1 V2 V3 V4 V5 q7.2 V7 x2 x4 (-1 : Int32) _ h
set_option maxRecDepth 100000 in
set_option maxHeartbeats 4000000 in
theorem mX1_holds_6 {w : zW} (F : Nat) (V0 V1 V2 V3 V4 V5 V6 V7 : zV) (x1 : Int32) (x2 : Int32) (res : Int32 × zV) (h : fX1_holds F V4 V6 x1 x2 = some res) : zMet w kX1_holds 3 0 0 [.ref (w.1 + 64), .int x1, .int x2] (zE zds w [V0, V1, V2, V3, V4, V5, V6, V7]) (some (.int res.1)) (zE zds w [V0, V1, V2, V3, V4, V5, res.2, V7]) := by
  refine zMet_of (by decide) (Nat.le_of_ble_eq_true rfl) (Nat.le_refl 0) fun _ => ?_
  show zR w kX1_holds 3 0 0 (some (.int res.1)) (zE zds w [V0, V1, V2, V3, V4, V5, res.2, V7]) 0 [(0, .ref (w.1 + 64)), (1, .int x1), (2, .int x2)] [] (zE zds w [V0, V1, V2, V3, V4, V5, V6, V7])
  unfold fX1_holds at h
  refine zR_aload_n dX1_holds_0 0 rfl ?_
  refine zG_getR dX1_holds_1 zf_X1_49 zd_64 rfl rfl ?_
  refine zR_iload_n dX1_holds_4 1 rfl ?_
  obtain ⟨q15, hq16, h⟩ := zbd_some h
  refine zR_cV (rest := []) (st1 := [.int q15]) dX1_holds_5 (mX6_condOf F V0 V1 V2 V3 V4 V5 V6 V7 x1 _ hq16) zc_X1_216 rfl (zE_at zd_28) ⟨_, _, rfl⟩ rfl (Nat.le_of_ble_eq_true rfl) (Nat.le_of_ble_eq_true rfl) rfl ?_
  refine zR_istore_n (lv' := [(0, .ref (w.1 + 64)), (1, .int x1), (2, .int x2), (3, .int q15)]) dX1_holds_8 (Nat.le_of_ble_eq_true rfl) rfl ?_
  refine zR_iconst (x := (0 : Int32)) dX1_holds_9 rfl ?_
  refine zR_istore (lv' := [(0, .ref (w.1 + 64)), (1, .int x1), (2, .int x2), (3, .int q15), (4, .int (0 : Int32))]) dX1_holds_10 (Nat.le_of_ble_eq_true rfl) rfl ?_
  refine zR_sub (lv' := [(0, .ref (w.1 + 64)), (2, .int x2), (3, .int q15), (4, .int (0 : Int32))]) [0, 2, 3, 4] rfl ?_
  exact wX1_holds_6_l12 F F V0 V1 V2 V3 V4 V5 V6 V7 x2 q15 (0 : Int32) _ h
set_option maxRecDepth 100000 in
set_option maxHeartbeats 4000000 in
theorem mX1_gain_6 {w : zW} (F : Nat) (V0 V1 V2 V3 V4 V5 V6 V7 : zV) (x1 : Int32) (res : zV) (h : fX1_gain F V6 x1 = some res) : zMet w kX1_gain 1 0 0 [.ref (w.1 + 64), .int x1] (zE zds w [V0, V1, V2, V3, V4, V5, V6, V7]) none (zE zds w [V0, V1, V2, V3, V4, V5, res, V7]) := by
  refine zMet_of (by decide) (Nat.le_of_ble_eq_true rfl) (Nat.le_refl 0) fun _ => ?_
  show zR w kX1_gain 1 0 0 none (zE zds w [V0, V1, V2, V3, V4, V5, res, V7]) 0 [(0, .ref (w.1 + 64)), (1, .int x1)] [] (zE zds w [V0, V1, V2, V3, V4, V5, V6, V7])
  unfold fX1_gain at h
  refine zR_aload_n dX1_gain_0 0 rfl ?_
  refine zG_getI dX1_gain_1 zf_X1_30 zd_64 rfl rfl ?_
  by_cases c1 : (zI V6 0 12) = 0
  · have h := zif_t h c1
    refine zR_if_ne_f (tgt := 22) dX1_gain_4 (by decide) c1 ?_
    refine zR_aload_n dX1_gain_7 0 rfl ?_
    refine zR_lconst (x := (0 : Int64)) dX1_gain_8 rfl ?_
    refine zR_aload_n dX1_gain_9 0 rfl ?_
    refine zG_getL dX1_gain_10 zf_X1_15 zd_64 rfl rfl ?_
    refine zR_iload_n dX1_gain_13 1 rfl ?_
    refine zR_i2l dX1_gain_14 ?_
    refine zR_ladd dX1_gain_15 ?_
    refine zR_mmaxL dX1_gain_16 zmw_X1_204 (Nat.le_of_ble_eq_true rfl) (Nat.le_of_ble_eq_true rfl) ?_
    obtain ⟨V6_2, e3, h⟩ := zlet_some h
    refine zG_putL zds_ok dX1_gain_19 zf_X1_15 zt_X1_8 zd_64 rfl rfl e3 rfl ?_
    have h := Option.some.inj h
    subst h
    exact zR_ret dX1_gain_22 rfl
  · have h := zif_f h c1
    refine zR_if_ne_t (tgt := 22) dX1_gain_4 (by decide) c1 ?_
    have h := Option.some.inj h
    subst h
    exact zR_ret dX1_gain_22 rfl
set_option maxRecDepth 100000 in
set_option maxHeartbeats 4000000 in
theorem mX1_assign_6 {w : zW} (F : Nat) (V0 V1 V2 V3 V4 V5 V6 V7 : zV) (x1 : Int32) (x2 : Int32) (res : zV) (h : fX1_assign F V6 x1 x2 = some res) : zMet w kX1_assign 0 0 0 [.ref (w.1 + 64), .int x1, .int x2] (zE zds w [V0, V1, V2, V3, V4, V5, V6, V7]) none (zE zds w [V0, V1, V2, V3, V4, V5, res, V7]) := by
  refine zMet_of (by decide) (Nat.le_of_ble_eq_true rfl) (Nat.le_refl 0) fun _ => ?_
  show zR w kX1_assign 0 0 0 none (zE zds w [V0, V1, V2, V3, V4, V5, res, V7]) 0 [(0, .ref (w.1 + 64)), (1, .int x1), (2, .int x2)] [] (zE zds w [V0, V1, V2, V3, V4, V5, V6, V7])
  unfold fX1_assign at h
  refine zR_iload_n dX1_assign_0 1 rfl ?_
  by_cases c1 : x1 < 0
  · have h := zif_t h c1
    refine zR_if_lt_t (tgt := 20) dX1_assign_1 (by decide) c1 ?_
    have h := Option.some.inj h
    subst h
    exact zR_ret dX1_assign_20 rfl
  · have h := zif_f h c1
    refine zR_if_lt_f (tgt := 20) dX1_assign_1 (by decide) c1 ?_
    refine zR_iload_n dX1_assign_4 1 rfl ?_
    refine zR_aload_n dX1_assign_5 0 rfl ?_
    refine zG_getR dX1_assign_6 zf_X1_9 zd_64 rfl rfl ?_
    refine zG_alen (u := (16 : Int32)) dX1_assign_9 zd_65 (Nat.le_of_ble_eq_true rfl) rfl rfl rfl ?_
    by_cases c2 : (16 : Int32) ≤ x1
    · have h := zif_t h c2
      refine zR_icmp_ge_t (tgt := 20) dX1_assign_10 (by decide) c2 ?_
      have h := Option.some.inj h
      subst h
      exact zR_ret dX1_assign_20 rfl
    · have h := zif_f h c2
      refine zR_icmp_ge_f (tgt := 20) dX1_assign_10 (by decide) c2 ?_
      refine zR_aload_n dX1_assign_13 0 rfl ?_
      refine zG_getR dX1_assign_14 zf_X1_9 zd_64 rfl rfl ?_
      refine zR_iload_n dX1_assign_17 1 rfl ?_
      refine zR_iload_n dX1_assign_18 2 rfl ?_
      obtain ⟨g3, h⟩ := zchk_some h
      obtain ⟨V6_4, e5, h⟩ := zlet_some h
      refine zG_iast zds_ok dX1_assign_19 zd_65 rfl rfl g3 e5 rfl ?_
      have h := Option.some.inj h
      subst h
      exact zR_ret dX1_assign_20 rfl
set_option maxRecDepth 100000 in
set_option maxHeartbeats 4000000 in
theorem mX4_isOn_6 {w : zW} (F : Nat) (V0 V1 V2 V3 V4 V5 V6 V7 : zV) (x1 : Int32) (res : Int32) (h : fX4_isOn F V6 x1 = some res) : zMet w kX4_isOn 0 0 0 [.ref (w.1 + 82), .int x1] (zE zds w [V0, V1, V2, V3, V4, V5, V6, V7]) (some (.int res)) (zE zds w [V0, V1, V2, V3, V4, V5, V6, V7]) := by
  refine zMet_of (by decide) (Nat.le_of_ble_eq_true rfl) (Nat.le_refl 0) fun _ => ?_
  show zR w kX4_isOn 0 0 0 (some (.int res)) (zE zds w [V0, V1, V2, V3, V4, V5, V6, V7]) 0 [(0, .ref (w.1 + 82)), (1, .int x1)] [] (zE zds w [V0, V1, V2, V3, V4, V5, V6, V7])
  unfold fX4_isOn at h
  refine zR_iload_n dX4_isOn_0 1 rfl ?_
  by_cases c1 : x1 < 0
  · have h := zif_t h c1
    refine zR_if_lt_t (tgt := 26) dX4_isOn_1 (by decide) c1 ?_
    refine zR_iconst (x := (0 : Int32)) dX4_isOn_26 rfl ?_
    have h := Option.some.inj h
    subst h
    exact zR_iret (x := (0 : Int32)) dX4_isOn_27 rfl znar0
  · have h := zif_f h c1
    refine zR_if_lt_f (tgt := 26) dX4_isOn_1 (by decide) c1 ?_
    refine zR_iload_n dX4_isOn_4 1 rfl ?_
    refine zR_aload_n dX4_isOn_5 0 rfl ?_
    refine zG_getR dX4_isOn_6 zf_X4_9 zd_82 rfl rfl ?_
    refine zG_alen (u := (12 : Int32)) dX4_isOn_9 zd_83 (Nat.le_of_ble_eq_true rfl) rfl rfl rfl ?_
    by_cases c2 : (12 : Int32) ≤ x1
    · have h := zif_t h c2
      refine zR_icmp_ge_t (tgt := 26) dX4_isOn_10 (by decide) c2 ?_
      refine zR_iconst (x := (0 : Int32)) dX4_isOn_26 rfl ?_
      have h := Option.some.inj h
      subst h
      exact zR_iret (x := (0 : Int32)) dX4_isOn_27 rfl znar0
    · have h := zif_f h c2
      refine zR_icmp_ge_f (tgt := 26) dX4_isOn_10 (by decide) c2 ?_
      refine zR_aload_n dX4_isOn_13 0 rfl ?_
      refine zG_getR dX4_isOn_14 zf_X4_9 zd_82 rfl rfl ?_
      refine zR_iload_n dX4_isOn_17 1 rfl ?_
      obtain ⟨g3, h⟩ := zchk_some h
      refine zG_zald dX4_isOn_18 zd_83 rfl rfl g3 ?_
      by_cases c4 : (zA V6 19 (x1).toNatClampNeg) = 0
      · have h := zif_t h c4
        refine zR_if_eq_t (tgt := 26) dX4_isOn_19 (by decide) c4 ?_
        refine zR_iconst (x := (0 : Int32)) dX4_isOn_26 rfl ?_
        have h := Option.some.inj h
        subst h
        exact zR_iret (x := (0 : Int32)) dX4_isOn_27 rfl znar0
      · have h := zif_f h c4
        refine zR_if_eq_f (tgt := 26) dX4_isOn_19 (by decide) c4 ?_
        refine zR_iconst (x := (1 : Int32)) dX4_isOn_22 rfl ?_
        refine zR_goto (tgt := 27) dX4_isOn_23 (by decide) ?_
        have h := Option.some.inj h
        subst h
        exact zR_iret (x := (1 : Int32)) dX4_isOn_27 rfl znar1
set_option maxRecDepth 100000 in
set_option maxHeartbeats 4000000 in
theorem wX4_turnOff_6_b56 {w : zW} (F : Nat) (V0 V1 V2 V3 V4 V5 V6 V7 : zV) (s1 : Int32) (s2 : Int32) (res : Int32 × zV) (h : fX4_turnOff_b56 F V4 V6 s1 s2 = some res) : zR w kX4_turnOff 1 0 0 (some (.int res.1)) (zE zds w [V0, V1, V2, V3, V4, V5, res.2, V7]) 56 [] [.int s2, .int s1, .ref (w.1 + 82)] (zE zds w [V0, V1, V2, V3, V4, V5, V6, V7]) := by
  unfold fX4_turnOff_b56 at h
  refine zR_isub dX4_turnOff_56 ?_
  obtain ⟨V6_1, e2, h⟩ := zlet_some h
  refine zG_putI zds_ok dX4_turnOff_57 zf_X4_28 zt_X4_6 zd_82 rfl rfl e2 rfl ?_
  refine zR_iconst (x := (1 : Int32)) dX4_turnOff_60 rfl ?_
  have h := Option.some.inj h
  subst h
  exact zR_iret (x := (1 : Int32)) dX4_turnOff_61 rfl znar1
set_option maxRecDepth 100000 in
set_option maxHeartbeats 4000000 in
theorem mX4_turnOff_6 {w : zW} (F : Nat) (V0 V1 V2 V3 V4 V5 V6 V7 : zV) (x1 : Int32) (res : Int32 × zV) (h : fX4_turnOff F V4 V6 x1 = some res) : zMet w kX4_turnOff 1 0 0 [.ref (w.1 + 82), .int x1] (zE zds w [V0, V1, V2, V3, V4, V5, V6, V7]) (some (.int res.1)) (zE zds w [V0, V1, V2, V3, V4, V5, res.2, V7]) := by
  refine zMet_of (by decide) (Nat.le_of_ble_eq_true rfl) (Nat.le_refl 0) fun _ => ?_
  show zR w kX4_turnOff 1 0 0 (some (.int res.1)) (zE zds w [V0, V1, V2, V3, V4, V5, res.2, V7]) 0 [(0, .ref (w.1 + 82)), (1, .int x1)] [] (zE zds w [V0, V1, V2, V3, V4, V5, V6, V7])
  unfold fX4_turnOff at h
  refine zR_aload_n dX4_turnOff_0 0 rfl ?_
  refine zR_iload_n dX4_turnOff_1 1 rfl ?_
  obtain ⟨q3, hq4, h⟩ := zbd_some h
  refine zR_cV (rest := []) (st1 := [.int q3]) dX4_turnOff_2 (mX4_isOn_6 F V0 V1 V2 V3 V4 V5 V6 V7 x1 _ hq4) zc_X4_48 rfl (zE_at zd_82) ⟨_, _, rfl⟩ rfl (Nat.le_of_ble_eq_true rfl) (Nat.le_of_ble_eq_true rfl) rfl ?_
  by_cases c5 : q3 = 0
  · have h := zif_t h c5
    refine zR_if_ne_f (tgt := 10) dX4_turnOff_5 (by decide) c5 ?_
    refine zR_iconst (x := (0 : Int32)) dX4_turnOff_8 rfl ?_
    have h := Option.some.inj h
    subst h
    exact zR_iret (x := (0 : Int32)) dX4_turnOff_9 rfl znar0
  · have h := zif_f h c5
    refine zR_if_ne_t (tgt := 10) dX4_turnOff_5 (by decide) c5 ?_
    refine zR_aload_n dX4_turnOff_10 0 rfl ?_
    refine zG_getR dX4_turnOff_11 zf_X4_9 zd_82 rfl rfl ?_
    refine zR_iload_n dX4_turnOff_14 1 rfl ?_
    refine zR_iconst (x := (0 : Int32)) dX4_turnOff_15 rfl ?_
    obtain ⟨g6, h⟩ := zchk_some h
    obtain ⟨V6_7, e8, h⟩ := zlet_some h
    refine zG_zast zds_ok dX4_turnOff_16 zd_83 rfl rfl g6 e8 rfl ?_
    refine zR_aload_n dX4_turnOff_17 0 rfl ?_
    refine zG_getR dX4_turnOff_18 zf_X4_15 zd_82 rfl rfl ?_
    refine zR_iload_n dX4_turnOff_21 1 rfl ?_
    refine zR_iconst (x := (0 : Int32)) dX4_turnOff_22 rfl ?_
    obtain ⟨g9, h⟩ := zchk_some h
    obtain ⟨V6_10, e11, h⟩ := zlet_some h
    refine zG_iast zds_ok dX4_turnOff_23 zd_84 rfl rfl g9 e11 rfl ?_
    refine zR_aload_n dX4_turnOff_24 0 rfl ?_
    refine zG_getR dX4_turnOff_25 zf_X4_22 zd_82 rfl rfl ?_
    refine zR_iload_n dX4_turnOff_28 1 rfl ?_
    refine zR_dup2 dX4_turnOff_29 rfl rfl ?_
    obtain ⟨g12, h⟩ := zchk_some h
    refine zG_iald dX4_turnOff_30 zd_86 rfl rfl g12 ?_
    refine zR_iconst (x := (1 : Int32)) dX4_turnOff_31 rfl ?_
    refine zR_iadd dX4_turnOff_32 ?_
    obtain ⟨g13, h⟩ := zchk_some h
    obtain ⟨V6_14, e15, h⟩ := zlet_some h
    refine zG_iast zds_ok dX4_turnOff_33 zd_86 rfl rfl g13 e15 rfl ?_
    refine zR_aload_n dX4_turnOff_34 0 rfl ?_
    refine zR_dup dX4_turnOff_35 rfl ?_
    refine zG_getI dX4_turnOff_36 zf_X4_28 zd_82 rfl rfl ?_
    refine zR_aload_n dX4_turnOff_39 0 rfl ?_
    refine zG_getR dX4_turnOff_40 zf_X4_32 zd_82 rfl rfl ?_
    refine zG_getR dX4_turnOff_43 zf_X4_45 zd_15 rfl rfl ?_
    refine zR_iload_n dX4_turnOff_46 1 rfl ?_
    obtain ⟨g16, h⟩ := zchk_some h
    refine zG_iald dX4_turnOff_47 zd_26 rfl rfl g16 ?_
    by_cases c17 : (zA V4 11 (x1).toNatClampNeg) ≤ 0
    · have h := zif_t h c17
      refine zR_if_le_t (tgt := 55) dX4_turnOff_48 (by decide) c17 ?_
      refine zR_iconst (x := (0 : Int32)) dX4_turnOff_55 rfl ?_
      refine zR_sub (lv' := []) [] rfl ?_
      exact wX4_turnOff_6_b56 F V0 V1 V2 V3 V4 V5 V6_14 V7 (zI V6_14 18 6) (0 : Int32) _ h
    · have h := zif_f h c17
      refine zR_if_le_f (tgt := 55) dX4_turnOff_48 (by decide) c17 ?_
      refine zR_iconst (x := (1 : Int32)) dX4_turnOff_51 rfl ?_
      refine zR_goto (tgt := 56) dX4_turnOff_52 (by decide) ?_
      refine zR_sub (lv' := []) [] rfl ?_
      exact wX4_turnOff_6_b56 F V0 V1 V2 V3 V4 V5 V6_14 V7 (zI V6_14 18 6) (1 : Int32) _ h
