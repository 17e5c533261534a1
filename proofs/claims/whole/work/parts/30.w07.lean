set_option maxRecDepth 100000 in
set_option maxHeartbeats 4000000 in
theorem wX12_oneTick_b120 {w : zW} (F : Nat) (k23 : zV → Int32 → Option (zV)) (hk23 : ∀ (V0 V1 V2 V3 V4 V5 V6 V7 : zV) (x1 : Int32) (res : zV), k23 V7 x1 = some res → zR w kX12_oneTick 5 0 0 none (zE zds w [V0, V1, V2, V3, V4, V5, V6, res]) 23 [(0, .ref (w.1 + 88)), (1, .int x1)] [] (zE zds w [V0, V1, V2, V3, V4, V5, V6, V7])) (V0 V1 V2 V3 V4 V5 V6 V7 : zV) (x1 : Int32) (res : zV) (h : fX12_oneTick_b120 F k23 V7 x1 = some res) : zR w kX12_oneTick 5 0 0 none (zE zds w [V0, V1, V2, V3, V4, V5, V6, res]) 120 [(0, .ref (w.1 + 88)), (1, .int x1)] [] (zE zds w [V0, V1, V2, V3, V4, V5, V6, V7]) := by
  unfold fX12_oneTick_b120 at h
  refine zR_iinc (u := (x1 + 1)) (lv' := [(0, .ref (w.1 + 88)), (1, .int (x1 + 1))]) dX12_oneTick_120 1 rfl rfl (Nat.le_of_ble_eq_true rfl) rfl ?_
  refine zR_goto (tgt := 23) dX12_oneTick_123 (by decide) ?_
  exact hk23 V0 V1 V2 V3 V4 V5 V6 V7 (x1 + 1) _ h
set_option maxRecDepth 100000 in
set_option maxHeartbeats 4000000 in
theorem wX12_oneTick_l23 {w : zW} (F : Nat) : ∀ (n : Nat) (V0 V1 V2 V3 V4 V5 V6 V7 : zV) (x1 : Int32) (res : zV), fX12_oneTick_l23 F n V7 x1 = some res → zR w kX12_oneTick 5 0 0 none (zE zds w [V0, V1, V2, V3, V4, V5, V6, res]) 23 [(0, .ref (w.1 + 88)), (1, .int x1)] [] (zE zds w [V0, V1, V2, V3, V4, V5, V6, V7]) := by
  intro n
  induction n with
  | zero =>
    intro V0 V1 V2 V3 V4 V5 V6 V7 x1 res h
    simp [fX12_oneTick_l23] at h
  | succ n ih =>
    intro V0 V1 V2 V3 V4 V5 V6 V7 x1 res h
    rw [fX12_oneTick_l23] at h
    refine zR_iload_n dX12_oneTick_23 1 rfl ?_
    refine zR_aload_n dX12_oneTick_24 0 rfl ?_
    refine zR_bipush (x := (7 : Int32)) dX12_oneTick_25 rfl ?_
    obtain ⟨q1, hq2, h⟩ := zbd_some h
    refine zR_cV (rest := [.int x1]) (st1 := [.int q1, .int x1]) dX12_oneTick_27 (mX12_sort F V0 V1 V2 V3 V4 V5 V6 V7 (7 : Int32) _ hq2) zc_X12_370 rfl (zE_at zd_88) ⟨_, _, rfl⟩ rfl (Nat.le_of_ble_eq_true rfl) (Nat.le_of_ble_eq_true rfl) rfl ?_
    by_cases c3 : q1 ≤ x1
    · have h := zif_t h c3
      refine zR_icmp_ge_t (tgt := 126) dX12_oneTick_30 (by decide) c3 ?_
      refine zR_aload_n dX12_oneTick_126 0 rfl ?_
      obtain ⟨q4, hq5, h⟩ := zbd_some h
      refine zR_cV (rest := []) (st1 := []) dX12_oneTick_127 (mX12_asksBall F V0 V1 V2 V3 V4 V5 V6 V7 _ hq5) zc_X12_433 rfl (zE_at zd_88) ⟨_, _, rfl⟩ rfl (Nat.le_of_ble_eq_true rfl) (Nat.le_of_ble_eq_true rfl) rfl ?_
      have h := Option.some.inj h
      subst h
      exact zR_ret dX12_oneTick_130 rfl
    · have h := zif_f h c3
      refine zR_icmp_ge_f (tgt := 126) dX12_oneTick_30 (by decide) c3 ?_
      refine zR_aload_n dX12_oneTick_33 0 rfl ?_
      refine zG_getR dX12_oneTick_34 zf_X12_186 zd_88 rfl rfl ?_
      refine zR_iload_n dX12_oneTick_37 1 rfl ?_
      obtain ⟨g6, h⟩ := zchk_some h
      refine zG_iald dX12_oneTick_38 zd_144 rfl rfl g6 ?_
      obtain ⟨y7, e8, h⟩ := zlet_some h
      refine zR_nmI e8 ?_
      refine zR_istore_n (lv' := [(0, .ref (w.1 + 88)), (1, .int x1), (2, .int y7)]) dX12_oneTick_39 (Nat.le_of_ble_eq_true rfl) rfl ?_
      refine zR_aload_n dX12_oneTick_40 0 rfl ?_
      refine zG_getR dX12_oneTick_41 zf_X12_210 zd_88 rfl rfl ?_
      refine zR_iload_n dX12_oneTick_44 2 rfl ?_
      obtain ⟨g9, h⟩ := zchk_some h
      refine zG_zald dX12_oneTick_45 zd_152 rfl rfl g9 ?_
      by_cases c10 : (zA V7 64 (y7).toNatClampNeg) = 0
      · have h := zif_t h c10
        refine zR_if_eq_t (tgt := 120) dX12_oneTick_46 (by decide) c10 ?_
        refine zR_sub (lv' := [(0, .ref (w.1 + 88)), (1, .int x1)]) [0, 1] rfl ?_
        exact wX12_oneTick_b120 F (fX12_oneTick_l23 F n) ih V0 V1 V2 V3 V4 V5 V6 V7 x1 _ h
      · have h := zif_f h c10
        refine zR_if_eq_f (tgt := 120) dX12_oneTick_46 (by decide) c10 ?_
        refine zR_aload_n dX12_oneTick_49 0 rfl ?_
        refine zG_getR dX12_oneTick_50 zf_X12_174 zd_88 rfl rfl ?_
        refine zR_iload_n dX12_oneTick_53 2 rfl ?_
        obtain ⟨g11, h⟩ := zchk_some h
        refine zG_iald dX12_oneTick_54 zd_140 rfl rfl g11 ?_
        refine zR_aload_n dX12_oneTick_55 0 rfl ?_
        refine zG_getR dX12_oneTick_56 zf_X12_213 zd_88 rfl rfl ?_
        refine zR_iload_n dX12_oneTick_59 2 rfl ?_
        obtain ⟨g12, h⟩ := zchk_some h
        refine zG_iald dX12_oneTick_60 zd_153 rfl rfl g12 ?_
        by_cases c13 : (zA V7 52 (y7).toNatClampNeg) = (zA V7 65 (y7).toNatClampNeg)
        · have h := zif_t h c13
          refine zR_icmp_ne_f (tgt := 120) dX12_oneTick_61 (by decide) c13 ?_
          refine zR_aload_n dX12_oneTick_64 0 rfl ?_
          refine zG_getR dX12_oneTick_65 zf_X12_82 zd_88 rfl rfl ?_
          refine zR_bipush (x := (12 : Int32)) dX12_oneTick_68 rfl ?_
          refine zR_aload_n dX12_oneTick_70 0 rfl ?_
          refine zG_getI dX12_oneTick_71 zf_X12_308 zd_88 rfl rfl ?_
          refine zR_imul dX12_oneTick_74 ?_
          refine zR_iload_n dX12_oneTick_75 2 rfl ?_
          refine zR_iadd dX12_oneTick_76 ?_
          obtain ⟨g14, h⟩ := zchk_some h
          refine zG_iald dX12_oneTick_77 zd_110 rfl rfl g14 ?_
          by_cases c15 : (zA V7 22 ((((12 : Int32) * (zI V7 0 18)) + y7)).toNatClampNeg) = 0
          · have h := zif_t h c15
            refine zR_if_ne_f (tgt := 84) dX12_oneTick_78 (by decide) c15 ?_
            refine zR_goto (tgt := 120) dX12_oneTick_81 (by decide) ?_
            refine zR_sub (lv' := [(0, .ref (w.1 + 88)), (1, .int x1)]) [0, 1] rfl ?_
            exact wX12_oneTick_b120 F (fX12_oneTick_l23 F n) ih V0 V1 V2 V3 V4 V5 V6 V7 x1 _ h
          · have h := zif_f h c15
            refine zR_if_ne_t (tgt := 84) dX12_oneTick_78 (by decide) c15 ?_
            refine zR_aload_n dX12_oneTick_84 0 rfl ?_
            refine zG_getR dX12_oneTick_85 zf_X12_168 zd_88 rfl rfl ?_
            refine zR_iload_n dX12_oneTick_88 2 rfl ?_
            refine zR_dup2 dX12_oneTick_89 rfl rfl ?_
            obtain ⟨g16, h⟩ := zchk_some h
            refine zG_iald dX12_oneTick_90 zd_138 rfl rfl g16 ?_
            refine zR_iconst (x := (1 : Int32)) dX12_oneTick_91 rfl ?_
            refine zR_isub dX12_oneTick_92 ?_
            obtain ⟨g17, h⟩ := zchk_some h
            obtain ⟨V7_18, e19, h⟩ := zlet_some h
            refine zG_iast zds_ok dX12_oneTick_93 zd_138 rfl rfl g17 e19 rfl ?_
            refine zR_aload_n dX12_oneTick_94 0 rfl ?_
            refine zG_getR dX12_oneTick_95 zf_X12_168 zd_88 rfl rfl ?_
            refine zR_iload_n dX12_oneTick_98 2 rfl ?_
            obtain ⟨g20, h⟩ := zchk_some h
            refine zG_iald dX12_oneTick_99 zd_138 rfl rfl g20 ?_
            by_cases c21 : (zA V7_18 50 (y7).toNatClampNeg) ≤ 0
            · have h := zif_t h c21
              refine zR_if_le_t (tgt := 106) dX12_oneTick_100 (by decide) c21 ?_
              refine zR_aload_n dX12_oneTick_106 0 rfl ?_
              refine zR_iload_n dX12_oneTick_107 2 rfl ?_
              obtain ⟨q22, hq23, h⟩ := zbd_some h
              refine zR_cV (rest := []) (st1 := []) dX12_oneTick_108 (mX12_leaves F V0 V1 V2 V3 V4 V5 V6 V7_18 y7 _ hq23) zc_X12_466 rfl (zE_at zd_88) ⟨_, _, rfl⟩ rfl (Nat.le_of_ble_eq_true rfl) (Nat.le_of_ble_eq_true rfl) rfl ?_
              refine zR_aload_n dX12_oneTick_111 0 rfl ?_
              obtain ⟨q24, hq25, h⟩ := zbd_some h
              refine zR_cV (rest := []) (st1 := []) dX12_oneTick_112 (mX12_works F V0 V1 V2 V3 V4 V5 V6 q22 _ hq25) zc_X12_430 rfl (zE_at zd_88) ⟨_, _, rfl⟩ rfl (Nat.le_of_ble_eq_true rfl) (Nat.le_of_ble_eq_true rfl) rfl ?_
              refine zR_aload_n dX12_oneTick_115 0 rfl ?_
              refine zR_iconst (x := (0 : Int32)) dX12_oneTick_116 rfl ?_
              obtain ⟨V7_26, e27, h⟩ := zlet_some h
              refine zG_putI zds_ok dX12_oneTick_117 zf_X12_425 zt_X12_90 zd_88 rfl rfl e27 rfl ?_
              refine zR_sub (lv' := [(0, .ref (w.1 + 88)), (1, .int x1)]) [0, 1] rfl ?_
              exact wX12_oneTick_b120 F (fX12_oneTick_l23 F n) ih V0 V1 V2 V3 V4 V5 V6 V7_26 x1 _ h
            · have h := zif_f h c21
              refine zR_if_le_f (tgt := 106) dX12_oneTick_100 (by decide) c21 ?_
              refine zR_goto (tgt := 120) dX12_oneTick_103 (by decide) ?_
              refine zR_sub (lv' := [(0, .ref (w.1 + 88)), (1, .int x1)]) [0, 1] rfl ?_
              exact wX12_oneTick_b120 F (fX12_oneTick_l23 F n) ih V0 V1 V2 V3 V4 V5 V6 V7_18 x1 _ h
        · have h := zif_f h c13
          refine zR_icmp_ne_t (tgt := 120) dX12_oneTick_61 (by decide) c13 ?_
          refine zR_sub (lv' := [(0, .ref (w.1 + 88)), (1, .int x1)]) [0, 1] rfl ?_
          exact wX12_oneTick_b120 F (fX12_oneTick_l23 F n) ih V0 V1 V2 V3 V4 V5 V6 V7 x1 _ h
set_option maxRecDepth 100000 in
set_option maxHeartbeats 4000000 in
theorem mX12_oneTick {w : zW} (F : Nat) (V0 V1 V2 V3 V4 V5 V6 V7 : zV) (res : zV) (h : fX12_oneTick F V7 = some res) : zMet w kX12_oneTick 5 0 0 [.ref (w.1 + 88)] (zE zds w [V0, V1, V2, V3, V4, V5, V6, V7]) none (zE zds w [V0, V1, V2, V3, V4, V5, V6, res]) := by
  refine zMet_of (by decide) (Nat.le_of_ble_eq_true rfl) (Nat.le_refl 0) fun _ => ?_
  show zR w kX12_oneTick 5 0 0 none (zE zds w [V0, V1, V2, V3, V4, V5, V6, res]) 0 [(0, .ref (w.1 + 88))] [] (zE zds w [V0, V1, V2, V3, V4, V5, V6, V7])
  unfold fX12_oneTick at h
  refine zR_aload_n dX12_oneTick_0 0 rfl ?_
  refine zR_dup dX12_oneTick_1 rfl ?_
  refine zG_getI dX12_oneTick_2 zf_X12_395 zd_88 rfl rfl ?_
  refine zR_iconst (x := (1 : Int32)) dX12_oneTick_5 rfl ?_
  refine zR_iadd dX12_oneTick_6 ?_
  obtain ⟨V7_28, e29, h⟩ := zlet_some h
  refine zG_putI zds_ok dX12_oneTick_7 zf_X12_395 zt_X12_68 zd_88 rfl rfl e29 rfl ?_
  refine zR_aload_n dX12_oneTick_10 0 rfl ?_
  obtain ⟨q30, hq31, h⟩ := zbd_some h
  refine zR_cV (rest := []) (st1 := []) dX12_oneTick_11 (mX12_remembers F V0 V1 V2 V3 V4 V5 V6 V7_28 _ hq31) zc_X12_475 rfl (zE_at zd_88) ⟨_, _, rfl⟩ rfl (Nat.le_of_ble_eq_true rfl) (Nat.le_of_ble_eq_true rfl) rfl ?_
  refine zR_aload_n dX12_oneTick_14 0 rfl ?_
  refine zG_getI dX12_oneTick_15 zf_X12_392 zd_88 rfl rfl ?_
  by_cases c32 : (zI q30 0 66) ≤ 0
  · have h := zif_t h c32
    refine zR_if_le_t (tgt := 130) dX12_oneTick_18 (by decide) c32 ?_
    have h := Option.some.inj h
    subst h
    exact zR_ret dX12_oneTick_130 rfl
  · have h := zif_f h c32
    refine zR_if_le_f (tgt := 130) dX12_oneTick_18 (by decide) c32 ?_
    refine zR_iconst (x := (0 : Int32)) dX12_oneTick_21 rfl ?_
    refine zR_istore_n (lv' := [(0, .ref (w.1 + 88)), (1, .int (0 : Int32))]) dX12_oneTick_22 (Nat.le_of_ble_eq_true rfl) rfl ?_
    exact wX12_oneTick_l23 F F V0 V1 V2 V3 V4 V5 V6 q30 (0 : Int32) _ h
set_option maxRecDepth 100000 in
set_option maxHeartbeats 4000000 in
theorem wX12_fires_b212 {w : zW} (F : Nat) (k6 : zV → Int32 → Int32 → Int32 → Option (Int32 × zV)) (hk6 : ∀ (V0 V1 V2 V3 V4 V5 V6 V7 : zV) (x1 : Int32) (x2 : Int32) (x3 : Int32) (res : Int32 × zV), k6 V7 x1 x2 x3 = some res → zR w kX12_fires 1 0 0 (some (.int res.1)) (zE zds w [V0, V1, V2, V3, V4, V5, V6, res.2]) 6 [(0, .ref (w.1 + 88)), (1, .int x1), (2, .int x2), (3, .int x3)] [] (zE zds w [V0, V1, V2, V3, V4, V5, V6, V7])) (V0 V1 V2 V3 V4 V5 V6 V7 : zV) (x1 : Int32) (x2 : Int32) (x3 : Int32) (res : Int32 × zV) (h : fX12_fires_b212 F k6 V7 x1 x2 x3 = some res) : zR w kX12_fires 1 0 0 (some (.int res.1)) (zE zds w [V0, V1, V2, V3, V4, V5, V6, res.2]) 212 [(0, .ref (w.1 + 88)), (1, .int x1), (2, .int x2), (3, .int x3)] [] (zE zds w [V0, V1, V2, V3, V4, V5, V6, V7]) := by
  unfold fX12_fires_b212 at h
  refine zR_iinc (u := (x3 + 1)) (lv' := [(0, .ref (w.1 + 88)), (1, .int x1), (2, .int x2), (3, .int (x3 + 1))]) dX12_fires_212 3 rfl rfl (Nat.le_of_ble_eq_true rfl) rfl ?_
  refine zR_goto (tgt := 6) dX12_fires_215 (by decide) ?_
  exact hk6 V0 V1 V2 V3 V4 V5 V6 V7 x1 x2 (x3 + 1) _ h
set_option maxRecDepth 100000 in
set_option maxHeartbeats 4000000 in
theorem wX12_fires_b162 {w : zW} (F : Nat) (k79 : zV → Int32 → Int32 → Int32 → Int32 → Int32 → Int32 → Option (Int32 × zV)) (hk79 : ∀ (V0 V1 V2 V3 V4 V5 V6 V7 : zV) (x1 : Int32) (x2 : Int32) (x3 : Int32) (x4 : Int32) (x5 : Int32) (x6 : Int32) (res : Int32 × zV), k79 V7 x1 x2 x3 x4 x5 x6 = some res → zR w kX12_fires 1 0 0 (some (.int res.1)) (zE zds w [V0, V1, V2, V3, V4, V5, V6, res.2]) 79 [(0, .ref (w.1 + 88)), (1, .int x1), (2, .int x2), (3, .int x3), (4, .int x4), (5, .int x5), (6, .int x6)] [] (zE zds w [V0, V1, V2, V3, V4, V5, V6, V7])) (V0 V1 V2 V3 V4 V5 V6 V7 : zV) (x1 : Int32) (x2 : Int32) (x3 : Int32) (x4 : Int32) (x5 : Int32) (x6 : Int32) (res : Int32 × zV) (h : fX12_fires_b162 F k79 V7 x1 x2 x3 x4 x5 x6 = some res) : zR w kX12_fires 1 0 0 (some (.int res.1)) (zE zds w [V0, V1, V2, V3, V4, V5, V6, res.2]) 162 [(0, .ref (w.1 + 88)), (1, .int x1), (2, .int x2), (3, .int x3), (4, .int x4), (5, .int x5), (6, .int x6)] [] (zE zds w [V0, V1, V2, V3, V4, V5, V6, V7]) := by
  unfold fX12_fires_b162 at h
  refine zR_iinc (u := (x6 + 1)) (lv' := [(0, .ref (w.1 + 88)), (1, .int x1), (2, .int x2), (3, .int x3), (4, .int x4), (5, .int x5), (6, .int (x6 + 1))]) dX12_fires_162 6 rfl rfl (Nat.le_of_ble_eq_true rfl) rfl ?_
  refine zR_goto (tgt := 79) dX12_fires_165 (by decide) ?_
  exact hk79 V0 V1 V2 V3 V4 V5 V6 V7 x1 x2 x3 x4 x5 (x6 + 1) _ h
set_option maxRecDepth 100000 in
set_option maxHeartbeats 4000000 in
theorem wX12_fires_b159 {w : zW} (F : Nat) (k79 : zV → Int32 → Int32 → Int32 → Int32 → Int32 → Int32 → Option (Int32 × zV)) (hk79 : ∀ (V0 V1 V2 V3 V4 V5 V6 V7 : zV) (x1 : Int32) (x2 : Int32) (x3 : Int32) (x4 : Int32) (x5 : Int32) (x6 : Int32) (res : Int32 × zV), k79 V7 x1 x2 x3 x4 x5 x6 = some res → zR w kX12_fires 1 0 0 (some (.int res.1)) (zE zds w [V0, V1, V2, V3, V4, V5, V6, res.2]) 79 [(0, .ref (w.1 + 88)), (1, .int x1), (2, .int x2), (3, .int x3), (4, .int x4), (5, .int x5), (6, .int x6)] [] (zE zds w [V0, V1, V2, V3, V4, V5, V6, V7])) (V0 V1 V2 V3 V4 V5 V6 V7 : zV) (x1 : Int32) (x2 : Int32) (x3 : Int32) (x4 : Int32) (x6 : Int32) (res : Int32 × zV) (h : fX12_fires_b159 F k79 V7 x1 x2 x3 x4 x6 = some res) : zR w kX12_fires 1 0 0 (some (.int res.1)) (zE zds w [V0, V1, V2, V3, V4, V5, V6, res.2]) 159 [(0, .ref (w.1 + 88)), (1, .int x1), (2, .int x2), (3, .int x3), (4, .int x4), (6, .int x6)] [] (zE zds w [V0, V1, V2, V3, V4, V5, V6, V7]) := by
  unfold fX12_fires_b159 at h
  refine zR_iconst (x := (0 : Int32)) dX12_fires_159 rfl ?_
  refine zR_istore (lv' := [(0, .ref (w.1 + 88)), (1, .int x1), (2, .int x2), (3, .int x3), (4, .int x4), (6, .int x6), (5, .int (0 : Int32))]) dX12_fires_160 (Nat.le_of_ble_eq_true rfl) rfl ?_
  refine zR_sub (lv' := [(0, .ref (w.1 + 88)), (1, .int x1), (2, .int x2), (3, .int x3), (4, .int x4), (5, .int (0 : Int32)), (6, .int x6)]) [0, 1, 2, 3, 4, 6, 5] rfl ?_
  exact wX12_fires_b162 F k79 hk79 V0 V1 V2 V3 V4 V5 V6 V7 x1 x2 x3 x4 (0 : Int32) x6 _ h
set_option maxRecDepth 100000 in
set_option maxHeartbeats 4000000 in
theorem wX12_fires_b128 {w : zW} (F : Nat) (k79 : zV → Int32 → Int32 → Int32 → Int32 → Int32 → Int32 → Option (Int32 × zV)) (hk79 : ∀ (V0 V1 V2 V3 V4 V5 V6 V7 : zV) (x1 : Int32) (x2 : Int32) (x3 : Int32) (x4 : Int32) (x5 : Int32) (x6 : Int32) (res : Int32 × zV), k79 V7 x1 x2 x3 x4 x5 x6 = some res → zR w kX12_fires 1 0 0 (some (.int res.1)) (zE zds w [V0, V1, V2, V3, V4, V5, V6, res.2]) 79 [(0, .ref (w.1 + 88)), (1, .int x1), (2, .int x2), (3, .int x3), (4, .int x4), (5, .int x5), (6, .int x6)] [] (zE zds w [V0, V1, V2, V3, V4, V5, V6, V7])) (V0 V1 V2 V3 V4 V5 V6 V7 : zV) (x1 : Int32) (x2 : Int32) (x3 : Int32) (x4 : Int32) (x5 : Int32) (x6 : Int32) (res : Int32 × zV) (h : fX12_fires_b128 F k79 V7 x1 x2 x3 x4 x5 x6 = some res) : zR w kX12_fires 1 0 0 (some (.int res.1)) (zE zds w [V0, V1, V2, V3, V4, V5, V6, res.2]) 128 [(0, .ref (w.1 + 88)), (1, .int x1), (2, .int x2), (3, .int x3), (4, .int x4), (5, .int x5), (6, .int x6)] [] (zE zds w [V0, V1, V2, V3, V4, V5, V6, V7]) := by
  unfold fX12_fires_b128 at h
  refine zR_aload_n dX12_fires_128 0 rfl ?_
  refine zG_getR dX12_fires_129 zf_X12_61 zd_88 rfl rfl ?_
  refine zR_iload dX12_fires_132 6 rfl ?_
  obtain ⟨g1, h⟩ := zchk_some h
  refine zG_iald dX12_fires_134 zd_103 rfl rfl g1 ?_
  refine zR_iload dX12_fires_135 4 rfl ?_
  by_cases c2 : (zA V7 15 (x6).toNatClampNeg) = x4
  · have h := zif_t h c2
    refine zR_icmp_ne_f (tgt := 162) dX12_fires_137 (by decide) c2 ?_
    refine zR_aload_n dX12_fires_140 0 rfl ?_
    refine zG_getR dX12_fires_141 zf_X12_180 zd_88 rfl rfl ?_
    refine zR_aload_n dX12_fires_144 0 rfl ?_
    refine zG_getR dX12_fires_145 zf_X12_58 zd_88 rfl rfl ?_
    refine zR_iload dX12_fires_148 6 rfl ?_
    obtain ⟨g3, h⟩ := zchk_some h
    refine zG_iald dX12_fires_150 zd_102 rfl rfl g3 ?_
    obtain ⟨g4, h⟩ := zchk_some h
    refine zG_iald dX12_fires_151 zd_142 rfl rfl g4 ?_
    refine zR_aload_n dX12_fires_152 0 rfl ?_
    refine zG_getI dX12_fires_153 zf_X12_395 zd_88 rfl rfl ?_
    by_cases c5 : (zA V7 54 ((zA V7 14 (x6).toNatClampNeg)).toNatClampNeg) = (zI V7 0 68)
    · have h := zif_t h c5
      refine zR_icmp_ne_f (tgt := 162) dX12_fires_156 (by decide) c5 ?_
      refine zR_sub (lv' := [(0, .ref (w.1 + 88)), (1, .int x1), (2, .int x2), (3, .int x3), (4, .int x4), (6, .int x6)]) [0, 1, 2, 3, 4, 6] rfl ?_
      exact wX12_fires_b159 F k79 hk79 V0 V1 V2 V3 V4 V5 V6 V7 x1 x2 x3 x4 x6 _ h
    · have h := zif_f h c5
      refine zR_icmp_ne_t (tgt := 162) dX12_fires_156 (by decide) c5 ?_
      exact wX12_fires_b162 F k79 hk79 V0 V1 V2 V3 V4 V5 V6 V7 x1 x2 x3 x4 x5 x6 _ h
  · have h := zif_f h c2
    refine zR_icmp_ne_t (tgt := 162) dX12_fires_137 (by decide) c2 ?_
    exact wX12_fires_b162 F k79 hk79 V0 V1 V2 V3 V4 V5 V6 V7 x1 x2 x3 x4 x5 x6 _ h
set_option maxRecDepth 100000 in
set_option maxHeartbeats 4000000 in
theorem wX12_fires_l79 {w : zW} (F : Nat) (k6 : zV → Int32 → Int32 → Int32 → Option (Int32 × zV)) (hk6 : ∀ (V0 V1 V2 V3 V4 V5 V6 V7 : zV) (x1 : Int32) (x2 : Int32) (x3 : Int32) (res : Int32 × zV), k6 V7 x1 x2 x3 = some res → zR w kX12_fires 1 0 0 (some (.int res.1)) (zE zds w [V0, V1, V2, V3, V4, V5, V6, res.2]) 6 [(0, .ref (w.1 + 88)), (1, .int x1), (2, .int x2), (3, .int x3)] [] (zE zds w [V0, V1, V2, V3, V4, V5, V6, V7])) : ∀ (n : Nat) (V0 V1 V2 V3 V4 V5 V6 V7 : zV) (x1 : Int32) (x2 : Int32) (x3 : Int32) (x4 : Int32) (x5 : Int32) (x6 : Int32) (res : Int32 × zV), fX12_fires_l79 F k6 n V7 x1 x2 x3 x4 x5 x6 = some res → zR w kX12_fires 1 0 0 (some (.int res.1)) (zE zds w [V0, V1, V2, V3, V4, V5, V6, res.2]) 79 [(0, .ref (w.1 + 88)), (1, .int x1), (2, .int x2), (3, .int x3), (4, .int x4), (5, .int x5), (6, .int x6)] [] (zE zds w [V0, V1, V2, V3, V4, V5, V6, V7]) := by
  intro n
  induction n with
  | zero =>
    intro V0 V1 V2 V3 V4 V5 V6 V7 x1 x2 x3 x4 x5 x6 res h
    simp [fX12_fires_l79] at h
  | succ n ih =>
    intro V0 V1 V2 V3 V4 V5 V6 V7 x1 x2 x3 x4 x5 x6 res h
    rw [fX12_fires_l79] at h
    refine zR_iload dX12_fires_79 6 rfl ?_
    refine zR_bipush (x := (8 : Int32)) dX12_fires_81 rfl ?_
    refine zR_aload_n dX12_fires_83 0 rfl ?_
    refine zG_getI dX12_fires_84 zf_X12_308 zd_88 rfl rfl ?_
    refine zR_imul dX12_fires_87 ?_
    refine zR_aload_n dX12_fires_88 0 rfl ?_
    refine zR_iconst (x := (2 : Int32)) dX12_fires_89 rfl ?_
    obtain ⟨q6, hq7, h⟩ := zbd_some h
    refine zR_cV (rest := [.int ((8 : Int32) * (zI V7 0 18)), .int x6]) (st1 := [.int q6, .int ((8 : Int32) * (zI V7 0 18)), .int x6]) dX12_fires_90 (mX12_sort F V0 V1 V2 V3 V4 V5 V6 V7 (2 : Int32) _ hq7) zc_X12_370 rfl (zE_at zd_88) ⟨_, _, rfl⟩ rfl (Nat.le_of_ble_eq_true rfl) (Nat.le_of_ble_eq_true rfl) rfl ?_
    refine zR_iadd dX12_fires_93 ?_
    by_cases c8 : (((8 : Int32) * (zI V7 0 18)) + q6) ≤ x6
    · have h := zif_t h c8
      refine zR_icmp_ge_t (tgt := 168) dX12_fires_94 (by decide) c8 ?_
      refine zR_iload dX12_fires_168 5 rfl ?_
      by_cases c9 : x5 = 0
      · have h := zif_t h c9
        refine zR_if_eq_t (tgt := 201) dX12_fires_170 (by decide) c9 ?_
        refine zR_aload_n dX12_fires_201 0 rfl ?_
        refine zG_getR dX12_fires_202 zf_X12_183 zd_88 rfl rfl ?_
        refine zR_iload_n dX12_fires_205 2 rfl ?_
        refine zR_iload dX12_fires_206 4 rfl ?_
        obtain ⟨g10, h⟩ := zchk_some h
        obtain ⟨V7_11, e12, h⟩ := zlet_some h
        refine zG_iast zds_ok dX12_fires_208 zd_143 rfl rfl g10 e12 rfl ?_
        refine zR_iinc (u := (x2 + 1)) (lv' := [(0, .ref (w.1 + 88)), (1, .int x1), (2, .int (x2 + 1)), (3, .int x3), (4, .int x4), (5, .int x5), (6, .int x6)]) dX12_fires_209 2 rfl rfl (Nat.le_of_ble_eq_true rfl) rfl ?_
        refine zR_sub (lv' := [(0, .ref (w.1 + 88)), (1, .int x1), (2, .int (x2 + 1)), (3, .int x3)]) [0, 1, 2, 3] rfl ?_
        exact wX12_fires_b212 F k6 hk6 V0 V1 V2 V3 V4 V5 V6 V7_11 x1 (x2 + 1) x3 _ h
      · have h := zif_f h c9
        refine zR_if_eq_f (tgt := 201) dX12_fires_170 (by decide) c9 ?_
        refine zR_aload_n dX12_fires_173 0 rfl ?_
        refine zG_getR dX12_fires_174 zf_X12_177 zd_88 rfl rfl ?_
        refine zR_iload dX12_fires_177 4 rfl ?_
        refine zR_dup2 dX12_fires_179 rfl rfl ?_
        obtain ⟨g13, h⟩ := zchk_some h
        refine zG_iald dX12_fires_180 zd_141 rfl rfl g13 ?_
        refine zR_iconst (x := (1 : Int32)) dX12_fires_181 rfl ?_
        refine zR_iadd dX12_fires_182 ?_
        obtain ⟨g14, h⟩ := zchk_some h
        obtain ⟨V7_15, e16, h⟩ := zlet_some h
        refine zG_iast zds_ok dX12_fires_183 zd_141 rfl rfl g14 e16 rfl ?_
        refine zR_aload_n dX12_fires_184 0 rfl ?_
        refine zG_getR dX12_fires_185 zf_X12_180 zd_88 rfl rfl ?_
        refine zR_iload dX12_fires_188 4 rfl ?_
        refine zR_aload_n dX12_fires_190 0 rfl ?_
        refine zG_getI dX12_fires_191 zf_X12_395 zd_88 rfl rfl ?_
        obtain ⟨g17, h⟩ := zchk_some h
        obtain ⟨V7_18, e19, h⟩ := zlet_some h
        refine zG_iast zds_ok dX12_fires_194 zd_142 rfl rfl g17 e19 rfl ?_
        refine zR_iinc (u := (x1 + 1)) (lv' := [(0, .ref (w.1 + 88)), (1, .int (x1 + 1)), (2, .int x2), (3, .int x3), (4, .int x4), (5, .int x5), (6, .int x6)]) dX12_fires_195 1 rfl rfl (Nat.le_of_ble_eq_true rfl) rfl ?_
        refine zR_goto (tgt := 212) dX12_fires_198 (by decide) ?_
        refine zR_sub (lv' := [(0, .ref (w.1 + 88)), (1, .int (x1 + 1)), (2, .int x2), (3, .int x3)]) [0, 1, 2, 3] rfl ?_
        exact wX12_fires_b212 F k6 hk6 V0 V1 V2 V3 V4 V5 V6 V7_18 (x1 + 1) x2 x3 _ h
    · have h := zif_f h c8
      refine zR_icmp_ge_f (tgt := 168) dX12_fires_94 (by decide) c8 ?_
      refine zR_aload_n dX12_fires_97 0 rfl ?_
      refine zG_getR dX12_fires_98 zf_X12_58 zd_88 rfl rfl ?_
      refine zR_iload dX12_fires_101 6 rfl ?_
      obtain ⟨g20, h⟩ := zchk_some h
      refine zG_iald dX12_fires_103 zd_102 rfl rfl g20 ?_
      refine zR_iload dX12_fires_104 4 rfl ?_
      by_cases c21 : (zA V7 14 (x6).toNatClampNeg) = x4
      · have h := zif_t h c21
        refine zR_icmp_ne_f (tgt := 128) dX12_fires_106 (by decide) c21 ?_
        refine zR_aload_n dX12_fires_109 0 rfl ?_
        refine zG_getR dX12_fires_110 zf_X12_180 zd_88 rfl rfl ?_
        refine zR_aload_n dX12_fires_113 0 rfl ?_
        refine zG_getR dX12_fires_114 zf_X12_61 zd_88 rfl rfl ?_
        refine zR_iload dX12_fires_117 6 rfl ?_
        obtain ⟨g22, h⟩ := zchk_some h
        refine zG_iald dX12_fires_119 zd_103 rfl rfl g22 ?_
        obtain ⟨g23, h⟩ := zchk_some h
        refine zG_iald dX12_fires_120 zd_142 rfl rfl g23 ?_
        refine zR_aload_n dX12_fires_121 0 rfl ?_
        refine zG_getI dX12_fires_122 zf_X12_395 zd_88 rfl rfl ?_
        by_cases c24 : (zA V7 54 ((zA V7 15 (x6).toNatClampNeg)).toNatClampNeg) = (zI V7 0 68)
        · have h := zif_t h c24
          refine zR_icmp_eq_t (tgt := 159) dX12_fires_125 (by decide) c24 ?_
          refine zR_sub (lv' := [(0, .ref (w.1 + 88)), (1, .int x1), (2, .int x2), (3, .int x3), (4, .int x4), (6, .int x6)]) [0, 1, 2, 3, 4, 6] rfl ?_
          exact wX12_fires_b159 F (fX12_fires_l79 F k6 n) ih V0 V1 V2 V3 V4 V5 V6 V7 x1 x2 x3 x4 x6 _ h
        · have h := zif_f h c24
          refine zR_icmp_eq_f (tgt := 159) dX12_fires_125 (by decide) c24 ?_
          exact wX12_fires_b128 F (fX12_fires_l79 F k6 n) ih V0 V1 V2 V3 V4 V5 V6 V7 x1 x2 x3 x4 x5 x6 _ h
      · have h := zif_f h c21
        refine zR_icmp_ne_t (tgt := 128) dX12_fires_106 (by decide) c21 ?_
        exact wX12_fires_b128 F (fX12_fires_l79 F k6 n) ih V0 V1 V2 V3 V4 V5 V6 V7 x1 x2 x3 x4 x5 x6 _ h
set_option maxRecDepth 100000 in
set_option maxHeartbeats 4000000 in
theorem wX12_fires_b68 {w : zW} (F : Nat) (k6 : zV → Int32 → Int32 → Int32 → Option (Int32 × zV)) (hk6 : ∀ (V0 V1 V2 V3 V4 V5 V6 V7 : zV) (x1 : Int32) (x2 : Int32) (x3 : Int32) (res : Int32 × zV), k6 V7 x1 x2 x3 = some res → zR w kX12_fires 1 0 0 (some (.int res.1)) (zE zds w [V0, V1, V2, V3, V4, V5, V6, res.2]) 6 [(0, .ref (w.1 + 88)), (1, .int x1), (2, .int x2), (3, .int x3)] [] (zE zds w [V0, V1, V2, V3, V4, V5, V6, V7])) (V0 V1 V2 V3 V4 V5 V6 V7 : zV) (x1 : Int32) (x2 : Int32) (x3 : Int32) (x4 : Int32) (s0 : Int32) (res : Int32 × zV) (h : fX12_fires_b68 F k6 V7 x1 x2 x3 x4 s0 = some res) : zR w kX12_fires 1 0 0 (some (.int res.1)) (zE zds w [V0, V1, V2, V3, V4, V5, V6, res.2]) 68 [(0, .ref (w.1 + 88)), (1, .int x1), (2, .int x2), (3, .int x3), (4, .int x4)] [.int s0] (zE zds w [V0, V1, V2, V3, V4, V5, V6, V7]) := by
  unfold fX12_fires_b68 at h
  refine zR_istore (lv' := [(0, .ref (w.1 + 88)), (1, .int x1), (2, .int x2), (3, .int x3), (4, .int x4), (5, .int s0)]) dX12_fires_68 (Nat.le_of_ble_eq_true rfl) rfl ?_
  refine zR_bipush (x := (8 : Int32)) dX12_fires_70 rfl ?_
  refine zR_aload_n dX12_fires_72 0 rfl ?_
  refine zG_getI dX12_fires_73 zf_X12_308 zd_88 rfl rfl ?_
  refine zR_imul dX12_fires_76 ?_
  obtain ⟨y25, e26, h⟩ := zlet_some h
  refine zR_nmI e26 ?_
  refine zR_istore (lv' := [(0, .ref (w.1 + 88)), (1, .int x1), (2, .int x2), (3, .int x3), (4, .int x4), (5, .int s0), (6, .int y25)]) dX12_fires_77 (Nat.le_of_ble_eq_true rfl) rfl ?_
  exact wX12_fires_l79 F k6 hk6 F V0 V1 V2 V3 V4 V5 V6 V7 x1 x2 x3 x4 s0 y25 _ h
set_option maxRecDepth 100000 in
set_option maxHeartbeats 4000000 in
theorem wX12_fires_b63 {w : zW} (F : Nat) (k6 : zV → Int32 → Int32 → Int32 → Option (Int32 × zV)) (hk6 : ∀ (V0 V1 V2 V3 V4 V5 V6 V7 : zV) (x1 : Int32) (x2 : Int32) (x3 : Int32) (res : Int32 × zV), k6 V7 x1 x2 x3 = some res → zR w kX12_fires 1 0 0 (some (.int res.1)) (zE zds w [V0, V1, V2, V3, V4, V5, V6, res.2]) 6 [(0, .ref (w.1 + 88)), (1, .int x1), (2, .int x2), (3, .int x3)] [] (zE zds w [V0, V1, V2, V3, V4, V5, V6, V7])) (V0 V1 V2 V3 V4 V5 V6 V7 : zV) (x1 : Int32) (x2 : Int32) (x3 : Int32) (x4 : Int32) (res : Int32 × zV) (h : fX12_fires_b63 F k6 V7 x1 x2 x3 x4 = some res) : zR w kX12_fires 1 0 0 (some (.int res.1)) (zE zds w [V0, V1, V2, V3, V4, V5, V6, res.2]) 63 [(0, .ref (w.1 + 88)), (1, .int x1), (2, .int x2), (3, .int x3), (4, .int x4)] [] (zE zds w [V0, V1, V2, V3, V4, V5, V6, V7]) := by
  unfold fX12_fires_b63 at h
  refine zR_iconst (x := (1 : Int32)) dX12_fires_63 rfl ?_
  refine zR_goto (tgt := 68) dX12_fires_64 (by decide) ?_
  exact wX12_fires_b68 F k6 hk6 V0 V1 V2 V3 V4 V5 V6 V7 x1 x2 x3 x4 (1 : Int32) _ h
set_option maxRecDepth 100000 in
set_option maxHeartbeats 4000000 in
theorem wX12_fires_l6 {w : zW} (F : Nat) : ∀ (n : Nat) (V0 V1 V2 V3 V4 V5 V6 V7 : zV) (x1 : Int32) (x2 : Int32) (x3 : Int32) (res : Int32 × zV), fX12_fires_l6 F n V7 x1 x2 x3 = some res → zR w kX12_fires 1 0 0 (some (.int res.1)) (zE zds w [V0, V1, V2, V3, V4, V5, V6, res.2]) 6 [(0, .ref (w.1 + 88)), (1, .int x1), (2, .int x2), (3, .int x3)] [] (zE zds w [V0, V1, V2, V3, V4, V5, V6, V7]) := by
  intro n
  induction n with
  | zero =>
    intro V0 V1 V2 V3 V4 V5 V6 V7 x1 x2 x3 res h
    simp [fX12_fires_l6] at h
  | succ n ih =>
    intro V0 V1 V2 V3 V4 V5 V6 V7 x1 x2 x3 res h
    rw [fX12_fires_l6] at h
    refine zR_iload_n dX12_fires_6 3 rfl ?_
    refine zR_aload_n dX12_fires_7 0 rfl ?_
    refine zG_getI dX12_fires_8 zf_X12_407 zd_88 rfl rfl ?_
    by_cases c27 : (zI V7 0 85) ≤ x3
    · have h := zif_t h c27
      refine zR_icmp_ge_t (tgt := 218) dX12_fires_11 (by decide) c27 ?_
      refine zR_aload_n dX12_fires_218 0 rfl ?_
      refine zR_iload_n dX12_fires_219 2 rfl ?_
      obtain ⟨V7_28, e29, h⟩ := zlet_some h
      refine zG_putI zds_ok dX12_fires_220 zf_X12_407 zt_X12_85 zd_88 rfl rfl e29 rfl ?_
      refine zR_iload_n dX12_fires_223 1 rfl ?_
      have h := Option.some.inj h
      subst h
      exact zR_iret (x := x1) dX12_fires_224 rfl rfl
    · have h := zif_f h c27
      refine zR_icmp_ge_f (tgt := 218) dX12_fires_11 (by decide) c27 ?_
      refine zR_aload_n dX12_fires_14 0 rfl ?_
      refine zG_getR dX12_fires_15 zf_X12_183 zd_88 rfl rfl ?_
      refine zR_iload_n dX12_fires_18 3 rfl ?_
      obtain ⟨g30, h⟩ := zchk_some h
      refine zG_iald dX12_fires_19 zd_143 rfl rfl g30 ?_
      obtain ⟨y31, e32, h⟩ := zlet_some h
      refine zR_nmI e32 ?_
      refine zR_istore (lv' := [(0, .ref (w.1 + 88)), (1, .int x1), (2, .int x2), (3, .int x3), (4, .int y31)]) dX12_fires_20 (Nat.le_of_ble_eq_true rfl) rfl ?_
      refine zR_aload_n dX12_fires_22 0 rfl ?_
      refine zG_getR dX12_fires_23 zf_X12_180 zd_88 rfl rfl ?_
      refine zR_iload dX12_fires_26 4 rfl ?_
      obtain ⟨g33, h⟩ := zchk_some h
      refine zG_iald dX12_fires_28 zd_142 rfl rfl g33 ?_
      refine zR_iconst (x := (-1 : Int32)) dX12_fires_29 (by decide) ?_
      by_cases c34 : (zA V7 54 (y31).toNatClampNeg) = (-1 : Int32)
      · have h := zif_t h c34
        refine zR_icmp_eq_t (tgt := 63) dX12_fires_30 (by decide) c34 ?_
        exact wX12_fires_b63 F (fX12_fires_l6 F n) ih V0 V1 V2 V3 V4 V5 V6 V7 x1 x2 x3 y31 _ h
      · have h := zif_f h c34
        refine zR_icmp_eq_f (tgt := 63) dX12_fires_30 (by decide) c34 ?_
        refine zR_aload_n dX12_fires_33 0 rfl ?_
        refine zG_getI dX12_fires_34 zf_X12_395 zd_88 rfl rfl ?_
        refine zR_aload_n dX12_fires_37 0 rfl ?_
        refine zG_getR dX12_fires_38 zf_X12_180 zd_88 rfl rfl ?_
        refine zR_iload dX12_fires_41 4 rfl ?_
        obtain ⟨g35, h⟩ := zchk_some h
        refine zG_iald dX12_fires_43 zd_142 rfl rfl g35 ?_
        refine zR_isub dX12_fires_44 ?_
        refine zR_aload_n dX12_fires_45 0 rfl ?_
        refine zG_getR dX12_fires_46 zf_X12_55 zd_88 rfl rfl ?_
        refine zR_bipush (x := (8 : Int32)) dX12_fires_49 rfl ?_
        refine zR_aload_n dX12_fires_51 0 rfl ?_
        refine zG_getI dX12_fires_52 zf_X12_308 zd_88 rfl rfl ?_
        refine zR_imul dX12_fires_55 ?_
        refine zR_iload dX12_fires_56 4 rfl ?_
        refine zR_iadd dX12_fires_58 ?_
        obtain ⟨g36, h⟩ := zchk_some h
        refine zG_iald dX12_fires_59 zd_101 rfl rfl g36 ?_
        by_cases c37 : ((zI V7 0 68) - (zA V7 54 (y31).toNatClampNeg)) < (zA V7 13 ((((8 : Int32) * (zI V7 0 18)) + y31)).toNatClampNeg)
        · have h := zif_t h c37
          refine zR_icmp_lt_t (tgt := 67) dX12_fires_60 (by decide) c37 ?_
          refine zR_iconst (x := (0 : Int32)) dX12_fires_67 rfl ?_
          exact wX12_fires_b68 F (fX12_fires_l6 F n) ih V0 V1 V2 V3 V4 V5 V6 V7 x1 x2 x3 y31 (0 : Int32) _ h
        · have h := zif_f h c37
          refine zR_icmp_lt_f (tgt := 67) dX12_fires_60 (by decide) c37 ?_
          exact wX12_fires_b63 F (fX12_fires_l6 F n) ih V0 V1 V2 V3 V4 V5 V6 V7 x1 x2 x3 y31 _ h
set_option maxRecDepth 100000 in
set_option maxHeartbeats 4000000 in
theorem mX12_fires {w : zW} (F : Nat) (V0 V1 V2 V3 V4 V5 V6 V7 : zV) (res : Int32 × zV) (h : fX12_fires F V7 = some res) : zMet w kX12_fires 1 0 0 [.ref (w.1 + 88)] (zE zds w [V0, V1, V2, V3, V4, V5, V6, V7]) (some (.int res.1)) (zE zds w [V0, V1, V2, V3, V4, V5, V6, res.2]) := by
  refine zMet_of (by decide) (Nat.le_of_ble_eq_true rfl) (Nat.le_refl 0) fun _ => ?_
  show zR w kX12_fires 1 0 0 (some (.int res.1)) (zE zds w [V0, V1, V2, V3, V4, V5, V6, res.2]) 0 [(0, .ref (w.1 + 88))] [] (zE zds w [V0, V1, V2, V3, V4, V5, V6, V7])
  unfold fX12_fires at h
  refine zR_iconst (x := (0 : Int32)) dX12_fires_0 rfl ?_
  refine zR_istore_n (lv' := [(0, .ref (w.1 + 88)), (1, .int (0 : Int32))]) dX12_fires_1 (Nat.le_of_ble_eq_true rfl) rfl ?_
  refine zR_iconst (x := (0 : Int32)) dX12_fires_2 rfl ?_
  refine zR_istore_n (lv' := [(0, .ref (w.1 + 88)), (1, .int (0 : Int32)), (2, .int (0 : Int32))]) dX12_fires_3 (Nat.le_of_ble_eq_true rfl) rfl ?_
  refine zR_iconst (x := (0 : Int32)) dX12_fires_4 rfl ?_
  refine zR_istore_n (lv' := [(0, .ref (w.1 + 88)), (1, .int (0 : Int32)), (2, .int (0 : Int32)), (3, .int (0 : Int32))]) dX12_fires_5 (Nat.le_of_ble_eq_true rfl) rfl ?_
  exact wX12_fires_l6 F F V0 V1 V2 V3 V4 V5 V6 V7 (0 : Int32) (0 : Int32) (0 : Int32) _ h
set_option maxRecDepth 100000 in
set_option maxHeartbeats 4000000 in
theorem wX12_ticks_l36 {w : zW} (F : Nat) : ∀ (n : Nat) (V0 V1 V2 V3 V4 V5 V6 V7 : zV) (x1 : Int32) (x2 : Int32) (x3 : Int32) (res : Int32 × zV), fX12_ticks_l36 F n V7 x1 x2 x3 = some res → zR w kX12_ticks 6 0 0 (some (.int res.1)) (zE zds w [V0, V1, V2, V3, V4, V5, V6, res.2]) 36 [(0, .ref (w.1 + 88)), (1, .int x1), (2, .int x2), (3, .int x3)] [] (zE zds w [V0, V1, V2, V3, V4, V5, V6, V7]) := by
  intro n
  induction n with
  | zero =>
    intro V0 V1 V2 V3 V4 V5 V6 V7 x1 x2 x3 res h
    simp [fX12_ticks_l36] at h
  | succ n ih =>
    intro V0 V1 V2 V3 V4 V5 V6 V7 x1 x2 x3 res h
    rw [fX12_ticks_l36] at h
    refine zR_iload_n dX12_ticks_36 3 rfl ?_
    refine zR_iload_n dX12_ticks_37 1 rfl ?_
    by_cases c1 : x1 ≤ x3
    · have h := zif_t h c1
      refine zR_icmp_ge_t (tgt := 58) dX12_ticks_38 (by decide) c1 ?_
      refine zR_iload_n dX12_ticks_58 2 rfl ?_
      have h := Option.some.inj h
      subst h
      exact zR_iret (x := x2) dX12_ticks_59 rfl rfl
    · have h := zif_f h c1
      refine zR_icmp_ge_f (tgt := 58) dX12_ticks_38 (by decide) c1 ?_
      refine zR_aload_n dX12_ticks_41 0 rfl ?_
      obtain ⟨q2, hq3, h⟩ := zbd_some h
      refine zR_cV (rest := []) (st1 := []) dX12_ticks_42 (mX12_oneTick F V0 V1 V2 V3 V4 V5 V6 V7 _ hq3) zc_X12_478 rfl (zE_at zd_88) ⟨_, _, rfl⟩ rfl (Nat.le_of_ble_eq_true rfl) (Nat.le_of_ble_eq_true rfl) rfl ?_
      refine zR_iload_n dX12_ticks_45 2 rfl ?_
      refine zR_aload_n dX12_ticks_46 0 rfl ?_
      obtain ⟨q4, hq5, h⟩ := zbd_some h
      refine zR_cV (rest := [.int x2]) (st1 := [.int q4.1, .int x2]) dX12_ticks_47 (mX12_fires F V0 V1 V2 V3 V4 V5 V6 q2 _ hq5) zc_X12_481 rfl (zE_at zd_88) ⟨_, _, rfl⟩ rfl (Nat.le_of_ble_eq_true rfl) (Nat.le_of_ble_eq_true rfl) rfl ?_
      refine zR_iadd dX12_ticks_50 ?_
      refine zR_istore_n (lv' := [(0, .ref (w.1 + 88)), (1, .int x1), (2, .int (x2 + q4.1)), (3, .int x3)]) dX12_ticks_51 (Nat.le_of_ble_eq_true rfl) rfl ?_
      refine zR_iinc (u := (x3 + 1)) (lv' := [(0, .ref (w.1 + 88)), (1, .int x1), (2, .int (x2 + q4.1)), (3, .int (x3 + 1))]) dX12_ticks_52 3 rfl rfl (Nat.le_of_ble_eq_true rfl) rfl ?_
      refine zR_goto (tgt := 36) dX12_ticks_55 (by decide) ?_
      exact ih V0 V1 V2 V3 V4 V5 V6 q4.2 x1 (x2 + q4.1) (x3 + 1) _ h
set_option maxRecDepth 100000 in
set_option maxHeartbeats 4000000 in
theorem mX12_ticks {w : zW} (F : Nat) (V0 V1 V2 V3 V4 V5 V6 V7 : zV) (x1 : Int32) (res : Int32 × zV) (h : fX12_ticks F V7 x1 = some res) : zMet w kX12_ticks 6 0 0 [.ref (w.1 + 88), .int x1] (zE zds w [V0, V1, V2, V3, V4, V5, V6, V7]) (some (.int res.1)) (zE zds w [V0, V1, V2, V3, V4, V5, V6, res.2]) := by
  refine zMet_of (by decide) (Nat.le_of_ble_eq_true rfl) (Nat.le_refl 0) fun _ => ?_
  show zR w kX12_ticks 6 0 0 (some (.int res.1)) (zE zds w [V0, V1, V2, V3, V4, V5, V6, res.2]) 0 [(0, .ref (w.1 + 88)), (1, .int x1)] [] (zE zds w [V0, V1, V2, V3, V4, V5, V6, V7])
  unfold fX12_ticks at h
  refine zR_aload_n dX12_ticks_0 0 rfl ?_
  refine zG_getI dX12_ticks_1 zf_X12_333 zd_88 rfl rfl ?_
  by_cases c6 : (zI V7 0 64) = 0
  · have h := zif_t h c6
    refine zR_if_eq_t (tgt := 30) dX12_ticks_4 (by decide) c6 ?_
    refine zR_iconst (x := (-1 : Int32)) dX12_ticks_30 (by decide) ?_
    have h := Option.some.inj h
    subst h
    exact zR_iret (x := (-1 : Int32)) dX12_ticks_31 rfl rfl
  · have h := zif_f h c6
    refine zR_if_eq_f (tgt := 30) dX12_ticks_4 (by decide) c6 ?_
    refine zR_iload_n dX12_ticks_7 1 rfl ?_
    refine zR_iconst (x := (1 : Int32)) dX12_ticks_8 rfl ?_
    by_cases c7 : x1 < (1 : Int32)
    · have h := zif_t h c7
      refine zR_icmp_lt_t (tgt := 30) dX12_ticks_9 (by decide) c7 ?_
      refine zR_iconst (x := (-1 : Int32)) dX12_ticks_30 (by decide) ?_
      have h := Option.some.inj h
      subst h
      exact zR_iret (x := (-1 : Int32)) dX12_ticks_31 rfl rfl
    · have h := zif_f h c7
      refine zR_icmp_lt_f (tgt := 30) dX12_ticks_9 (by decide) c7 ?_
      refine zR_iload_n dX12_ticks_12 1 rfl ?_
      refine zR_bipush (x := (100 : Int32)) dX12_ticks_13 rfl ?_
      by_cases c8 : (100 : Int32) < x1
      · have h := zif_t h c8
        refine zR_icmp_gt_t (tgt := 30) dX12_ticks_15 (by decide) c8 ?_
        refine zR_iconst (x := (-1 : Int32)) dX12_ticks_30 (by decide) ?_
        have h := Option.some.inj h
        subst h
        exact zR_iret (x := (-1 : Int32)) dX12_ticks_31 rfl rfl
      · have h := zif_f h c8
        refine zR_icmp_gt_f (tgt := 30) dX12_ticks_15 (by decide) c8 ?_
        refine zR_aload_n dX12_ticks_18 0 rfl ?_
        refine zG_getI dX12_ticks_19 zf_X12_395 zd_88 rfl rfl ?_
        refine zR_iload_n dX12_ticks_22 1 rfl ?_
        refine zR_iadd dX12_ticks_23 ?_
        refine zR_sipush (x := (5000 : Int32)) dX12_ticks_24 rfl ?_
        by_cases c9 : ((zI V7 0 68) + x1) ≤ (5000 : Int32)
        · have h := zif_t h c9
          refine zR_icmp_le_t (tgt := 32) dX12_ticks_27 (by decide) c9 ?_
          refine zR_iconst (x := (0 : Int32)) dX12_ticks_32 rfl ?_
          refine zR_istore_n (lv' := [(0, .ref (w.1 + 88)), (1, .int x1), (2, .int (0 : Int32))]) dX12_ticks_33 (Nat.le_of_ble_eq_true rfl) rfl ?_
          refine zR_iconst (x := (0 : Int32)) dX12_ticks_34 rfl ?_
          refine zR_istore_n (lv' := [(0, .ref (w.1 + 88)), (1, .int x1), (2, .int (0 : Int32)), (3, .int (0 : Int32))]) dX12_ticks_35 (Nat.le_of_ble_eq_true rfl) rfl ?_
          exact wX12_ticks_l36 F F V0 V1 V2 V3 V4 V5 V6 V7 x1 (0 : Int32) (0 : Int32) _ h
        · have h := zif_f h c9
          refine zR_icmp_le_f (tgt := 32) dX12_ticks_27 (by decide) c9 ?_
          refine zR_iconst (x := (-1 : Int32)) dX12_ticks_30 (by decide) ?_
          have h := Option.some.inj h
          subst h
          exact zR_iret (x := (-1 : Int32)) dX12_ticks_31 rfl rfl
set_option maxRecDepth 100000 in
set_option maxHeartbeats 4000000 in
theorem mX12_score {w : zW} (F : Nat) (V0 V1 V2 V3 V4 V5 V6 V7 : zV) (res : Int64) (h : fX12_score F V7 = some res) : zMet w kX12_score 0 0 0 [.ref (w.1 + 88)] (zE zds w [V0, V1, V2, V3, V4, V5, V6, V7]) (some (.long res)) (zE zds w [V0, V1, V2, V3, V4, V5, V6, V7]) := by
  refine zMet_of (by decide) (Nat.le_of_ble_eq_true rfl) (Nat.le_refl 0) fun _ => ?_
  show zR w kX12_score 0 0 0 (some (.long res)) (zE zds w [V0, V1, V2, V3, V4, V5, V6, V7]) 0 [(0, .ref (w.1 + 88))] [] (zE zds w [V0, V1, V2, V3, V4, V5, V6, V7])
  unfold fX12_score at h
  refine zR_aload_n dX12_score_0 0 rfl ?_
  refine zG_getI dX12_score_1 zf_X12_333 zd_88 rfl rfl ?_
  by_cases c1 : (zI V7 0 64) = 0
  · have h := zif_t h c1
    refine zR_if_eq_t (tgt := 14) dX12_score_4 (by decide) c1 ?_
    refine zR_ldc2 (x := (-1 : Int64)) dX12_score_14 zk_X12_484 ?_
    have h := Option.some.inj h
    subst h
    exact zR_lret dX12_score_17 rfl
  · have h := zif_f h c1
    refine zR_if_eq_f (tgt := 14) dX12_score_4 (by decide) c1 ?_
    refine zR_aload_n dX12_score_7 0 rfl ?_
    refine zG_getL dX12_score_8 zf_X12_388 zd_88 rfl rfl ?_
    refine zR_goto (tgt := 17) dX12_score_11 (by decide) ?_
    have h := Option.some.inj h
    subst h
    exact zR_lret dX12_score_17 rfl
set_option maxRecDepth 100000 in
set_option maxHeartbeats 4000000 in
theorem mX12_told {w : zW} (F : Nat) (V0 V1 V2 V3 V4 V5 V6 V7 : zV) (x1 : Int32) (x2 : Int32) (res : Int32) (h : fX12_told F V7 x1 x2 = some res) : zMet w kX12_told 1 0 0 [.ref (w.1 + 88), .int x1, .int x2] (zE zds w [V0, V1, V2, V3, V4, V5, V6, V7]) (some (.int res)) (zE zds w [V0, V1, V2, V3, V4, V5, V6, V7]) := by
  refine zMet_of (by decide) (Nat.le_of_ble_eq_true rfl) (Nat.le_refl 0) fun _ => ?_
  show zR w kX12_told 1 0 0 (some (.int res)) (zE zds w [V0, V1, V2, V3, V4, V5, V6, V7]) 0 [(0, .ref (w.1 + 88)), (1, .int x1), (2, .int x2)] [] (zE zds w [V0, V1, V2, V3, V4, V5, V6, V7])
  unfold fX12_told at h
  refine zR_aload_n dX12_told_0 0 rfl ?_
  refine zG_getI dX12_told_1 zf_X12_329 zd_88 rfl rfl ?_
  by_cases c1 : (zI V7 0 20) = 0
  · have h := zif_t h c1
    refine zR_if_eq_t (tgt := 20) dX12_told_4 (by decide) c1 ?_
    refine zR_iconst (x := (-1 : Int32)) dX12_told_20 (by decide) ?_
    have h := Option.some.inj h
    subst h
    exact zR_iret (x := (-1 : Int32)) dX12_told_21 rfl rfl
  · have h := zif_f h c1
    refine zR_if_eq_f (tgt := 20) dX12_told_4 (by decide) c1 ?_
    refine zR_iload_n dX12_told_7 1 rfl ?_
    by_cases c2 : x1 < 0
    · have h := zif_t h c2
      refine zR_if_lt_t (tgt := 20) dX12_told_8 (by decide) c2 ?_
      refine zR_iconst (x := (-1 : Int32)) dX12_told_20 (by decide) ?_
      have h := Option.some.inj h
      subst h
      exact zR_iret (x := (-1 : Int32)) dX12_told_21 rfl rfl
    · have h := zif_f h c2
      refine zR_if_lt_f (tgt := 20) dX12_told_8 (by decide) c2 ?_
      refine zR_iload_n dX12_told_11 1 rfl ?_
      refine zR_aload_n dX12_told_12 0 rfl ?_
      refine zR_iconst (x := (0 : Int32)) dX12_told_13 rfl ?_
      obtain ⟨q3, hq4, h⟩ := zbd_some h
      refine zR_cV (rest := [.int x1]) (st1 := [.int q3, .int x1]) dX12_told_14 (mX12_sort F V0 V1 V2 V3 V4 V5 V6 V7 (0 : Int32) _ hq4) zc_X12_370 rfl (zE_at zd_88) ⟨_, _, rfl⟩ rfl (Nat.le_of_ble_eq_true rfl) (Nat.le_of_ble_eq_true rfl) rfl ?_
      by_cases c5 : x1 < q3
      · have h := zif_t h c5
        refine zR_icmp_lt_t (tgt := 22) dX12_told_17 (by decide) c5 ?_
        refine zR_iload_n dX12_told_22 2 rfl ?_
        refine zR_iconst (x := (3 : Int32)) dX12_told_23 rfl ?_
        by_cases c6 : x2 = (3 : Int32)
        · have h := zif_t h c6
          refine zR_icmp_ne_f (tgt := 42) dX12_told_24 (by decide) c6 ?_
          refine zR_aload_n dX12_told_27 0 rfl ?_
          refine zG_getR dX12_told_28 zf_X12_52 zd_88 rfl rfl ?_
          refine zR_bipush (x := (16 : Int32)) dX12_told_31 rfl ?_
          refine zR_aload_n dX12_told_33 0 rfl ?_
          refine zG_getI dX12_told_34 zf_X12_308 zd_88 rfl rfl ?_
          refine zR_imul dX12_told_37 ?_
          refine zR_iload_n dX12_told_38 1 rfl ?_
          refine zR_iadd dX12_told_39 ?_
          obtain ⟨g15, h⟩ := zchk_some h
          refine zG_iald dX12_told_40 zd_100 rfl rfl g15 ?_
          have h := Option.some.inj h
          subst h
          exact zR_iret (x := (zA V7 12 ((((16 : Int32) * (zI V7 0 18)) + x1)).toNatClampNeg)) dX12_told_41 rfl rfl
        · have h := zif_f h c6
          refine zR_icmp_ne_t (tgt := 42) dX12_told_24 (by decide) c6 ?_
          refine zR_aload_n dX12_told_42 0 rfl ?_
          refine zG_getI dX12_told_43 zf_X12_333 zd_88 rfl rfl ?_
          by_cases c7 : (zI V7 0 64) = 0
          · have h := zif_t h c7
            refine zR_if_ne_f (tgt := 51) dX12_told_46 (by decide) c7 ?_
            refine zR_iconst (x := (-1 : Int32)) dX12_told_49 (by decide) ?_
            have h := Option.some.inj h
            subst h
            exact zR_iret (x := (-1 : Int32)) dX12_told_50 rfl rfl
          · have h := zif_f h c7
            refine zR_if_ne_t (tgt := 51) dX12_told_46 (by decide) c7 ?_
            refine zR_iload_n dX12_told_51 2 rfl ?_
            by_cases c8 : x2 = (0 : Int32)
            · have h := zif_t h c8
              refine zR_tabc (tgt := 80) dX12_told_52 c8 rfl (by decide) ?_
              refine zR_aload_n dX12_told_80 0 rfl ?_
              refine zG_getR dX12_told_81 zf_X12_150 zd_88 rfl rfl ?_
              refine zR_iload_n dX12_told_84 1 rfl ?_
              obtain ⟨g9, h⟩ := zchk_some h
              refine zG_iald dX12_told_85 zd_132 rfl rfl g9 ?_
              have h := Option.some.inj h
              subst h
              exact zR_iret (x := (zA V7 44 (x1).toNatClampNeg)) dX12_told_86 rfl rfl
            · have h := zif_f h c8
              by_cases c10 : x2 = (1 : Int32)
              · have h := zif_t h c10
                refine zR_tabc (tgt := 87) dX12_told_52 c10 rfl (by decide) ?_
                refine zR_aload_n dX12_told_87 0 rfl ?_
                refine zG_getR dX12_told_88 zf_X12_153 zd_88 rfl rfl ?_
                refine zR_iload_n dX12_told_91 1 rfl ?_
                obtain ⟨g11, h⟩ := zchk_some h
                refine zG_iald dX12_told_92 zd_133 rfl rfl g11 ?_
                have h := Option.some.inj h
                subst h
                exact zR_iret (x := (zA V7 45 (x1).toNatClampNeg)) dX12_told_93 rfl rfl
              · have h := zif_f h c10
                by_cases c12 : x2 = (2 : Int32)
                · have h := zif_t h c12
                  refine zR_tabc (tgt := 94) dX12_told_52 c12 rfl (by decide) ?_
                  refine zR_aload_n dX12_told_94 0 rfl ?_
                  refine zG_getR dX12_told_95 zf_X12_159 zd_88 rfl rfl ?_
                  refine zR_iload_n dX12_told_98 1 rfl ?_
                  obtain ⟨g13, h⟩ := zchk_some h
                  refine zG_zald dX12_told_99 zd_135 rfl rfl g13 ?_
                  by_cases c14 : (zA V7 47 (x1).toNatClampNeg) = 0
                  · have h := zif_t h c14
                    refine zR_if_eq_t (tgt := 107) dX12_told_100 (by decide) c14 ?_
                    refine zR_iconst (x := (0 : Int32)) dX12_told_107 rfl ?_
                    have h := Option.some.inj h
                    subst h
                    exact zR_iret (x := (0 : Int32)) dX12_told_108 rfl rfl
                  · have h := zif_f h c14
                    refine zR_if_eq_f (tgt := 107) dX12_told_100 (by decide) c14 ?_
                    refine zR_iconst (x := (1 : Int32)) dX12_told_103 rfl ?_
                    refine zR_goto (tgt := 108) dX12_told_104 (by decide) ?_
                    have h := Option.some.inj h
                    subst h
                    exact zR_iret (x := (1 : Int32)) dX12_told_108 rfl rfl
                · have h := zif_f h c12
                  refine zR_tabO (tgt := 109) dX12_told_52 (by have u0 := zne c8 (n := 0) rfl; have u1 := zne c10 (n := 1) rfl; have u2 := zne c12 (n := 2) rfl; omega) (by decide) ?_
                  refine zR_iconst (x := (-1 : Int32)) dX12_told_109 (by decide) ?_
                  have h := Option.some.inj h
                  subst h
                  exact zR_iret (x := (-1 : Int32)) dX12_told_110 rfl rfl
      · have h := zif_f h c5
        refine zR_icmp_lt_f (tgt := 22) dX12_told_17 (by decide) c5 ?_
        refine zR_iconst (x := (-1 : Int32)) dX12_told_20 (by decide) ?_
        have h := Option.some.inj h
        subst h
        exact zR_iret (x := (-1 : Int32)) dX12_told_21 rfl rfl
set_option maxRecDepth 100000 in
set_option maxHeartbeats 4000000 in
theorem wX12_coil_l64 {w : zW} (F : Nat) : ∀ (n : Nat) (V0 V1 V2 V3 V4 V5 V6 V7 : zV) (x1 : Int32) (x3 : Int32) (res : Int32), fX12_coil_l64 F n V7 x1 x3 = some res → zR w kX12_coil 1 0 0 (some (.int res)) (zE zds w [V0, V1, V2, V3, V4, V5, V6, V7]) 64 [(0, .ref (w.1 + 88)), (1, .int x1), (3, .int x3)] [] (zE zds w [V0, V1, V2, V3, V4, V5, V6, V7]) := by
  intro n
  induction n with
  | zero =>
    intro V0 V1 V2 V3 V4 V5 V6 V7 x1 x3 res h
    simp [fX12_coil_l64] at h
  | succ n ih =>
    intro V0 V1 V2 V3 V4 V5 V6 V7 x1 x3 res h
    rw [fX12_coil_l64] at h
    refine zR_iload_n dX12_coil_64 2 rfl ?_
    refine zR_aload_n dX12_coil_65 0 rfl ?_
    refine zG_getI dX12_coil_66 zf_X12_407 zd_88 rfl rfl ?_
    by_cases c1 : (zI V7 0 85) ≤ x3
    · have h := zif_t h c1
      refine zR_icmp_ge_t (tgt := 90) dX12_coil_69 (by decide) c1 ?_
      refine zR_iconst (x := (-1 : Int32)) dX12_coil_90 (by decide) ?_
      have h := Option.some.inj h
      subst h
      exact zR_iret (x := (-1 : Int32)) dX12_coil_91 rfl rfl
    · have h := zif_f h c1
      refine zR_icmp_ge_f (tgt := 90) dX12_coil_69 (by decide) c1 ?_
      refine zR_aload_n dX12_coil_72 0 rfl ?_
      refine zG_getR dX12_coil_73 zf_X12_183 zd_88 rfl rfl ?_
      refine zR_iload_n dX12_coil_76 2 rfl ?_
      obtain ⟨g2, h⟩ := zchk_some h
      refine zG_iald dX12_coil_77 zd_143 rfl rfl g2 ?_
      refine zR_iload_n dX12_coil_78 1 rfl ?_
      by_cases c3 : (zA V7 55 (x3).toNatClampNeg) = x1
      · have h := zif_t h c3
        refine zR_icmp_ne_f (tgt := 84) dX12_coil_79 (by decide) c3 ?_
        refine zR_iload_n dX12_coil_82 2 rfl ?_
        have h := Option.some.inj h
        subst h
        exact zR_iret (x := x3) dX12_coil_83 rfl rfl
      · have h := zif_f h c3
        refine zR_icmp_ne_t (tgt := 84) dX12_coil_79 (by decide) c3 ?_
        refine zR_iinc (u := (x3 + 1)) (lv' := [(0, .ref (w.1 + 88)), (1, .int x1), (3, .int (x3 + 1))]) dX12_coil_84 2 rfl rfl (Nat.le_of_ble_eq_true rfl) rfl ?_
        refine zR_goto (tgt := 64) dX12_coil_87 (by decide) ?_
        exact ih V0 V1 V2 V3 V4 V5 V6 V7 x1 (x3 + 1) _ h
set_option maxRecDepth 100000 in
set_option maxHeartbeats 4000000 in
theorem mX12_coil {w : zW} (F : Nat) (V0 V1 V2 V3 V4 V5 V6 V7 : zV) (x1 : Int32) (x2 : Int32) (res : Int32) (h : fX12_coil F V7 x1 x2 = some res) : zMet w kX12_coil 1 0 0 [.ref (w.1 + 88), .int x1, .int x2] (zE zds w [V0, V1, V2, V3, V4, V5, V6, V7]) (some (.int res)) (zE zds w [V0, V1, V2, V3, V4, V5, V6, V7]) := by
  refine zMet_of (by decide) (Nat.le_of_ble_eq_true rfl) (Nat.le_refl 0) fun _ => ?_
  show zR w kX12_coil 1 0 0 (some (.int res)) (zE zds w [V0, V1, V2, V3, V4, V5, V6, V7]) 0 [(0, .ref (w.1 + 88)), (1, .int x1), (2, .int x2)] [] (zE zds w [V0, V1, V2, V3, V4, V5, V6, V7])
  unfold fX12_coil at h
  refine zR_aload_n dX12_coil_0 0 rfl ?_
  refine zG_getI dX12_coil_1 zf_X12_333 zd_88 rfl rfl ?_
  by_cases c4 : (zI V7 0 64) = 0
  · have h := zif_t h c4
    refine zR_if_eq_t (tgt := 20) dX12_coil_4 (by decide) c4 ?_
    refine zR_iconst (x := (-1 : Int32)) dX12_coil_20 (by decide) ?_
    have h := Option.some.inj h
    subst h
    exact zR_iret (x := (-1 : Int32)) dX12_coil_21 rfl rfl
  · have h := zif_f h c4
    refine zR_if_eq_f (tgt := 20) dX12_coil_4 (by decide) c4 ?_
    refine zR_iload_n dX12_coil_7 1 rfl ?_
    by_cases c5 : x1 < 0
    · have h := zif_t h c5
      refine zR_if_lt_t (tgt := 20) dX12_coil_8 (by decide) c5 ?_
      refine zR_iconst (x := (-1 : Int32)) dX12_coil_20 (by decide) ?_
      have h := Option.some.inj h
      subst h
      exact zR_iret (x := (-1 : Int32)) dX12_coil_21 rfl rfl
    · have h := zif_f h c5
      refine zR_if_lt_f (tgt := 20) dX12_coil_8 (by decide) c5 ?_
      refine zR_iload_n dX12_coil_11 1 rfl ?_
      refine zR_aload_n dX12_coil_12 0 rfl ?_
      refine zR_iconst (x := (1 : Int32)) dX12_coil_13 rfl ?_
      obtain ⟨q6, hq7, h⟩ := zbd_some h
      refine zR_cV (rest := [.int x1]) (st1 := [.int q6, .int x1]) dX12_coil_14 (mX12_sort F V0 V1 V2 V3 V4 V5 V6 V7 (1 : Int32) _ hq7) zc_X12_370 rfl (zE_at zd_88) ⟨_, _, rfl⟩ rfl (Nat.le_of_ble_eq_true rfl) (Nat.le_of_ble_eq_true rfl) rfl ?_
      by_cases c8 : x1 < q6
      · have h := zif_t h c8
        refine zR_icmp_lt_t (tgt := 22) dX12_coil_17 (by decide) c8 ?_
        refine zR_iload_n dX12_coil_22 2 rfl ?_
        by_cases c9 : x2 = (0 : Int32)
        · have h := zif_t h c9
          refine zR_tabc (tgt := 48) dX12_coil_23 c9 rfl (by decide) ?_
          refine zR_aload_n dX12_coil_48 0 rfl ?_
          refine zG_getR dX12_coil_49 zf_X12_177 zd_88 rfl rfl ?_
          refine zR_iload_n dX12_coil_52 1 rfl ?_
          obtain ⟨g10, h⟩ := zchk_some h
          refine zG_iald dX12_coil_53 zd_141 rfl rfl g10 ?_
          have h := Option.some.inj h
          subst h
          exact zR_iret (x := (zA V7 53 (x1).toNatClampNeg)) dX12_coil_54 rfl rfl
        · have h := zif_f h c9
          by_cases c11 : x2 = (1 : Int32)
          · have h := zif_t h c11
            refine zR_tabc (tgt := 55) dX12_coil_23 c11 rfl (by decide) ?_
            refine zR_aload_n dX12_coil_55 0 rfl ?_
            refine zG_getR dX12_coil_56 zf_X12_180 zd_88 rfl rfl ?_
            refine zR_iload_n dX12_coil_59 1 rfl ?_
            obtain ⟨g12, h⟩ := zchk_some h
            refine zG_iald dX12_coil_60 zd_142 rfl rfl g12 ?_
            have h := Option.some.inj h
            subst h
            exact zR_iret (x := (zA V7 54 (x1).toNatClampNeg)) dX12_coil_61 rfl rfl
          · have h := zif_f h c11
            by_cases c13 : x2 = (2 : Int32)
            · have h := zif_t h c13
              refine zR_tabc (tgt := 62) dX12_coil_23 c13 rfl (by decide) ?_
              refine zR_iconst (x := (0 : Int32)) dX12_coil_62 rfl ?_
              refine zR_istore_n (lv' := [(0, .ref (w.1 + 88)), (1, .int x1), (2, .int x2), (3, .int (0 : Int32))]) dX12_coil_63 (Nat.le_of_ble_eq_true rfl) rfl ?_
              refine zR_sub (lv' := [(0, .ref (w.1 + 88)), (1, .int x1), (3, .int (0 : Int32))]) [0, 1, 3] rfl ?_
              exact wX12_coil_l64 F F V0 V1 V2 V3 V4 V5 V6 V7 x1 (0 : Int32) _ h
            · have h := zif_f h c13
              refine zR_tabO (tgt := 92) dX12_coil_23 (by have u0 := zne c9 (n := 0) rfl; have u1 := zne c11 (n := 1) rfl; have u2 := zne c13 (n := 2) rfl; omega) (by decide) ?_
              refine zR_iconst (x := (-1 : Int32)) dX12_coil_92 (by decide) ?_
              have h := Option.some.inj h
              subst h
              exact zR_iret (x := (-1 : Int32)) dX12_coil_93 rfl rfl
      · have h := zif_f h c8
        refine zR_icmp_lt_f (tgt := 22) dX12_coil_17 (by decide) c8 ?_
        refine zR_iconst (x := (-1 : Int32)) dX12_coil_20 (by decide) ?_
        have h := Option.some.inj h
        subst h
        exact zR_iret (x := (-1 : Int32)) dX12_coil_21 rfl rfl
set_option maxRecDepth 100000 in
set_option maxHeartbeats 4000000 in
theorem wX12_lamp_b272 {w : zW} (F : Nat) (k55 : zV → Int32 → Int32 → Option (Int32 × zV)) (hk55 : ∀ (V0 V1 V2 V3 V4 V5 V6 V7 : zV) (x2 : Int32) (x3 : Int32) (res : Int32 × zV), k55 V7 x2 x3 = some res → zR w kX12_lamp 2 0 0 (some (.int res.1)) (zE zds w [V0, V1, V2, V3, V4, V5, V6, res.2]) 55 [(0, .ref (w.1 + 88)), (2, .int x2), (3, .int x3)] [] (zE zds w [V0, V1, V2, V3, V4, V5, V6, V7])) (V0 V1 V2 V3 V4 V5 V6 V7 : zV) (x2 : Int32) (x3 : Int32) (res : Int32 × zV) (h : fX12_lamp_b272 F k55 V7 x2 x3 = some res) : zR w kX12_lamp 2 0 0 (some (.int res.1)) (zE zds w [V0, V1, V2, V3, V4, V5, V6, res.2]) 272 [(0, .ref (w.1 + 88)), (2, .int x2), (3, .int x3)] [] (zE zds w [V0, V1, V2, V3, V4, V5, V6, V7]) := by
  unfold fX12_lamp_b272 at h
  refine zR_iinc (u := (x3 + 1)) (lv' := [(0, .ref (w.1 + 88)), (2, .int x2), (3, .int (x3 + 1))]) dX12_lamp_272 2 rfl rfl (Nat.le_of_ble_eq_true rfl) rfl ?_
  refine zR_goto (tgt := 55) dX12_lamp_275 (by decide) ?_
  exact hk55 V0 V1 V2 V3 V4 V5 V6 V7 x2 (x3 + 1) _ h
set_option maxRecDepth 100000 in
set_option maxHeartbeats 4000000 in
theorem wX12_lamp_b266 {w : zW} (F : Nat) (k103 : zV → Int32 → Int32 → Int32 → Int32 → Option (Int32 × zV)) (hk103 : ∀ (V0 V1 V2 V3 V4 V5 V6 V7 : zV) (x2 : Int32) (x3 : Int32) (x4 : Int32) (x5 : Int32) (res : Int32 × zV), k103 V7 x2 x3 x4 x5 = some res → zR w kX12_lamp 2 0 0 (some (.int res.1)) (zE zds w [V0, V1, V2, V3, V4, V5, V6, res.2]) 103 [(0, .ref (w.1 + 88)), (2, .int x2), (3, .int x3), (4, .int x4), (5, .int x5)] [] (zE zds w [V0, V1, V2, V3, V4, V5, V6, V7])) (V0 V1 V2 V3 V4 V5 V6 V7 : zV) (x2 : Int32) (x3 : Int32) (x4 : Int32) (x5 : Int32) (res : Int32 × zV) (h : fX12_lamp_b266 F k103 V7 x2 x3 x4 x5 = some res) : zR w kX12_lamp 2 0 0 (some (.int res.1)) (zE zds w [V0, V1, V2, V3, V4, V5, V6, res.2]) 266 [(0, .ref (w.1 + 88)), (2, .int x2), (3, .int x3), (4, .int x4), (5, .int x5)] [] (zE zds w [V0, V1, V2, V3, V4, V5, V6, V7]) := by
  unfold fX12_lamp_b266 at h
  refine zR_iinc (u := (x5 + 1)) (lv' := [(0, .ref (w.1 + 88)), (2, .int x2), (3, .int x3), (4, .int x4), (5, .int (x5 + 1))]) dX12_lamp_266 4 rfl rfl (Nat.le_of_ble_eq_true rfl) rfl ?_
  refine zR_goto (tgt := 103) dX12_lamp_269 (by decide) ?_
  exact hk103 V0 V1 V2 V3 V4 V5 V6 V7 x2 x3 x4 (x5 + 1) _ h
set_option maxRecDepth 100000 in
set_option maxHeartbeats 4000000 in
theorem wX12_lamp_b253 {w : zW} (F : Nat) (k178 : zV → Int32 → Int32 → Int32 → Int32 → Int32 → Int32 → Option (Int32 × zV)) (hk178 : ∀ (V0 V1 V2 V3 V4 V5 V6 V7 : zV) (x2 : Int32) (x3 : Int32) (x4 : Int32) (x5 : Int32) (x6 : Int32) (x7 : Int32) (res : Int32 × zV), k178 V7 x2 x3 x4 x5 x6 x7 = some res → zR w kX12_lamp 2 0 0 (some (.int res.1)) (zE zds w [V0, V1, V2, V3, V4, V5, V6, res.2]) 178 [(0, .ref (w.1 + 88)), (2, .int x2), (3, .int x3), (4, .int x4), (5, .int x5), (6, .int x6), (7, .int x7)] [] (zE zds w [V0, V1, V2, V3, V4, V5, V6, V7])) (V0 V1 V2 V3 V4 V5 V6 V7 : zV) (x2 : Int32) (x3 : Int32) (x4 : Int32) (x5 : Int32) (x6 : Int32) (x7 : Int32) (res : Int32 × zV) (h : fX12_lamp_b253 F k178 V7 x2 x3 x4 x5 x6 x7 = some res) : zR w kX12_lamp 2 0 0 (some (.int res.1)) (zE zds w [V0, V1, V2, V3, V4, V5, V6, res.2]) 253 [(0, .ref (w.1 + 88)), (2, .int x2), (3, .int x3), (4, .int x4), (5, .int x5), (6, .int x6), (7, .int x7)] [] (zE zds w [V0, V1, V2, V3, V4, V5, V6, V7]) := by
  unfold fX12_lamp_b253 at h
  refine zR_iinc (u := (x7 + 1)) (lv' := [(0, .ref (w.1 + 88)), (2, .int x2), (3, .int x3), (4, .int x4), (5, .int x5), (6, .int x6), (7, .int (x7 + 1))]) dX12_lamp_253 6 rfl rfl (Nat.le_of_ble_eq_true rfl) rfl ?_
  refine zR_goto (tgt := 178) dX12_lamp_256 (by decide) ?_
  exact hk178 V0 V1 V2 V3 V4 V5 V6 V7 x2 x3 x4 x5 x6 (x7 + 1) _ h
set_option maxRecDepth 100000 in
set_option maxHeartbeats 4000000 in
theorem wX12_lamp_l178 {w : zW} (F : Nat) (k103 : zV → Int32 → Int32 → Int32 → Int32 → Option (Int32 × zV)) (hk103 : ∀ (V0 V1 V2 V3 V4 V5 V6 V7 : zV) (x2 : Int32) (x3 : Int32) (x4 : Int32) (x5 : Int32) (res : Int32 × zV), k103 V7 x2 x3 x4 x5 = some res → zR w kX12_lamp 2 0 0 (some (.int res.1)) (zE zds w [V0, V1, V2, V3, V4, V5, V6, res.2]) 103 [(0, .ref (w.1 + 88)), (2, .int x2), (3, .int x3), (4, .int x4), (5, .int x5)] [] (zE zds w [V0, V1, V2, V3, V4, V5, V6, V7])) : ∀ (n : Nat) (V0 V1 V2 V3 V4 V5 V6 V7 : zV) (x2 : Int32) (x3 : Int32) (x4 : Int32) (x5 : Int32) (x6 : Int32) (x7 : Int32) (res : Int32 × zV), fX12_lamp_l178 F k103 n V7 x2 x3 x4 x5 x6 x7 = some res → zR w kX12_lamp 2 0 0 (some (.int res.1)) (zE zds w [V0, V1, V2, V3, V4, V5, V6, res.2]) 178 [(0, .ref (w.1 + 88)), (2, .int x2), (3, .int x3), (4, .int x4), (5, .int x5), (6, .int x6), (7, .int x7)] [] (zE zds w [V0, V1, V2, V3, V4, V5, V6, V7]) := by
  intro n
  induction n with
  | zero =>
    intro V0 V1 V2 V3 V4 V5 V6 V7 x2 x3 x4 x5 x6 x7 res h
    simp [fX12_lamp_l178] at h
  | succ n ih =>
    intro V0 V1 V2 V3 V4 V5 V6 V7 x2 x3 x4 x5 x6 x7 res h
    rw [fX12_lamp_l178] at h
    refine zR_iload dX12_lamp_178 6 rfl ?_
    refine zR_aload_n dX12_lamp_180 0 rfl ?_
    refine zG_getR dX12_lamp_181 zf_X12_94 zd_88 rfl rfl ?_
    refine zR_bipush (x := (81 : Int32)) dX12_lamp_184 rfl ?_
    refine zR_aload_n dX12_lamp_186 0 rfl ?_
    refine zG_getI dX12_lamp_187 zf_X12_308 zd_88 rfl rfl ?_
    refine zR_imul dX12_lamp_190 ?_
    refine zR_iload dX12_lamp_191 4 rfl ?_
    refine zR_iadd dX12_lamp_193 ?_
    refine zR_iconst (x := (1 : Int32)) dX12_lamp_194 rfl ?_
    refine zR_iadd dX12_lamp_195 ?_
    obtain ⟨g1, h⟩ := zchk_some h
    refine zG_iald dX12_lamp_196 zd_114 rfl rfl g1 ?_
    by_cases c2 : (zA V7 26 (((((81 : Int32) * (zI V7 0 18)) + x5) + (1 : Int32))).toNatClampNeg) ≤ x7
    · have h := zif_t h c2
      refine zR_icmp_ge_t (tgt := 259) dX12_lamp_197 (by decide) c2 ?_
      refine zR_iload dX12_lamp_259 5 rfl ?_
      by_cases c3 : x6 = 0
      · have h := zif_t h c3
        refine zR_if_eq_t (tgt := 266) dX12_lamp_261 (by decide) c3 ?_
        refine zR_sub (lv' := [(0, .ref (w.1 + 88)), (2, .int x2), (3, .int x3), (4, .int x4), (5, .int x5)]) [0, 1, 2, 3, 4] rfl ?_
        exact wX12_lamp_b266 F k103 hk103 V0 V1 V2 V3 V4 V5 V6 V7 x2 x3 x4 x5 _ h
      · have h := zif_f h c3
        refine zR_if_eq_f (tgt := 266) dX12_lamp_261 (by decide) c3 ?_
        refine zR_iconst (x := (0 : Int32)) dX12_lamp_264 rfl ?_
        have h := Option.some.inj h
        subst h
        exact zR_iret (x := (0 : Int32)) dX12_lamp_265 rfl rfl
    · have h := zif_f h c2
      refine zR_icmp_ge_f (tgt := 259) dX12_lamp_197 (by decide) c2 ?_
      refine zR_aload_n dX12_lamp_200 0 rfl ?_
      refine zG_getR dX12_lamp_201 zf_X12_109 zd_88 rfl rfl ?_
      refine zR_iload dX12_lamp_204 6 rfl ?_
      obtain ⟨g4, h⟩ := zchk_some h
      refine zG_iald dX12_lamp_206 zd_119 rfl rfl g4 ?_
      refine zR_bipush (x := (35 : Int32)) dX12_lamp_207 rfl ?_
      by_cases c5 : (zA V7 31 (x7).toNatClampNeg) = (35 : Int32)
      · have h := zif_t h c5
        refine zR_icmp_eq_t (tgt := 236) dX12_lamp_209 (by decide) c5 ?_
        refine zR_iconst (x := (1 : Int32)) dX12_lamp_236 rfl ?_
        have h := Option.some.inj h
        subst h
        exact zR_iret (x := (1 : Int32)) dX12_lamp_237 rfl rfl
      · have h := zif_f h c5
        refine zR_icmp_eq_f (tgt := 236) dX12_lamp_209 (by decide) c5 ?_
        refine zR_aload_n dX12_lamp_212 0 rfl ?_
        refine zG_getR dX12_lamp_213 zf_X12_109 zd_88 rfl rfl ?_
        refine zR_iload dX12_lamp_216 6 rfl ?_
        obtain ⟨g6, h⟩ := zchk_some h
        refine zG_iald dX12_lamp_218 zd_119 rfl rfl g6 ?_
        refine zR_bipush (x := (37 : Int32)) dX12_lamp_219 rfl ?_
        by_cases c7 : (zA V7 31 (x7).toNatClampNeg) = (37 : Int32)
        · have h := zif_t h c7
          refine zR_icmp_eq_t (tgt := 236) dX12_lamp_221 (by decide) c7 ?_
          refine zR_iconst (x := (1 : Int32)) dX12_lamp_236 rfl ?_
          have h := Option.some.inj h
          subst h
          exact zR_iret (x := (1 : Int32)) dX12_lamp_237 rfl rfl
        · have h := zif_f h c7
          refine zR_icmp_eq_f (tgt := 236) dX12_lamp_221 (by decide) c7 ?_
          refine zR_aload_n dX12_lamp_224 0 rfl ?_
          refine zG_getR dX12_lamp_225 zf_X12_109 zd_88 rfl rfl ?_
          refine zR_iload dX12_lamp_228 6 rfl ?_
          obtain ⟨g8, h⟩ := zchk_some h
          refine zG_iald dX12_lamp_230 zd_119 rfl rfl g8 ?_
          refine zR_bipush (x := (42 : Int32)) dX12_lamp_231 rfl ?_
          by_cases c9 : (zA V7 31 (x7).toNatClampNeg) = (42 : Int32)
          · have h := zif_t h c9
            refine zR_icmp_ne_f (tgt := 238) dX12_lamp_233 (by decide) c9 ?_
            refine zR_iconst (x := (1 : Int32)) dX12_lamp_236 rfl ?_
            have h := Option.some.inj h
            subst h
            exact zR_iret (x := (1 : Int32)) dX12_lamp_237 rfl rfl
          · have h := zif_f h c9
            refine zR_icmp_ne_t (tgt := 238) dX12_lamp_233 (by decide) c9 ?_
            refine zR_aload_n dX12_lamp_238 0 rfl ?_
            refine zG_getR dX12_lamp_239 zf_X12_109 zd_88 rfl rfl ?_
            refine zR_iload dX12_lamp_242 6 rfl ?_
            obtain ⟨g10, h⟩ := zchk_some h
            refine zG_iald dX12_lamp_244 zd_119 rfl rfl g10 ?_
            refine zR_bipush (x := (40 : Int32)) dX12_lamp_245 rfl ?_
            by_cases c11 : (zA V7 31 (x7).toNatClampNeg) = (40 : Int32)
            · have h := zif_t h c11
              refine zR_icmp_ne_f (tgt := 253) dX12_lamp_247 (by decide) c11 ?_
              refine zR_iconst (x := (1 : Int32)) dX12_lamp_250 rfl ?_
              refine zR_istore (lv' := [(0, .ref (w.1 + 88)), (2, .int x2), (3, .int x3), (4, .int x4), (5, .int x5), (6, .int (1 : Int32)), (7, .int x7)]) dX12_lamp_251 (Nat.le_of_ble_eq_true rfl) rfl ?_
              exact wX12_lamp_b253 F (fX12_lamp_l178 F k103 n) ih V0 V1 V2 V3 V4 V5 V6 V7 x2 x3 x4 x5 (1 : Int32) x7 _ h
            · have h := zif_f h c11
              refine zR_icmp_ne_t (tgt := 253) dX12_lamp_247 (by decide) c11 ?_
              exact wX12_lamp_b253 F (fX12_lamp_l178 F k103 n) ih V0 V1 V2 V3 V4 V5 V6 V7 x2 x3 x4 x5 x6 x7 _ h
set_option maxRecDepth 100000 in
set_option maxHeartbeats 4000000 in
theorem wX12_lamp_l103 {w : zW} (F : Nat) (k55 : zV → Int32 → Int32 → Option (Int32 × zV)) (hk55 : ∀ (V0 V1 V2 V3 V4 V5 V6 V7 : zV) (x2 : Int32) (x3 : Int32) (res : Int32 × zV), k55 V7 x2 x3 = some res → zR w kX12_lamp 2 0 0 (some (.int res.1)) (zE zds w [V0, V1, V2, V3, V4, V5, V6, res.2]) 55 [(0, .ref (w.1 + 88)), (2, .int x2), (3, .int x3)] [] (zE zds w [V0, V1, V2, V3, V4, V5, V6, V7])) : ∀ (n : Nat) (V0 V1 V2 V3 V4 V5 V6 V7 : zV) (x2 : Int32) (x3 : Int32) (x4 : Int32) (x5 : Int32) (res : Int32 × zV), fX12_lamp_l103 F k55 n V7 x2 x3 x4 x5 = some res → zR w kX12_lamp 2 0 0 (some (.int res.1)) (zE zds w [V0, V1, V2, V3, V4, V5, V6, res.2]) 103 [(0, .ref (w.1 + 88)), (2, .int x2), (3, .int x3), (4, .int x4), (5, .int x5)] [] (zE zds w [V0, V1, V2, V3, V4, V5, V6, V7]) := by
  intro n
  induction n with
  | zero =>
    intro V0 V1 V2 V3 V4 V5 V6 V7 x2 x3 x4 x5 res h
    simp [fX12_lamp_l103] at h
  | succ n ih =>
    intro V0 V1 V2 V3 V4 V5 V6 V7 x2 x3 x4 x5 res h
    rw [fX12_lamp_l103] at h
    refine zR_iload dX12_lamp_103 4 rfl ?_
    refine zR_aload_n dX12_lamp_105 0 rfl ?_
    refine zG_getR dX12_lamp_106 zf_X12_85 zd_88 rfl rfl ?_
    refine zR_bipush (x := (13 : Int32)) dX12_lamp_109 rfl ?_
    refine zR_aload_n dX12_lamp_111 0 rfl ?_
    refine zG_getI dX12_lamp_112 zf_X12_308 zd_88 rfl rfl ?_
    refine zR_imul dX12_lamp_115 ?_
    refine zR_iload dX12_lamp_116 3 rfl ?_
    refine zR_iadd dX12_lamp_118 ?_
    refine zR_iconst (x := (1 : Int32)) dX12_lamp_119 rfl ?_
    refine zR_iadd dX12_lamp_120 ?_
    obtain ⟨g12, h⟩ := zchk_some h
    refine zG_iald dX12_lamp_121 zd_111 rfl rfl g12 ?_
    by_cases c13 : (zA V7 23 (((((13 : Int32) * (zI V7 0 18)) + x4) + (1 : Int32))).toNatClampNeg) ≤ x5
    · have h := zif_t h c13
      refine zR_icmp_ge_t (tgt := 272) dX12_lamp_122 (by decide) c13 ?_
      refine zR_sub (lv' := [(0, .ref (w.1 + 88)), (2, .int x2), (3, .int x3)]) [0, 1, 2] rfl ?_
      exact wX12_lamp_b272 F k55 hk55 V0 V1 V2 V3 V4 V5 V6 V7 x2 x3 _ h
    · have h := zif_f h c13
      refine zR_icmp_ge_f (tgt := 272) dX12_lamp_122 (by decide) c13 ?_
      refine zR_aload_n dX12_lamp_125 0 rfl ?_
      refine zG_getR dX12_lamp_126 zf_X12_88 zd_88 rfl rfl ?_
      refine zR_bipush (x := (80 : Int32)) dX12_lamp_129 rfl ?_
      refine zR_aload_n dX12_lamp_131 0 rfl ?_
      refine zG_getI dX12_lamp_132 zf_X12_308 zd_88 rfl rfl ?_
      refine zR_imul dX12_lamp_135 ?_
      refine zR_iload dX12_lamp_136 4 rfl ?_
      refine zR_iadd dX12_lamp_138 ?_
      obtain ⟨g14, h⟩ := zchk_some h
      refine zG_iald dX12_lamp_139 zd_112 rfl rfl g14 ?_
      refine zR_iload_n dX12_lamp_140 1 rfl ?_
      by_cases c15 : (zA V7 24 ((((80 : Int32) * (zI V7 0 18)) + x5)).toNatClampNeg) = x2
      · have h := zif_t h c15
        refine zR_icmp_ne_f (tgt := 266) dX12_lamp_141 (by decide) c15 ?_
        refine zR_aload_n dX12_lamp_144 0 rfl ?_
        refine zR_iload dX12_lamp_145 4 rfl ?_
        refine zR_iload dX12_lamp_147 3 rfl ?_
        obtain ⟨q16, hq17, h⟩ := zbd_some h
        refine zR_cV (rest := []) (st1 := [.int q16.1]) dX12_lamp_149 (mX12_holds F V0 V1 V2 V3 V4 V5 V6 V7 x5 x4 _ hq17) zc_X12_462 rfl (zE_at zd_88) ⟨_, _, rfl⟩ rfl (Nat.le_of_ble_eq_true rfl) (Nat.le_of_ble_eq_true rfl) rfl ?_
        by_cases c18 : q16.1 = 0
        · have h := zif_t h c18
          refine zR_if_ne_f (tgt := 158) dX12_lamp_152 (by decide) c18 ?_
          refine zR_goto (tgt := 266) dX12_lamp_155 (by decide) ?_
          exact wX12_lamp_b266 F (fX12_lamp_l103 F k55 n) ih V0 V1 V2 V3 V4 V5 V6 q16.2 x2 x3 x4 x5 _ h
        · have h := zif_f h c18
          refine zR_if_ne_t (tgt := 158) dX12_lamp_152 (by decide) c18 ?_
          refine zR_iconst (x := (0 : Int32)) dX12_lamp_158 rfl ?_
          refine zR_istore (lv' := [(0, .ref (w.1 + 88)), (2, .int x2), (3, .int x3), (4, .int x4), (5, .int x5), (6, .int (0 : Int32))]) dX12_lamp_159 (Nat.le_of_ble_eq_true rfl) rfl ?_
          refine zR_aload_n dX12_lamp_161 0 rfl ?_
          refine zG_getR dX12_lamp_162 zf_X12_94 zd_88 rfl rfl ?_
          refine zR_bipush (x := (81 : Int32)) dX12_lamp_165 rfl ?_
          refine zR_aload_n dX12_lamp_167 0 rfl ?_
          refine zG_getI dX12_lamp_168 zf_X12_308 zd_88 rfl rfl ?_
          refine zR_imul dX12_lamp_171 ?_
          refine zR_iload dX12_lamp_172 4 rfl ?_
          refine zR_iadd dX12_lamp_174 ?_
          obtain ⟨g19, h⟩ := zchk_some h
          refine zG_iald dX12_lamp_175 zd_114 rfl rfl g19 ?_
          obtain ⟨y20, e21, h⟩ := zlet_some h
          refine zR_nmI e21 ?_
          refine zR_istore (lv' := [(0, .ref (w.1 + 88)), (2, .int x2), (3, .int x3), (4, .int x4), (5, .int x5), (6, .int (0 : Int32)), (7, .int y20)]) dX12_lamp_176 (Nat.le_of_ble_eq_true rfl) rfl ?_
          exact wX12_lamp_l178 F (fX12_lamp_l103 F k55 n) ih F V0 V1 V2 V3 V4 V5 V6 q16.2 x2 x3 x4 x5 (0 : Int32) y20 _ h
      · have h := zif_f h c15
        refine zR_icmp_ne_t (tgt := 266) dX12_lamp_141 (by decide) c15 ?_
        exact wX12_lamp_b266 F (fX12_lamp_l103 F k55 n) ih V0 V1 V2 V3 V4 V5 V6 V7 x2 x3 x4 x5 _ h
set_option maxRecDepth 100000 in
set_option maxHeartbeats 4000000 in
theorem wX12_lamp_l55 {w : zW} (F : Nat) : ∀ (n : Nat) (V0 V1 V2 V3 V4 V5 V6 V7 : zV) (x2 : Int32) (x3 : Int32) (res : Int32 × zV), fX12_lamp_l55 F n V7 x2 x3 = some res → zR w kX12_lamp 2 0 0 (some (.int res.1)) (zE zds w [V0, V1, V2, V3, V4, V5, V6, res.2]) 55 [(0, .ref (w.1 + 88)), (2, .int x2), (3, .int x3)] [] (zE zds w [V0, V1, V2, V3, V4, V5, V6, V7]) := by
  intro n
  induction n with
  | zero =>
    intro V0 V1 V2 V3 V4 V5 V6 V7 x2 x3 res h
    simp [fX12_lamp_l55] at h
  | succ n ih =>
    intro V0 V1 V2 V3 V4 V5 V6 V7 x2 x3 res h
    rw [fX12_lamp_l55] at h
    refine zR_iload_n dX12_lamp_55 2 rfl ?_
    refine zR_aload_n dX12_lamp_56 0 rfl ?_
    refine zR_bipush (x := (7 : Int32)) dX12_lamp_57 rfl ?_
    obtain ⟨q22, hq23, h⟩ := zbd_some h
    refine zR_cV (rest := [.int x3]) (st1 := [.int q22, .int x3]) dX12_lamp_59 (mX12_sort F V0 V1 V2 V3 V4 V5 V6 V7 (7 : Int32) _ hq23) zc_X12_370 rfl (zE_at zd_88) ⟨_, _, rfl⟩ rfl (Nat.le_of_ble_eq_true rfl) (Nat.le_of_ble_eq_true rfl) rfl ?_
    by_cases c24 : q22 ≤ x3
    · have h := zif_t h c24
      refine zR_icmp_ge_t (tgt := 278) dX12_lamp_62 (by decide) c24 ?_
      refine zR_iconst (x := (0 : Int32)) dX12_lamp_278 rfl ?_
      have h := Option.some.inj h
      subst h
      exact zR_iret (x := (0 : Int32)) dX12_lamp_279 rfl rfl
    · have h := zif_f h c24
      refine zR_icmp_ge_f (tgt := 278) dX12_lamp_62 (by decide) c24 ?_
      refine zR_aload_n dX12_lamp_65 0 rfl ?_
      refine zG_getR dX12_lamp_66 zf_X12_186 zd_88 rfl rfl ?_
      refine zR_iload_n dX12_lamp_69 2 rfl ?_
      obtain ⟨g25, h⟩ := zchk_some h
      refine zG_iald dX12_lamp_70 zd_144 rfl rfl g25 ?_
      obtain ⟨y26, e27, h⟩ := zlet_some h
      refine zR_nmI e27 ?_
      refine zR_istore (lv' := [(0, .ref (w.1 + 88)), (2, .int x2), (3, .int x3), (4, .int y26)]) dX12_lamp_71 (Nat.le_of_ble_eq_true rfl) rfl ?_
      refine zR_aload_n dX12_lamp_73 0 rfl ?_
      refine zG_getR dX12_lamp_74 zf_X12_165 zd_88 rfl rfl ?_
      refine zR_iload dX12_lamp_77 3 rfl ?_
      obtain ⟨g28, h⟩ := zchk_some h
      refine zG_zald dX12_lamp_79 zd_137 rfl rfl g28 ?_
      by_cases c29 : (zA V7 49 (y26).toNatClampNeg) = 0
      · have h := zif_t h c29
        refine zR_if_ne_f (tgt := 86) dX12_lamp_80 (by decide) c29 ?_
        refine zR_goto (tgt := 272) dX12_lamp_83 (by decide) ?_
        refine zR_sub (lv' := [(0, .ref (w.1 + 88)), (2, .int x2), (3, .int x3)]) [0, 1, 2] rfl ?_
        exact wX12_lamp_b272 F (fX12_lamp_l55 F n) ih V0 V1 V2 V3 V4 V5 V6 V7 x2 x3 _ h
      · have h := zif_f h c29
        refine zR_if_ne_t (tgt := 86) dX12_lamp_80 (by decide) c29 ?_
        refine zR_aload_n dX12_lamp_86 0 rfl ?_
        refine zG_getR dX12_lamp_87 zf_X12_85 zd_88 rfl rfl ?_
        refine zR_bipush (x := (13 : Int32)) dX12_lamp_90 rfl ?_
        refine zR_aload_n dX12_lamp_92 0 rfl ?_
        refine zG_getI dX12_lamp_93 zf_X12_308 zd_88 rfl rfl ?_
        refine zR_imul dX12_lamp_96 ?_
        refine zR_iload dX12_lamp_97 3 rfl ?_
        refine zR_iadd dX12_lamp_99 ?_
        obtain ⟨g30, h⟩ := zchk_some h
        refine zG_iald dX12_lamp_100 zd_111 rfl rfl g30 ?_
        obtain ⟨y31, e32, h⟩ := zlet_some h
        refine zR_nmI e32 ?_
        refine zR_istore (lv' := [(0, .ref (w.1 + 88)), (2, .int x2), (3, .int x3), (4, .int y26), (5, .int y31)]) dX12_lamp_101 (Nat.le_of_ble_eq_true rfl) rfl ?_
        exact wX12_lamp_l103 F (fX12_lamp_l55 F n) ih F V0 V1 V2 V3 V4 V5 V6 V7 x2 x3 y26 y31 _ h
set_option maxRecDepth 100000 in
set_option maxHeartbeats 4000000 in
theorem mX12_lamp {w : zW} (F : Nat) (V0 V1 V2 V3 V4 V5 V6 V7 : zV) (x1 : Int32) (res : Int32 × zV) (h : fX12_lamp F V7 x1 = some res) : zMet w kX12_lamp 2 0 0 [.ref (w.1 + 88), .int x1] (zE zds w [V0, V1, V2, V3, V4, V5, V6, V7]) (some (.int res.1)) (zE zds w [V0, V1, V2, V3, V4, V5, V6, res.2]) := by
  refine zMet_of (by decide) (Nat.le_of_ble_eq_true rfl) (Nat.le_refl 0) fun _ => ?_
  show zR w kX12_lamp 2 0 0 (some (.int res.1)) (zE zds w [V0, V1, V2, V3, V4, V5, V6, res.2]) 0 [(0, .ref (w.1 + 88)), (1, .int x1)] [] (zE zds w [V0, V1, V2, V3, V4, V5, V6, V7])
  unfold fX12_lamp at h
  refine zR_aload_n dX12_lamp_0 0 rfl ?_
  refine zG_getI dX12_lamp_1 zf_X12_333 zd_88 rfl rfl ?_
  by_cases c33 : (zI V7 0 64) = 0
  · have h := zif_t h c33
    refine zR_if_eq_t (tgt := 20) dX12_lamp_4 (by decide) c33 ?_
    refine zR_iconst (x := (-1 : Int32)) dX12_lamp_20 (by decide) ?_
    have h := Option.some.inj h
    subst h
    exact zR_iret (x := (-1 : Int32)) dX12_lamp_21 rfl rfl
  · have h := zif_f h c33
    refine zR_if_eq_f (tgt := 20) dX12_lamp_4 (by decide) c33 ?_
    refine zR_iload_n dX12_lamp_7 1 rfl ?_
    by_cases c34 : x1 < 0
    · have h := zif_t h c34
      refine zR_if_lt_t (tgt := 20) dX12_lamp_8 (by decide) c34 ?_
      refine zR_iconst (x := (-1 : Int32)) dX12_lamp_20 (by decide) ?_
      have h := Option.some.inj h
      subst h
      exact zR_iret (x := (-1 : Int32)) dX12_lamp_21 rfl rfl
    · have h := zif_f h c34
      refine zR_if_lt_f (tgt := 20) dX12_lamp_8 (by decide) c34 ?_
      refine zR_iload_n dX12_lamp_11 1 rfl ?_
      refine zR_aload_n dX12_lamp_12 0 rfl ?_
      refine zR_iconst (x := (3 : Int32)) dX12_lamp_13 rfl ?_
      obtain ⟨q35, hq36, h⟩ := zbd_some h
      refine zR_cV (rest := [.int x1]) (st1 := [.int q35, .int x1]) dX12_lamp_14 (mX12_sort F V0 V1 V2 V3 V4 V5 V6 V7 (3 : Int32) _ hq36) zc_X12_370 rfl (zE_at zd_88) ⟨_, _, rfl⟩ rfl (Nat.le_of_ble_eq_true rfl) (Nat.le_of_ble_eq_true rfl) rfl ?_
      by_cases c37 : x1 < q35
      · have h := zif_t h c37
        refine zR_icmp_lt_t (tgt := 22) dX12_lamp_17 (by decide) c37 ?_
        refine zR_aload_n dX12_lamp_22 0 rfl ?_
        refine zG_getI dX12_lamp_23 zf_X12_392 zd_88 rfl rfl ?_
        by_cases c38 : (zI V7 0 66) = 0
        · have h := zif_t h c38
          refine zR_if_eq_t (tgt := 36) dX12_lamp_26 (by decide) c38 ?_
          refine zR_iconst (x := (0 : Int32)) dX12_lamp_36 rfl ?_
          have h := Option.some.inj h
          subst h
          exact zR_iret (x := (0 : Int32)) dX12_lamp_37 rfl rfl
        · have h := zif_f h c38
          refine zR_if_eq_f (tgt := 36) dX12_lamp_26 (by decide) c38 ?_
          refine zR_aload_n dX12_lamp_29 0 rfl ?_
          refine zG_getI dX12_lamp_30 zf_X12_401 zd_88 rfl rfl ?_
          by_cases c39 : (zI V7 0 71) = 0
          · have h := zif_t h c39
            refine zR_if_eq_t (tgt := 38) dX12_lamp_33 (by decide) c39 ?_
            refine zR_aload_n dX12_lamp_38 0 rfl ?_
            refine zG_getR dX12_lamp_39 zf_X12_64 zd_88 rfl rfl ?_
            refine zR_bipush (x := (16 : Int32)) dX12_lamp_42 rfl ?_
            refine zR_aload_n dX12_lamp_44 0 rfl ?_
            refine zG_getI dX12_lamp_45 zf_X12_308 zd_88 rfl rfl ?_
            refine zR_imul dX12_lamp_48 ?_
            refine zR_iload_n dX12_lamp_49 1 rfl ?_
            refine zR_iadd dX12_lamp_50 ?_
            obtain ⟨g40, h⟩ := zchk_some h
            refine zG_iald dX12_lamp_51 zd_104 rfl rfl g40 ?_
            obtain ⟨y41, e42, h⟩ := zlet_some h
            refine zR_nmI e42 ?_
            refine zR_istore_n (lv' := [(0, .ref (w.1 + 88)), (1, .int x1), (2, .int y41)]) dX12_lamp_52 (Nat.le_of_ble_eq_true rfl) rfl ?_
            refine zR_iconst (x := (0 : Int32)) dX12_lamp_53 rfl ?_
            refine zR_istore_n (lv' := [(0, .ref (w.1 + 88)), (1, .int x1), (2, .int y41), (3, .int (0 : Int32))]) dX12_lamp_54 (Nat.le_of_ble_eq_true rfl) rfl ?_
            refine zR_sub (lv' := [(0, .ref (w.1 + 88)), (2, .int y41), (3, .int (0 : Int32))]) [0, 2, 3] rfl ?_
            exact wX12_lamp_l55 F F V0 V1 V2 V3 V4 V5 V6 V7 y41 (0 : Int32) _ h
          · have h := zif_f h c39
            refine zR_if_eq_f (tgt := 38) dX12_lamp_33 (by decide) c39 ?_
            refine zR_iconst (x := (0 : Int32)) dX12_lamp_36 rfl ?_
            have h := Option.some.inj h
            subst h
            exact zR_iret (x := (0 : Int32)) dX12_lamp_37 rfl rfl
      · have h := zif_f h c37
        refine zR_icmp_lt_f (tgt := 22) dX12_lamp_17 (by decide) c37 ?_
        refine zR_iconst (x := (-1 : Int32)) dX12_lamp_20 (by decide) ?_
        have h := Option.some.inj h
        subst h
        exact zR_iret (x := (-1 : Int32)) dX12_lamp_21 rfl rfl
set_option maxRecDepth 100000 in
set_option maxHeartbeats 4000000 in
theorem mX12_value {w : zW} (F : Nat) (V0 V1 V2 V3 V4 V5 V6 V7 : zV) (x1 : Int32) (res : Int32) (h : fX12_value F V7 x1 = some res) : zMet w kX12_value 1 0 0 [.ref (w.1 + 88), .int x1] (zE zds w [V0, V1, V2, V3, V4, V5, V6, V7]) (some (.int res)) (zE zds w [V0, V1, V2, V3, V4, V5, V6, V7]) := by
  refine zMet_of (by decide) (Nat.le_of_ble_eq_true rfl) (Nat.le_refl 0) fun _ => ?_
  show zR w kX12_value 1 0 0 (some (.int res)) (zE zds w [V0, V1, V2, V3, V4, V5, V6, V7]) 0 [(0, .ref (w.1 + 88)), (1, .int x1)] [] (zE zds w [V0, V1, V2, V3, V4, V5, V6, V7])
  unfold fX12_value at h
  refine zR_aload_n dX12_value_0 0 rfl ?_
  refine zG_getI dX12_value_1 zf_X12_333 zd_88 rfl rfl ?_
  by_cases c1 : (zI V7 0 64) = 0
  · have h := zif_t h c1
    refine zR_if_eq_t (tgt := 30) dX12_value_4 (by decide) c1 ?_
    refine zR_iconst (x := (0 : Int32)) dX12_value_30 rfl ?_
    have h := Option.some.inj h
    subst h
    exact zR_iret (x := (0 : Int32)) dX12_value_31 rfl rfl
  · have h := zif_f h c1
    refine zR_if_eq_f (tgt := 30) dX12_value_4 (by decide) c1 ?_
    refine zR_iload_n dX12_value_7 1 rfl ?_
    by_cases c2 : x1 < 0
    · have h := zif_t h c2
      refine zR_if_lt_t (tgt := 30) dX12_value_8 (by decide) c2 ?_
      refine zR_iconst (x := (0 : Int32)) dX12_value_30 rfl ?_
      have h := Option.some.inj h
      subst h
      exact zR_iret (x := (0 : Int32)) dX12_value_31 rfl rfl
    · have h := zif_f h c2
      refine zR_if_lt_f (tgt := 30) dX12_value_8 (by decide) c2 ?_
      refine zR_iload_n dX12_value_11 1 rfl ?_
      refine zR_aload_n dX12_value_12 0 rfl ?_
      refine zR_bipush (x := (6 : Int32)) dX12_value_13 rfl ?_
      obtain ⟨q3, hq4, h⟩ := zbd_some h
      refine zR_cV (rest := [.int x1]) (st1 := [.int q3, .int x1]) dX12_value_15 (mX12_sort F V0 V1 V2 V3 V4 V5 V6 V7 (6 : Int32) _ hq4) zc_X12_370 rfl (zE_at zd_88) ⟨_, _, rfl⟩ rfl (Nat.le_of_ble_eq_true rfl) (Nat.le_of_ble_eq_true rfl) rfl ?_
      by_cases c5 : q3 ≤ x1
      · have h := zif_t h c5
        refine zR_icmp_ge_t (tgt := 30) dX12_value_18 (by decide) c5 ?_
        refine zR_iconst (x := (0 : Int32)) dX12_value_30 rfl ?_
        have h := Option.some.inj h
        subst h
        exact zR_iret (x := (0 : Int32)) dX12_value_31 rfl rfl
      · have h := zif_f h c5
        refine zR_icmp_ge_f (tgt := 30) dX12_value_18 (by decide) c5 ?_
        refine zR_aload_n dX12_value_21 0 rfl ?_
        refine zG_getR dX12_value_22 zf_X12_147 zd_88 rfl rfl ?_
        refine zR_iload_n dX12_value_25 1 rfl ?_
        obtain ⟨g6, h⟩ := zchk_some h
        refine zG_iald dX12_value_26 zd_131 rfl rfl g6 ?_
        refine zR_goto (tgt := 31) dX12_value_27 (by decide) ?_
        have h := Option.some.inj h
        subst h
        exact zR_iret (x := (zA V7 43 (x1).toNatClampNeg)) dX12_value_31 rfl rfl
set_option maxRecDepth 100000 in
set_option maxHeartbeats 4000000 in
theorem mX12_mode {w : zW} (F : Nat) (V0 V1 V2 V3 V4 V5 V6 V7 : zV) (x1 : Int32) (x2 : Int32) (res : Int32) (h : fX12_mode F V7 x1 x2 = some res) : zMet w kX12_mode 1 0 0 [.ref (w.1 + 88), .int x1, .int x2] (zE zds w [V0, V1, V2, V3, V4, V5, V6, V7]) (some (.int res)) (zE zds w [V0, V1, V2, V3, V4, V5, V6, V7]) := by
  refine zMet_of (by decide) (Nat.le_of_ble_eq_true rfl) (Nat.le_refl 0) fun _ => ?_
  show zR w kX12_mode 1 0 0 (some (.int res)) (zE zds w [V0, V1, V2, V3, V4, V5, V6, V7]) 0 [(0, .ref (w.1 + 88)), (1, .int x1), (2, .int x2)] [] (zE zds w [V0, V1, V2, V3, V4, V5, V6, V7])
  unfold fX12_mode at h
  refine zR_aload_n dX12_mode_0 0 rfl ?_
  refine zG_getI dX12_mode_1 zf_X12_329 zd_88 rfl rfl ?_
  by_cases c1 : (zI V7 0 20) = 0
  · have h := zif_t h c1
    refine zR_if_eq_t (tgt := 21) dX12_mode_4 (by decide) c1 ?_
    refine zR_iconst (x := (-1 : Int32)) dX12_mode_21 (by decide) ?_
    have h := Option.some.inj h
    subst h
    exact zR_iret (x := (-1 : Int32)) dX12_mode_22 rfl rfl
  · have h := zif_f h c1
    refine zR_if_eq_f (tgt := 21) dX12_mode_4 (by decide) c1 ?_
    refine zR_iload_n dX12_mode_7 1 rfl ?_
    by_cases c2 : x1 < 0
    · have h := zif_t h c2
      refine zR_if_lt_t (tgt := 21) dX12_mode_8 (by decide) c2 ?_
      refine zR_iconst (x := (-1 : Int32)) dX12_mode_21 (by decide) ?_
      have h := Option.some.inj h
      subst h
      exact zR_iret (x := (-1 : Int32)) dX12_mode_22 rfl rfl
    · have h := zif_f h c2
      refine zR_if_lt_f (tgt := 21) dX12_mode_8 (by decide) c2 ?_
      refine zR_iload_n dX12_mode_11 1 rfl ?_
      refine zR_aload_n dX12_mode_12 0 rfl ?_
      refine zR_bipush (x := (7 : Int32)) dX12_mode_13 rfl ?_
      obtain ⟨q3, hq4, h⟩ := zbd_some h
      refine zR_cV (rest := [.int x1]) (st1 := [.int q3, .int x1]) dX12_mode_15 (mX12_sort F V0 V1 V2 V3 V4 V5 V6 V7 (7 : Int32) _ hq4) zc_X12_370 rfl (zE_at zd_88) ⟨_, _, rfl⟩ rfl (Nat.le_of_ble_eq_true rfl) (Nat.le_of_ble_eq_true rfl) rfl ?_
      by_cases c5 : x1 < q3
      · have h := zif_t h c5
        refine zR_icmp_lt_t (tgt := 23) dX12_mode_18 (by decide) c5 ?_
        refine zR_iload_n dX12_mode_23 2 rfl ?_
        refine zR_iconst (x := (3 : Int32)) dX12_mode_24 rfl ?_
        by_cases c6 : x2 = (3 : Int32)
        · have h := zif_t h c6
          refine zR_icmp_ne_f (tgt := 43) dX12_mode_25 (by decide) c6 ?_
          refine zR_aload_n dX12_mode_28 0 rfl ?_
          refine zG_getR dX12_mode_29 zf_X12_79 zd_88 rfl rfl ?_
          refine zR_bipush (x := (12 : Int32)) dX12_mode_32 rfl ?_
          refine zR_aload_n dX12_mode_34 0 rfl ?_
          refine zG_getI dX12_mode_35 zf_X12_308 zd_88 rfl rfl ?_
          refine zR_imul dX12_mode_38 ?_
          refine zR_iload_n dX12_mode_39 1 rfl ?_
          refine zR_iadd dX12_mode_40 ?_
          obtain ⟨g15, h⟩ := zchk_some h
          refine zG_iald dX12_mode_41 zd_109 rfl rfl g15 ?_
          have h := Option.some.inj h
          subst h
          exact zR_iret (x := (zA V7 21 ((((12 : Int32) * (zI V7 0 18)) + x1)).toNatClampNeg)) dX12_mode_42 rfl rfl
        · have h := zif_f h c6
          refine zR_icmp_ne_t (tgt := 43) dX12_mode_25 (by decide) c6 ?_
          refine zR_aload_n dX12_mode_43 0 rfl ?_
          refine zG_getI dX12_mode_44 zf_X12_333 zd_88 rfl rfl ?_
          by_cases c7 : (zI V7 0 64) = 0
          · have h := zif_t h c7
            refine zR_if_ne_f (tgt := 52) dX12_mode_47 (by decide) c7 ?_
            refine zR_iconst (x := (-1 : Int32)) dX12_mode_50 (by decide) ?_
            have h := Option.some.inj h
            subst h
            exact zR_iret (x := (-1 : Int32)) dX12_mode_51 rfl rfl
          · have h := zif_f h c7
            refine zR_if_ne_t (tgt := 52) dX12_mode_47 (by decide) c7 ?_
            refine zR_iload_n dX12_mode_52 2 rfl ?_
            by_cases c8 : x2 = (0 : Int32)
            · have h := zif_t h c8
              refine zR_tabc (tgt := 80) dX12_mode_53 c8 rfl (by decide) ?_
              refine zR_aload_n dX12_mode_80 0 rfl ?_
              refine zG_getR dX12_mode_81 zf_X12_165 zd_88 rfl rfl ?_
              refine zR_iload_n dX12_mode_84 1 rfl ?_
              obtain ⟨g9, h⟩ := zchk_some h
              refine zG_zald dX12_mode_85 zd_137 rfl rfl g9 ?_
              by_cases c10 : (zA V7 49 (x1).toNatClampNeg) = 0
              · have h := zif_t h c10
                refine zR_if_eq_t (tgt := 93) dX12_mode_86 (by decide) c10 ?_
                refine zR_iconst (x := (0 : Int32)) dX12_mode_93 rfl ?_
                have h := Option.some.inj h
                subst h
                exact zR_iret (x := (0 : Int32)) dX12_mode_94 rfl rfl
              · have h := zif_f h c10
                refine zR_if_eq_f (tgt := 93) dX12_mode_86 (by decide) c10 ?_
                refine zR_iconst (x := (1 : Int32)) dX12_mode_89 rfl ?_
                refine zR_goto (tgt := 94) dX12_mode_90 (by decide) ?_
                have h := Option.some.inj h
                subst h
                exact zR_iret (x := (1 : Int32)) dX12_mode_94 rfl rfl
            · have h := zif_f h c8
              by_cases c11 : x2 = (1 : Int32)
              · have h := zif_t h c11
                refine zR_tabc (tgt := 95) dX12_mode_53 c11 rfl (by decide) ?_
                refine zR_aload_n dX12_mode_95 0 rfl ?_
                refine zG_getR dX12_mode_96 zf_X12_168 zd_88 rfl rfl ?_
                refine zR_iload_n dX12_mode_99 1 rfl ?_
                obtain ⟨g12, h⟩ := zchk_some h
                refine zG_iald dX12_mode_100 zd_138 rfl rfl g12 ?_
                have h := Option.some.inj h
                subst h
                exact zR_iret (x := (zA V7 50 (x1).toNatClampNeg)) dX12_mode_101 rfl rfl
              · have h := zif_f h c11
                by_cases c13 : x2 = (2 : Int32)
                · have h := zif_t h c13
                  refine zR_tabc (tgt := 102) dX12_mode_53 c13 rfl (by decide) ?_
                  refine zR_aload_n dX12_mode_102 0 rfl ?_
                  refine zG_getR dX12_mode_103 zf_X12_171 zd_88 rfl rfl ?_
                  refine zR_iload_n dX12_mode_106 1 rfl ?_
                  obtain ⟨g14, h⟩ := zchk_some h
                  refine zG_iald dX12_mode_107 zd_139 rfl rfl g14 ?_
                  have h := Option.some.inj h
                  subst h
                  exact zR_iret (x := (zA V7 51 (x1).toNatClampNeg)) dX12_mode_108 rfl rfl
                · have h := zif_f h c13
                  refine zR_tabO (tgt := 109) dX12_mode_53 (by have u0 := zne c8 (n := 0) rfl; have u1 := zne c11 (n := 1) rfl; have u2 := zne c13 (n := 2) rfl; omega) (by decide) ?_
                  refine zR_iconst (x := (-1 : Int32)) dX12_mode_109 (by decide) ?_
                  have h := Option.some.inj h
                  subst h
                  exact zR_iret (x := (-1 : Int32)) dX12_mode_110 rfl rfl
      · have h := zif_f h c5
        refine zR_icmp_lt_f (tgt := 23) dX12_mode_18 (by decide) c5 ?_
        refine zR_iconst (x := (-1 : Int32)) dX12_mode_21 (by decide) ?_
        have h := Option.some.inj h
        subst h
        exact zR_iret (x := (-1 : Int32)) dX12_mode_22 rfl rfl
set_option maxRecDepth 100000 in
set_option maxHeartbeats 4000000 in
theorem wX12_balls_b78 {w : zW} (F : Nat) (k27 : zV → Int32 → Int32 → Int32 → Int32 → Option (Int32)) (hk27 : ∀ (V0 V1 V2 V3 V4 V5 V6 V7 : zV) (x1 : Int32) (x2 : Int32) (x3 : Int32) (x4 : Int32) (res : Int32), k27 V7 x1 x2 x3 x4 = some res → zR w kX12_balls 1 0 0 (some (.int res)) (zE zds w [V0, V1, V2, V3, V4, V5, V6, V7]) 27 [(0, .ref (w.1 + 88)), (1, .int x1), (2, .int x2), (3, .int x3), (4, .int x4)] [] (zE zds w [V0, V1, V2, V3, V4, V5, V6, V7])) (V0 V1 V2 V3 V4 V5 V6 V7 : zV) (x1 : Int32) (x2 : Int32) (x3 : Int32) (x4 : Int32) (res : Int32) (h : fX12_balls_b78 F k27 V7 x1 x2 x3 x4 = some res) : zR w kX12_balls 1 0 0 (some (.int res)) (zE zds w [V0, V1, V2, V3, V4, V5, V6, V7]) 78 [(0, .ref (w.1 + 88)), (1, .int x1), (2, .int x2), (3, .int x3), (4, .int x4)] [] (zE zds w [V0, V1, V2, V3, V4, V5, V6, V7]) := by
  unfold fX12_balls_b78 at h
  refine zR_iinc (u := (x4 + 1)) (lv' := [(0, .ref (w.1 + 88)), (1, .int x1), (2, .int x2), (3, .int x3), (4, .int (x4 + 1))]) dX12_balls_78 4 rfl rfl (Nat.le_of_ble_eq_true rfl) rfl ?_
  refine zR_goto (tgt := 27) dX12_balls_81 (by decide) ?_
  exact hk27 V0 V1 V2 V3 V4 V5 V6 V7 x1 x2 x3 (x4 + 1) _ h
set_option maxRecDepth 100000 in
set_option maxHeartbeats 4000000 in
theorem wX12_balls_b75 {w : zW} (F : Nat) (k27 : zV → Int32 → Int32 → Int32 → Int32 → Option (Int32)) (hk27 : ∀ (V0 V1 V2 V3 V4 V5 V6 V7 : zV) (x1 : Int32) (x2 : Int32) (x3 : Int32) (x4 : Int32) (res : Int32), k27 V7 x1 x2 x3 x4 = some res → zR w kX12_balls 1 0 0 (some (.int res)) (zE zds w [V0, V1, V2, V3, V4, V5, V6, V7]) 27 [(0, .ref (w.1 + 88)), (1, .int x1), (2, .int x2), (3, .int x3), (4, .int x4)] [] (zE zds w [V0, V1, V2, V3, V4, V5, V6, V7])) (V0 V1 V2 V3 V4 V5 V6 V7 : zV) (x1 : Int32) (x2 : Int32) (x4 : Int32) (x5 : Int32) (res : Int32) (h : fX12_balls_b75 F k27 V7 x1 x2 x4 x5 = some res) : zR w kX12_balls 1 0 0 (some (.int res)) (zE zds w [V0, V1, V2, V3, V4, V5, V6, V7]) 75 [(0, .ref (w.1 + 88)), (1, .int x1), (2, .int x2), (4, .int x4), (5, .int x5)] [] (zE zds w [V0, V1, V2, V3, V4, V5, V6, V7]) := by
  unfold fX12_balls_b75 at h
  refine zR_iload dX12_balls_75 4 rfl ?_
  refine zR_istore_n (lv' := [(0, .ref (w.1 + 88)), (1, .int x1), (2, .int x2), (4, .int x4), (5, .int x5), (3, .int x5)]) dX12_balls_77 (Nat.le_of_ble_eq_true rfl) rfl ?_
  refine zR_sub (lv' := [(0, .ref (w.1 + 88)), (1, .int x1), (2, .int x2), (3, .int x5), (4, .int x4)]) [0, 1, 2, 5, 3] rfl ?_
  exact wX12_balls_b78 F k27 hk27 V0 V1 V2 V3 V4 V5 V6 V7 x1 x2 x5 x4 _ h
set_option maxRecDepth 100000 in
set_option maxHeartbeats 4000000 in
theorem wX12_balls_l27 {w : zW} (F : Nat) : ∀ (n : Nat) (V0 V1 V2 V3 V4 V5 V6 V7 : zV) (x1 : Int32) (x2 : Int32) (x3 : Int32) (x4 : Int32) (res : Int32), fX12_balls_l27 F n V7 x1 x2 x3 x4 = some res → zR w kX12_balls 1 0 0 (some (.int res)) (zE zds w [V0, V1, V2, V3, V4, V5, V6, V7]) 27 [(0, .ref (w.1 + 88)), (1, .int x1), (2, .int x2), (3, .int x3), (4, .int x4)] [] (zE zds w [V0, V1, V2, V3, V4, V5, V6, V7]) := by
  intro n
  induction n with
  | zero =>
    intro V0 V1 V2 V3 V4 V5 V6 V7 x1 x2 x3 x4 res h
    simp [fX12_balls_l27] at h
  | succ n ih =>
    intro V0 V1 V2 V3 V4 V5 V6 V7 x1 x2 x3 x4 res h
    rw [fX12_balls_l27] at h
    refine zR_iload dX12_balls_27 4 rfl ?_
    refine zR_aload_n dX12_balls_29 0 rfl ?_
    refine zG_getI dX12_balls_30 zf_X12_376 zd_88 rfl rfl ?_
    by_cases c1 : (zI V7 0 59) ≤ x4
    · have h := zif_t h c1
      refine zR_icmp_ge_t (tgt := 84) dX12_balls_33 (by decide) c1 ?_
      refine zR_iload_n dX12_balls_84 3 rfl ?_
      have h := Option.some.inj h
      subst h
      exact zR_iret (x := x3) dX12_balls_85 rfl rfl
    · have h := zif_f h c1
      refine zR_icmp_ge_f (tgt := 84) dX12_balls_33 (by decide) c1 ?_
      refine zR_aload_n dX12_balls_36 0 rfl ?_
      refine zG_getR dX12_balls_37 zf_X12_136 zd_88 rfl rfl ?_
      refine zR_iload dX12_balls_40 4 rfl ?_
      obtain ⟨g2, h⟩ := zchk_some h
      refine zG_iald dX12_balls_42 zd_128 rfl rfl g2 ?_
      refine zR_iconst (x := (2 : Int32)) dX12_balls_43 rfl ?_
      refine zR_iload_n dX12_balls_44 1 rfl ?_
      refine zR_imul dX12_balls_45 ?_
      refine zR_ishr dX12_balls_46 ?_
      refine zR_iconst (x := (3 : Int32)) dX12_balls_47 rfl ?_
      refine zR_iand dX12_balls_48 ?_
      obtain ⟨y3, e4, h⟩ := zlet_some h
      refine zR_nmI e4 ?_
      refine zR_istore (lv' := [(0, .ref (w.1 + 88)), (1, .int x1), (2, .int x2), (3, .int x3), (4, .int x4), (5, .int y3)]) dX12_balls_49 (Nat.le_of_ble_eq_true rfl) rfl ?_
      refine zR_iload_n dX12_balls_51 3 rfl ?_
      refine zR_iconst (x := (-1 : Int32)) dX12_balls_52 (by decide) ?_
      by_cases c5 : x3 = (-1 : Int32)
      · have h := zif_t h c5
        refine zR_icmp_eq_t (tgt := 75) dX12_balls_53 (by decide) c5 ?_
        refine zR_sub (lv' := [(0, .ref (w.1 + 88)), (1, .int x1), (2, .int x2), (4, .int x4), (5, .int y3)]) [0, 1, 2, 4, 5] rfl ?_
        exact wX12_balls_b75 F (fX12_balls_l27 F n) ih V0 V1 V2 V3 V4 V5 V6 V7 x1 x2 x4 y3 _ h
      · have h := zif_f h c5
        refine zR_icmp_eq_f (tgt := 75) dX12_balls_53 (by decide) c5 ?_
        refine zR_iload_n dX12_balls_56 2 rfl ?_
        by_cases c6 : x2 = 0
        · have h := zif_t h c6
          refine zR_if_eq_t (tgt := 69) dX12_balls_57 (by decide) c6 ?_
          refine zR_iload dX12_balls_69 5 rfl ?_
          refine zR_iload_n dX12_balls_71 3 rfl ?_
          by_cases c7 : x3 ≤ y3
          · have h := zif_t h c7
            refine zR_icmp_ge_t (tgt := 78) dX12_balls_72 (by decide) c7 ?_
            refine zR_sub (lv' := [(0, .ref (w.1 + 88)), (1, .int x1), (2, .int x2), (3, .int x3), (4, .int x4)]) [0, 1, 2, 3, 4] rfl ?_
            exact wX12_balls_b78 F (fX12_balls_l27 F n) ih V0 V1 V2 V3 V4 V5 V6 V7 x1 x2 x3 x4 _ h
          · have h := zif_f h c7
            refine zR_icmp_ge_f (tgt := 78) dX12_balls_72 (by decide) c7 ?_
            refine zR_sub (lv' := [(0, .ref (w.1 + 88)), (1, .int x1), (2, .int x2), (4, .int x4), (5, .int y3)]) [0, 1, 2, 4, 5] rfl ?_
            exact wX12_balls_b75 F (fX12_balls_l27 F n) ih V0 V1 V2 V3 V4 V5 V6 V7 x1 x2 x4 y3 _ h
        · have h := zif_f h c6
          refine zR_if_eq_f (tgt := 69) dX12_balls_57 (by decide) c6 ?_
          refine zR_iload dX12_balls_60 5 rfl ?_
          refine zR_iload_n dX12_balls_62 3 rfl ?_
          by_cases c8 : y3 ≤ x3
          · have h := zif_t h c8
            refine zR_icmp_le_t (tgt := 78) dX12_balls_63 (by decide) c8 ?_
            refine zR_sub (lv' := [(0, .ref (w.1 + 88)), (1, .int x1), (2, .int x2), (3, .int x3), (4, .int x4)]) [0, 1, 2, 3, 4] rfl ?_
            exact wX12_balls_b78 F (fX12_balls_l27 F n) ih V0 V1 V2 V3 V4 V5 V6 V7 x1 x2 x3 x4 _ h
          · have h := zif_f h c8
            refine zR_icmp_le_f (tgt := 78) dX12_balls_63 (by decide) c8 ?_
            refine zR_goto (tgt := 75) dX12_balls_66 (by decide) ?_
            refine zR_sub (lv' := [(0, .ref (w.1 + 88)), (1, .int x1), (2, .int x2), (4, .int x4), (5, .int y3)]) [0, 1, 2, 4, 5] rfl ?_
            exact wX12_balls_b75 F (fX12_balls_l27 F n) ih V0 V1 V2 V3 V4 V5 V6 V7 x1 x2 x4 y3 _ h
set_option maxRecDepth 100000 in
set_option maxHeartbeats 4000000 in
theorem mX12_balls {w : zW} (F : Nat) (V0 V1 V2 V3 V4 V5 V6 V7 : zV) (x1 : Int32) (x2 : Int32) (res : Int32) (h : fX12_balls F V7 x1 x2 = some res) : zMet w kX12_balls 1 0 0 [.ref (w.1 + 88), .int x1, .int x2] (zE zds w [V0, V1, V2, V3, V4, V5, V6, V7]) (some (.int res)) (zE zds w [V0, V1, V2, V3, V4, V5, V6, V7]) := by
  refine zMet_of (by decide) (Nat.le_of_ble_eq_true rfl) (Nat.le_refl 0) fun _ => ?_
  show zR w kX12_balls 1 0 0 (some (.int res)) (zE zds w [V0, V1, V2, V3, V4, V5, V6, V7]) 0 [(0, .ref (w.1 + 88)), (1, .int x1), (2, .int x2)] [] (zE zds w [V0, V1, V2, V3, V4, V5, V6, V7])
  unfold fX12_balls at h
  refine zR_aload_n dX12_balls_0 0 rfl ?_
  refine zG_getI dX12_balls_1 zf_X12_333 zd_88 rfl rfl ?_
  by_cases c9 : (zI V7 0 64) = 0
  · have h := zif_t h c9
    refine zR_if_eq_t (tgt := 20) dX12_balls_4 (by decide) c9 ?_
    refine zR_iconst (x := (-1 : Int32)) dX12_balls_20 (by decide) ?_
    have h := Option.some.inj h
    subst h
    exact zR_iret (x := (-1 : Int32)) dX12_balls_21 rfl rfl
  · have h := zif_f h c9
    refine zR_if_eq_f (tgt := 20) dX12_balls_4 (by decide) c9 ?_
    refine zR_iload_n dX12_balls_7 1 rfl ?_
    by_cases c10 : x1 < 0
    · have h := zif_t h c10
      refine zR_if_lt_t (tgt := 20) dX12_balls_8 (by decide) c10 ?_
      refine zR_iconst (x := (-1 : Int32)) dX12_balls_20 (by decide) ?_
      have h := Option.some.inj h
      subst h
      exact zR_iret (x := (-1 : Int32)) dX12_balls_21 rfl rfl
    · have h := zif_f h c10
      refine zR_if_lt_f (tgt := 20) dX12_balls_8 (by decide) c10 ?_
      refine zR_iload_n dX12_balls_11 1 rfl ?_
      refine zR_aload_n dX12_balls_12 0 rfl ?_
      refine zR_iconst (x := (4 : Int32)) dX12_balls_13 rfl ?_
      obtain ⟨q11, hq12, h⟩ := zbd_some h
      refine zR_cV (rest := [.int x1]) (st1 := [.int q11, .int x1]) dX12_balls_14 (mX12_sort F V0 V1 V2 V3 V4 V5 V6 V7 (4 : Int32) _ hq12) zc_X12_370 rfl (zE_at zd_88) ⟨_, _, rfl⟩ rfl (Nat.le_of_ble_eq_true rfl) (Nat.le_of_ble_eq_true rfl) rfl ?_
      by_cases c13 : x1 < q11
      · have h := zif_t h c13
        refine zR_icmp_lt_t (tgt := 22) dX12_balls_17 (by decide) c13 ?_
        refine zR_iconst (x := (-1 : Int32)) dX12_balls_22 (by decide) ?_
        refine zR_istore_n (lv' := [(0, .ref (w.1 + 88)), (1, .int x1), (2, .int x2), (3, .int (-1 : Int32))]) dX12_balls_23 (Nat.le_of_ble_eq_true rfl) rfl ?_
        refine zR_iconst (x := (0 : Int32)) dX12_balls_24 rfl ?_
        refine zR_istore (lv' := [(0, .ref (w.1 + 88)), (1, .int x1), (2, .int x2), (3, .int (-1 : Int32)), (4, .int (0 : Int32))]) dX12_balls_25 (Nat.le_of_ble_eq_true rfl) rfl ?_
        exact wX12_balls_l27 F F V0 V1 V2 V3 V4 V5 V6 V7 x1 x2 (-1 : Int32) (0 : Int32) _ h
      · have h := zif_f h c13
        refine zR_icmp_lt_f (tgt := 22) dX12_balls_17 (by decide) c13 ?_
        refine zR_iconst (x := (-1 : Int32)) dX12_balls_20 (by decide) ?_
        have h := Option.some.inj h
        subst h
        exact zR_iret (x := (-1 : Int32)) dX12_balls_21 rfl rfl
set_option maxRecDepth 100000 in
set_option maxHeartbeats 4000000 in
theorem mX12_again {w : zW} (F : Nat) (V0 V1 V2 V3 V4 V5 V6 V7 : zV) (res : Int64) (h : fX12_again F V7 = some res) : zMet w kX12_again 0 0 0 [.ref (w.1 + 88)] (zE zds w [V0, V1, V2, V3, V4, V5, V6, V7]) (some (.long res)) (zE zds w [V0, V1, V2, V3, V4, V5, V6, V7]) := by
  refine zMet_of (by decide) (Nat.le_of_ble_eq_true rfl) (Nat.le_refl 0) fun _ => ?_
  show zR w kX12_again 0 0 0 (some (.long res)) (zE zds w [V0, V1, V2, V3, V4, V5, V6, V7]) 0 [(0, .ref (w.1 + 88))] [] (zE zds w [V0, V1, V2, V3, V4, V5, V6, V7])
  unfold fX12_again at h
  refine zR_aload_n dX12_again_0 0 rfl ?_
  refine zG_getI dX12_again_1 zf_X12_333 zd_88 rfl rfl ?_
  by_cases c1 : (zI V7 0 64) = 0
  · have h := zif_t h c1
    refine zR_if_eq_t (tgt := 14) dX12_again_4 (by decide) c1 ?_
    refine zR_ldc2 (x := (-1 : Int64)) dX12_again_14 zk_X12_484 ?_
    have h := Option.some.inj h
    subst h
    exact zR_lret dX12_again_17 rfl
  · have h := zif_f h c1
    refine zR_if_eq_f (tgt := 14) dX12_again_4 (by decide) c1 ?_
    refine zR_aload_n dX12_again_7 0 rfl ?_
    refine zG_getL dX12_again_8 zf_X12_388 zd_88 rfl rfl ?_
    refine zR_goto (tgt := 17) dX12_again_11 (by decide) ?_
    have h := Option.some.inj h
    subst h
    exact zR_lret dX12_again_17 rfl
set_option maxRecDepth 100000 in
set_option maxHeartbeats 4000000 in
theorem wX12_leadsOn_b146 {w : zW} (F : Nat) (k15 : zV → Int32 → Int32 → Int32 → Option (zV)) (hk15 : ∀ (V0 V1 V2 V3 V4 V5 V6 V7 : zV) (x1 : Int32) (x2 : Int32) (x3 : Int32) (res : zV), k15 V7 x1 x2 x3 = some res → zR w kX12_leadsOn 0 0 0 none (zE zds w [V0, V1, V2, V3, V4, V5, V6, res]) 15 [(0, .ref (w.1 + 88)), (1, .int x1), (2, .int x2), (3, .int x3)] [] (zE zds w [V0, V1, V2, V3, V4, V5, V6, V7])) (V0 V1 V2 V3 V4 V5 V6 V7 : zV) (x1 : Int32) (x2 : Int32) (x3 : Int32) (res : zV) (h : fX12_leadsOn_b146 F k15 V7 x1 x2 x3 = some res) : zR w kX12_leadsOn 0 0 0 none (zE zds w [V0, V1, V2, V3, V4, V5, V6, res]) 146 [(0, .ref (w.1 + 88)), (1, .int x1), (2, .int x2), (3, .int x3)] [] (zE zds w [V0, V1, V2, V3, V4, V5, V6, V7]) := by
  unfold fX12_leadsOn_b146 at h
  refine zR_iinc (u := (x3 + 1)) (lv' := [(0, .ref (w.1 + 88)), (1, .int x1), (2, .int x2), (3, .int (x3 + 1))]) dX12_leadsOn_146 3 rfl rfl (Nat.le_of_ble_eq_true rfl) rfl ?_
  refine zR_goto (tgt := 15) dX12_leadsOn_149 (by decide) ?_
  exact hk15 V0 V1 V2 V3 V4 V5 V6 V7 x1 x2 (x3 + 1) _ h
set_option maxRecDepth 100000 in
set_option maxHeartbeats 4000000 in
theorem wX12_leadsOn_b140 {w : zW} (F : Nat) (k72 : zV → Int32 → Int32 → Int32 → Int32 → Option (zV)) (hk72 : ∀ (V0 V1 V2 V3 V4 V5 V6 V7 : zV) (x1 : Int32) (x2 : Int32) (x3 : Int32) (x4 : Int32) (res : zV), k72 V7 x1 x2 x3 x4 = some res → zR w kX12_leadsOn 0 0 0 none (zE zds w [V0, V1, V2, V3, V4, V5, V6, res]) 72 [(0, .ref (w.1 + 88)), (1, .int x1), (2, .int x2), (3, .int x3), (4, .int x4)] [] (zE zds w [V0, V1, V2, V3, V4, V5, V6, V7])) (V0 V1 V2 V3 V4 V5 V6 V7 : zV) (x1 : Int32) (x2 : Int32) (x3 : Int32) (x4 : Int32) (res : zV) (h : fX12_leadsOn_b140 F k72 V7 x1 x2 x3 x4 = some res) : zR w kX12_leadsOn 0 0 0 none (zE zds w [V0, V1, V2, V3, V4, V5, V6, res]) 140 [(0, .ref (w.1 + 88)), (1, .int x1), (2, .int x2), (3, .int x3), (4, .int x4)] [] (zE zds w [V0, V1, V2, V3, V4, V5, V6, V7]) := by
  unfold fX12_leadsOn_b140 at h
  refine zR_iinc (u := (x4 + 1)) (lv' := [(0, .ref (w.1 + 88)), (1, .int x1), (2, .int x2), (3, .int x3), (4, .int (x4 + 1))]) dX12_leadsOn_140 4 rfl rfl (Nat.le_of_ble_eq_true rfl) rfl ?_
  refine zR_goto (tgt := 72) dX12_leadsOn_143 (by decide) ?_
  exact hk72 V0 V1 V2 V3 V4 V5 V6 V7 x1 x2 x3 (x4 + 1) _ h
set_option maxRecDepth 100000 in
set_option maxHeartbeats 4000000 in
theorem wX12_leadsOn_b118 {w : zW} (F : Nat) (k72 : zV → Int32 → Int32 → Int32 → Int32 → Option (zV)) (hk72 : ∀ (V0 V1 V2 V3 V4 V5 V6 V7 : zV) (x1 : Int32) (x2 : Int32) (x3 : Int32) (x4 : Int32) (res : zV), k72 V7 x1 x2 x3 x4 = some res → zR w kX12_leadsOn 0 0 0 none (zE zds w [V0, V1, V2, V3, V4, V5, V6, res]) 72 [(0, .ref (w.1 + 88)), (1, .int x1), (2, .int x2), (3, .int x3), (4, .int x4)] [] (zE zds w [V0, V1, V2, V3, V4, V5, V6, V7])) (V0 V1 V2 V3 V4 V5 V6 V7 : zV) (x1 : Int32) (x2 : Int32) (x3 : Int32) (x4 : Int32) (res : zV) (h : fX12_leadsOn_b118 F k72 V7 x1 x2 x3 x4 = some res) : zR w kX12_leadsOn 0 0 0 none (zE zds w [V0, V1, V2, V3, V4, V5, V6, res]) 118 [(0, .ref (w.1 + 88)), (1, .int x1), (2, .int x2), (3, .int x3), (4, .int x4)] [] (zE zds w [V0, V1, V2, V3, V4, V5, V6, V7]) := by
  unfold fX12_leadsOn_b118 at h
  refine zR_aload_n dX12_leadsOn_118 0 rfl ?_
  refine zG_getR dX12_leadsOn_119 zf_X12_109 zd_88 rfl rfl ?_
  refine zR_iload dX12_leadsOn_122 4 rfl ?_
  obtain ⟨g1, h⟩ := zchk_some h
  refine zG_iald dX12_leadsOn_124 zd_119 rfl rfl g1 ?_
  refine zR_bipush (x := (38 : Int32)) dX12_leadsOn_125 rfl ?_
  by_cases c2 : (zA V7 31 (x4).toNatClampNeg) = (38 : Int32)
  · have h := zif_t h c2
    refine zR_icmp_ne_f (tgt := 140) dX12_leadsOn_127 (by decide) c2 ?_
    refine zR_aload_n dX12_leadsOn_130 0 rfl ?_
    refine zG_getR dX12_leadsOn_131 zf_X12_216 zd_88 rfl rfl ?_
    refine zR_bipush (x := (12 : Int32)) dX12_leadsOn_134 rfl ?_
    refine zR_iload_n dX12_leadsOn_136 1 rfl ?_
    refine zR_iadd dX12_leadsOn_137 ?_
    refine zR_iconst (x := (1 : Int32)) dX12_leadsOn_138 rfl ?_
    obtain ⟨g3, h⟩ := zchk_some h
    obtain ⟨V7_4, e5, h⟩ := zlet_some h
    refine zG_zast zds_ok dX12_leadsOn_139 zd_154 rfl rfl g3 e5 rfl ?_
    exact wX12_leadsOn_b140 F k72 hk72 V0 V1 V2 V3 V4 V5 V6 V7_4 x1 x2 x3 x4 _ h
  · have h := zif_f h c2
    refine zR_icmp_ne_t (tgt := 140) dX12_leadsOn_127 (by decide) c2 ?_
    exact wX12_leadsOn_b140 F k72 hk72 V0 V1 V2 V3 V4 V5 V6 V7 x1 x2 x3 x4 _ h
set_option maxRecDepth 100000 in
set_option maxHeartbeats 4000000 in
theorem wX12_leadsOn_l72 {w : zW} (F : Nat) (k15 : zV → Int32 → Int32 → Int32 → Option (zV)) (hk15 : ∀ (V0 V1 V2 V3 V4 V5 V6 V7 : zV) (x1 : Int32) (x2 : Int32) (x3 : Int32) (res : zV), k15 V7 x1 x2 x3 = some res → zR w kX12_leadsOn 0 0 0 none (zE zds w [V0, V1, V2, V3, V4, V5, V6, res]) 15 [(0, .ref (w.1 + 88)), (1, .int x1), (2, .int x2), (3, .int x3)] [] (zE zds w [V0, V1, V2, V3, V4, V5, V6, V7])) : ∀ (n : Nat) (V0 V1 V2 V3 V4 V5 V6 V7 : zV) (x1 : Int32) (x2 : Int32) (x3 : Int32) (x4 : Int32) (res : zV), fX12_leadsOn_l72 F k15 n V7 x1 x2 x3 x4 = some res → zR w kX12_leadsOn 0 0 0 none (zE zds w [V0, V1, V2, V3, V4, V5, V6, res]) 72 [(0, .ref (w.1 + 88)), (1, .int x1), (2, .int x2), (3, .int x3), (4, .int x4)] [] (zE zds w [V0, V1, V2, V3, V4, V5, V6, V7]) := by
  intro n
  induction n with
  | zero =>
    intro V0 V1 V2 V3 V4 V5 V6 V7 x1 x2 x3 x4 res h
    simp [fX12_leadsOn_l72] at h
  | succ n ih =>
    intro V0 V1 V2 V3 V4 V5 V6 V7 x1 x2 x3 x4 res h
    rw [fX12_leadsOn_l72] at h
    refine zR_iload dX12_leadsOn_72 4 rfl ?_
    refine zR_aload_n dX12_leadsOn_74 0 rfl ?_
    refine zG_getR dX12_leadsOn_75 zf_X12_94 zd_88 rfl rfl ?_
    refine zR_bipush (x := (81 : Int32)) dX12_leadsOn_78 rfl ?_
    refine zR_aload_n dX12_leadsOn_80 0 rfl ?_
    refine zG_getI dX12_leadsOn_81 zf_X12_308 zd_88 rfl rfl ?_
    refine zR_imul dX12_leadsOn_84 ?_
    refine zR_iload_n dX12_leadsOn_85 3 rfl ?_
    refine zR_iadd dX12_leadsOn_86 ?_
    refine zR_iconst (x := (1 : Int32)) dX12_leadsOn_87 rfl ?_
    refine zR_iadd dX12_leadsOn_88 ?_
    obtain ⟨g6, h⟩ := zchk_some h
    refine zG_iald dX12_leadsOn_89 zd_114 rfl rfl g6 ?_
    by_cases c7 : (zA V7 26 (((((81 : Int32) * (zI V7 0 18)) + x3) + (1 : Int32))).toNatClampNeg) ≤ x4
    · have h := zif_t h c7
      refine zR_icmp_ge_t (tgt := 146) dX12_leadsOn_90 (by decide) c7 ?_
      refine zR_sub (lv' := [(0, .ref (w.1 + 88)), (1, .int x1), (2, .int x2), (3, .int x3)]) [0, 1, 2, 3] rfl ?_
      exact wX12_leadsOn_b146 F k15 hk15 V0 V1 V2 V3 V4 V5 V6 V7 x1 x2 x3 _ h
    · have h := zif_f h c7
      refine zR_icmp_ge_f (tgt := 146) dX12_leadsOn_90 (by decide) c7 ?_
      refine zR_aload_n dX12_leadsOn_93 0 rfl ?_
      refine zG_getR dX12_leadsOn_94 zf_X12_109 zd_88 rfl rfl ?_
      refine zR_iload dX12_leadsOn_97 4 rfl ?_
      obtain ⟨g8, h⟩ := zchk_some h
      refine zG_iald dX12_leadsOn_99 zd_119 rfl rfl g8 ?_
      refine zR_bipush (x := (37 : Int32)) dX12_leadsOn_100 rfl ?_
      by_cases c9 : (zA V7 31 (x4).toNatClampNeg) = (37 : Int32)
      · have h := zif_t h c9
        refine zR_icmp_ne_f (tgt := 118) dX12_leadsOn_102 (by decide) c9 ?_
        refine zR_aload_n dX12_leadsOn_105 0 rfl ?_
        refine zG_getR dX12_leadsOn_106 zf_X12_216 zd_88 rfl rfl ?_
        refine zR_aload_n dX12_leadsOn_109 0 rfl ?_
        refine zG_getR dX12_leadsOn_110 zf_X12_112 zd_88 rfl rfl ?_
        refine zR_iload dX12_leadsOn_113 4 rfl ?_
        obtain ⟨g10, h⟩ := zchk_some h
        refine zG_iald dX12_leadsOn_115 zd_120 rfl rfl g10 ?_
        refine zR_iconst (x := (1 : Int32)) dX12_leadsOn_116 rfl ?_
        obtain ⟨g11, h⟩ := zchk_some h
        obtain ⟨V7_12, e13, h⟩ := zlet_some h
        refine zG_zast zds_ok dX12_leadsOn_117 zd_154 rfl rfl g11 e13 rfl ?_
        exact wX12_leadsOn_b118 F (fX12_leadsOn_l72 F k15 n) ih V0 V1 V2 V3 V4 V5 V6 V7_12 x1 x2 x3 x4 _ h
      · have h := zif_f h c9
        refine zR_icmp_ne_t (tgt := 118) dX12_leadsOn_102 (by decide) c9 ?_
        exact wX12_leadsOn_b118 F (fX12_leadsOn_l72 F k15 n) ih V0 V1 V2 V3 V4 V5 V6 V7 x1 x2 x3 x4 _ h
set_option maxRecDepth 100000 in
set_option maxHeartbeats 4000000 in
theorem wX12_leadsOn_l15 {w : zW} (F : Nat) : ∀ (n : Nat) (V0 V1 V2 V3 V4 V5 V6 V7 : zV) (x1 : Int32) (x2 : Int32) (x3 : Int32) (res : zV), fX12_leadsOn_l15 F n V7 x1 x2 x3 = some res → zR w kX12_leadsOn 0 0 0 none (zE zds w [V0, V1, V2, V3, V4, V5, V6, res]) 15 [(0, .ref (w.1 + 88)), (1, .int x1), (2, .int x2), (3, .int x3)] [] (zE zds w [V0, V1, V2, V3, V4, V5, V6, V7]) := by
  intro n
  induction n with
  | zero =>
    intro V0 V1 V2 V3 V4 V5 V6 V7 x1 x2 x3 res h
    simp [fX12_leadsOn_l15] at h
  | succ n ih =>
    intro V0 V1 V2 V3 V4 V5 V6 V7 x1 x2 x3 res h
    rw [fX12_leadsOn_l15] at h
    refine zR_iload_n dX12_leadsOn_15 3 rfl ?_
    refine zR_aload_n dX12_leadsOn_16 0 rfl ?_
    refine zG_getR dX12_leadsOn_17 zf_X12_85 zd_88 rfl rfl ?_
    refine zR_bipush (x := (13 : Int32)) dX12_leadsOn_20 rfl ?_
    refine zR_aload_n dX12_leadsOn_22 0 rfl ?_
    refine zG_getI dX12_leadsOn_23 zf_X12_308 zd_88 rfl rfl ?_
    refine zR_imul dX12_leadsOn_26 ?_
    refine zR_iload_n dX12_leadsOn_27 1 rfl ?_
    refine zR_iadd dX12_leadsOn_28 ?_
    refine zR_iconst (x := (1 : Int32)) dX12_leadsOn_29 rfl ?_
    refine zR_iadd dX12_leadsOn_30 ?_
    obtain ⟨g14, h⟩ := zchk_some h
    refine zG_iald dX12_leadsOn_31 zd_111 rfl rfl g14 ?_
    by_cases c15 : (zA V7 23 (((((13 : Int32) * (zI V7 0 18)) + x1) + (1 : Int32))).toNatClampNeg) ≤ x3
    · have h := zif_t h c15
      refine zR_icmp_ge_t (tgt := 152) dX12_leadsOn_32 (by decide) c15 ?_
      have h := Option.some.inj h
      subst h
      exact zR_ret dX12_leadsOn_152 rfl
    · have h := zif_f h c15
      refine zR_icmp_ge_f (tgt := 152) dX12_leadsOn_32 (by decide) c15 ?_
      refine zR_aload_n dX12_leadsOn_35 0 rfl ?_
      refine zG_getR dX12_leadsOn_36 zf_X12_88 zd_88 rfl rfl ?_
      refine zR_bipush (x := (80 : Int32)) dX12_leadsOn_39 rfl ?_
      refine zR_aload_n dX12_leadsOn_41 0 rfl ?_
      refine zG_getI dX12_leadsOn_42 zf_X12_308 zd_88 rfl rfl ?_
      refine zR_imul dX12_leadsOn_45 ?_
      refine zR_iload_n dX12_leadsOn_46 3 rfl ?_
      refine zR_iadd dX12_leadsOn_47 ?_
      obtain ⟨g16, h⟩ := zchk_some h
      refine zG_iald dX12_leadsOn_48 zd_112 rfl rfl g16 ?_
      refine zR_iload_n dX12_leadsOn_49 2 rfl ?_
      by_cases c17 : (zA V7 24 ((((80 : Int32) * (zI V7 0 18)) + x3)).toNatClampNeg) = x2
      · have h := zif_t h c17
        refine zR_icmp_eq_t (tgt := 56) dX12_leadsOn_50 (by decide) c17 ?_
        refine zR_aload_n dX12_leadsOn_56 0 rfl ?_
        refine zG_getR dX12_leadsOn_57 zf_X12_94 zd_88 rfl rfl ?_
        refine zR_bipush (x := (81 : Int32)) dX12_leadsOn_60 rfl ?_
        refine zR_aload_n dX12_leadsOn_62 0 rfl ?_
        refine zG_getI dX12_leadsOn_63 zf_X12_308 zd_88 rfl rfl ?_
        refine zR_imul dX12_leadsOn_66 ?_
        refine zR_iload_n dX12_leadsOn_67 3 rfl ?_
        refine zR_iadd dX12_leadsOn_68 ?_
        obtain ⟨g18, h⟩ := zchk_some h
        refine zG_iald dX12_leadsOn_69 zd_114 rfl rfl g18 ?_
        obtain ⟨y19, e20, h⟩ := zlet_some h
        refine zR_nmI e20 ?_
        refine zR_istore (lv' := [(0, .ref (w.1 + 88)), (1, .int x1), (2, .int x2), (3, .int x3), (4, .int y19)]) dX12_leadsOn_70 (Nat.le_of_ble_eq_true rfl) rfl ?_
        exact wX12_leadsOn_l72 F (fX12_leadsOn_l15 F n) ih F V0 V1 V2 V3 V4 V5 V6 V7 x1 x2 x3 y19 _ h
      · have h := zif_f h c17
        refine zR_icmp_eq_f (tgt := 56) dX12_leadsOn_50 (by decide) c17 ?_
        refine zR_goto (tgt := 146) dX12_leadsOn_53 (by decide) ?_
        exact wX12_leadsOn_b146 F (fX12_leadsOn_l15 F n) ih V0 V1 V2 V3 V4 V5 V6 V7 x1 x2 x3 _ h
set_option maxRecDepth 100000 in
set_option maxHeartbeats 4000000 in
theorem mX12_leadsOn {w : zW} (F : Nat) (V0 V1 V2 V3 V4 V5 V6 V7 : zV) (x1 : Int32) (x2 : Int32) (res : zV) (h : fX12_leadsOn F V7 x1 x2 = some res) : zMet w kX12_leadsOn 0 0 0 [.ref (w.1 + 88), .int x1, .int x2] (zE zds w [V0, V1, V2, V3, V4, V5, V6, V7]) none (zE zds w [V0, V1, V2, V3, V4, V5, V6, res]) := by
  refine zMet_of (by decide) (Nat.le_of_ble_eq_true rfl) (Nat.le_refl 0) fun _ => ?_
  show zR w kX12_leadsOn 0 0 0 none (zE zds w [V0, V1, V2, V3, V4, V5, V6, res]) 0 [(0, .ref (w.1 + 88)), (1, .int x1), (2, .int x2)] [] (zE zds w [V0, V1, V2, V3, V4, V5, V6, V7])
  unfold fX12_leadsOn at h
  refine zR_aload_n dX12_leadsOn_0 0 rfl ?_
  refine zG_getR dX12_leadsOn_1 zf_X12_85 zd_88 rfl rfl ?_
  refine zR_bipush (x := (13 : Int32)) dX12_leadsOn_4 rfl ?_
  refine zR_aload_n dX12_leadsOn_6 0 rfl ?_
  refine zG_getI dX12_leadsOn_7 zf_X12_308 zd_88 rfl rfl ?_
  refine zR_imul dX12_leadsOn_10 ?_
  refine zR_iload_n dX12_leadsOn_11 1 rfl ?_
  refine zR_iadd dX12_leadsOn_12 ?_
  obtain ⟨g21, h⟩ := zchk_some h
  refine zG_iald dX12_leadsOn_13 zd_111 rfl rfl g21 ?_
  obtain ⟨y22, e23, h⟩ := zlet_some h
  refine zR_nmI e23 ?_
  refine zR_istore_n (lv' := [(0, .ref (w.1 + 88)), (1, .int x1), (2, .int x2), (3, .int y22)]) dX12_leadsOn_14 (Nat.le_of_ble_eq_true rfl) rfl ?_
  exact wX12_leadsOn_l15 F F V0 V1 V2 V3 V4 V5 V6 V7 x1 x2 y22 _ h
set_option maxRecDepth 100000 in
set_option maxHeartbeats 4000000 in
theorem wX12_comesBack_b126 {w : zW} (F : Nat) (k31 : zV → Int32 → Int32 → Int32 → Option (Int32 × zV)) (hk31 : ∀ (V0 V1 V2 V3 V4 V5 V6 V7 : zV) (x1 : Int32) (x2 : Int32) (x3 : Int32) (res : Int32 × zV), k31 V7 x1 x2 x3 = some res → zR w kX12_comesBack 1 0 0 (some (.int res.1)) (zE zds w [V0, V1, V2, V3, V4, V5, V6, res.2]) 31 [(0, .ref (w.1 + 88)), (1, .int x1), (2, .int x2), (3, .int x3)] [] (zE zds w [V0, V1, V2, V3, V4, V5, V6, V7])) (V0 V1 V2 V3 V4 V5 V6 V7 : zV) (x1 : Int32) (x4 : Int32) (s0 : Int32) (res : Int32 × zV) (h : fX12_comesBack_b126 F k31 V7 x1 x4 s0 = some res) : zR w kX12_comesBack 1 0 0 (some (.int res.1)) (zE zds w [V0, V1, V2, V3, V4, V5, V6, res.2]) 126 [(0, .ref (w.1 + 88)), (1, .int x1), (4, .int x4)] [.int s0] (zE zds w [V0, V1, V2, V3, V4, V5, V6, V7]) := by
  unfold fX12_comesBack_b126 at h
  refine zR_istore_n (lv' := [(0, .ref (w.1 + 88)), (1, .int x1), (4, .int x4), (2, .int s0)]) dX12_comesBack_126 (Nat.le_of_ble_eq_true rfl) rfl ?_
  refine zR_iload dX12_comesBack_127 2 rfl ?_
  refine zR_istore_n (lv' := [(0, .ref (w.1 + 88)), (1, .int x1), (4, .int x4), (2, .int s0), (3, .int x4)]) dX12_comesBack_129 (Nat.le_of_ble_eq_true rfl) rfl ?_
  refine zR_goto (tgt := 31) dX12_comesBack_130 (by decide) ?_
  refine zR_sub (lv' := [(0, .ref (w.1 + 88)), (1, .int x1), (2, .int s0), (3, .int x4)]) [0, 1, 3, 4] rfl ?_
  exact hk31 V0 V1 V2 V3 V4 V5 V6 V7 x1 s0 x4 _ h
set_option maxRecDepth 100000 in
set_option maxHeartbeats 4000000 in
theorem wX12_comesBack_b109 {w : zW} (F : Nat) (k89 : zV → Int32 → Int32 → Int32 → Int32 → Option (Int32 × zV)) (hk89 : ∀ (V0 V1 V2 V3 V4 V5 V6 V7 : zV) (x1 : Int32) (x3 : Int32) (x4 : Int32) (x5 : Int32) (res : Int32 × zV), k89 V7 x1 x3 x4 x5 = some res → zR w kX12_comesBack 1 0 0 (some (.int res.1)) (zE zds w [V0, V1, V2, V3, V4, V5, V6, res.2]) 89 [(0, .ref (w.1 + 88)), (1, .int x1), (3, .int x3), (4, .int x4), (5, .int x5)] [] (zE zds w [V0, V1, V2, V3, V4, V5, V6, V7])) (V0 V1 V2 V3 V4 V5 V6 V7 : zV) (x1 : Int32) (x3 : Int32) (x4 : Int32) (x5 : Int32) (res : Int32 × zV) (h : fX12_comesBack_b109 F k89 V7 x1 x3 x4 x5 = some res) : zR w kX12_comesBack 1 0 0 (some (.int res.1)) (zE zds w [V0, V1, V2, V3, V4, V5, V6, res.2]) 109 [(0, .ref (w.1 + 88)), (1, .int x1), (3, .int x3), (4, .int x4), (5, .int x5)] [] (zE zds w [V0, V1, V2, V3, V4, V5, V6, V7]) := by
  unfold fX12_comesBack_b109 at h
  refine zR_iinc (u := (x5 + 1)) (lv' := [(0, .ref (w.1 + 88)), (1, .int x1), (3, .int x3), (4, .int x4), (5, .int (x5 + 1))]) dX12_comesBack_109 4 rfl rfl (Nat.le_of_ble_eq_true rfl) rfl ?_
  refine zR_goto (tgt := 89) dX12_comesBack_112 (by decide) ?_
  exact hk89 V0 V1 V2 V3 V4 V5 V6 V7 x1 x3 x4 (x5 + 1) _ h
set_option maxRecDepth 100000 in
set_option maxHeartbeats 4000000 in
theorem wX12_comesBack_l89 {w : zW} (F : Nat) (k31 : zV → Int32 → Int32 → Int32 → Option (Int32 × zV)) (hk31 : ∀ (V0 V1 V2 V3 V4 V5 V6 V7 : zV) (x1 : Int32) (x2 : Int32) (x3 : Int32) (res : Int32 × zV), k31 V7 x1 x2 x3 = some res → zR w kX12_comesBack 1 0 0 (some (.int res.1)) (zE zds w [V0, V1, V2, V3, V4, V5, V6, res.2]) 31 [(0, .ref (w.1 + 88)), (1, .int x1), (2, .int x2), (3, .int x3)] [] (zE zds w [V0, V1, V2, V3, V4, V5, V6, V7])) : ∀ (n : Nat) (V0 V1 V2 V3 V4 V5 V6 V7 : zV) (x1 : Int32) (x3 : Int32) (x4 : Int32) (x5 : Int32) (res : Int32 × zV), fX12_comesBack_l89 F k31 n V7 x1 x3 x4 x5 = some res → zR w kX12_comesBack 1 0 0 (some (.int res.1)) (zE zds w [V0, V1, V2, V3, V4, V5, V6, res.2]) 89 [(0, .ref (w.1 + 88)), (1, .int x1), (3, .int x3), (4, .int x4), (5, .int x5)] [] (zE zds w [V0, V1, V2, V3, V4, V5, V6, V7]) := by
  intro n
  induction n with
  | zero =>
    intro V0 V1 V2 V3 V4 V5 V6 V7 x1 x3 x4 x5 res h
    simp [fX12_comesBack_l89] at h
  | succ n ih =>
    intro V0 V1 V2 V3 V4 V5 V6 V7 x1 x3 x4 x5 res h
    rw [fX12_comesBack_l89] at h
    refine zR_iload dX12_comesBack_89 4 rfl ?_
    refine zR_bipush (x := (24 : Int32)) dX12_comesBack_91 rfl ?_
    by_cases c1 : (24 : Int32) ≤ x5
    · have h := zif_t h c1
      refine zR_icmp_ge_t (tgt := 115) dX12_comesBack_93 (by decide) c1 ?_
      refine zR_iload dX12_comesBack_115 3 rfl ?_
      refine zR_iload_n dX12_comesBack_117 2 rfl ?_
      by_cases c2 : x4 ≤ x3
      · have h := zif_t h c2
        refine zR_icmp_le_t (tgt := 125) dX12_comesBack_118 (by decide) c2 ?_
        refine zR_iconst (x := (0 : Int32)) dX12_comesBack_125 rfl ?_
        refine zR_sub (lv' := [(0, .ref (w.1 + 88)), (1, .int x1), (4, .int x4)]) [0, 1, 3] rfl ?_
        exact wX12_comesBack_b126 F k31 hk31 V0 V1 V2 V3 V4 V5 V6 V7 x1 x4 (0 : Int32) _ h
      · have h := zif_f h c2
        refine zR_icmp_le_f (tgt := 125) dX12_comesBack_118 (by decide) c2 ?_
        refine zR_iconst (x := (1 : Int32)) dX12_comesBack_121 rfl ?_
        refine zR_goto (tgt := 126) dX12_comesBack_122 (by decide) ?_
        refine zR_sub (lv' := [(0, .ref (w.1 + 88)), (1, .int x1), (4, .int x4)]) [0, 1, 3] rfl ?_
        exact wX12_comesBack_b126 F k31 hk31 V0 V1 V2 V3 V4 V5 V6 V7 x1 x4 (1 : Int32) _ h
    · have h := zif_f h c1
      refine zR_icmp_ge_f (tgt := 115) dX12_comesBack_93 (by decide) c1 ?_
      refine zR_aload_n dX12_comesBack_96 0 rfl ?_
      refine zG_getR dX12_comesBack_97 zf_X12_216 zd_88 rfl rfl ?_
      refine zR_iload dX12_comesBack_100 4 rfl ?_
      obtain ⟨g3, h⟩ := zchk_some h
      refine zG_zald dX12_comesBack_102 zd_154 rfl rfl g3 ?_
      by_cases c4 : (zA V7 66 (x5).toNatClampNeg) = 0
      · have h := zif_t h c4
        refine zR_if_eq_t (tgt := 109) dX12_comesBack_103 (by decide) c4 ?_
        exact wX12_comesBack_b109 F (fX12_comesBack_l89 F k31 n) ih V0 V1 V2 V3 V4 V5 V6 V7 x1 x3 x4 x5 _ h
      · have h := zif_f h c4
        refine zR_if_eq_f (tgt := 109) dX12_comesBack_103 (by decide) c4 ?_
        refine zR_iinc (u := (x4 + 1)) (lv' := [(0, .ref (w.1 + 88)), (1, .int x1), (3, .int x3), (4, .int (x4 + 1)), (5, .int x5)]) dX12_comesBack_106 3 rfl rfl (Nat.le_of_ble_eq_true rfl) rfl ?_
        exact wX12_comesBack_b109 F (fX12_comesBack_l89 F k31 n) ih V0 V1 V2 V3 V4 V5 V6 V7 x1 x3 (x4 + 1) x5 _ h
set_option maxRecDepth 100000 in
set_option maxHeartbeats 4000000 in
theorem wX12_comesBack_b77 {w : zW} (F : Nat) (k38 : zV → Int32 → Int32 → Int32 → Option (Int32 × zV)) (hk38 : ∀ (V0 V1 V2 V3 V4 V5 V6 V7 : zV) (x1 : Int32) (x3 : Int32) (x4 : Int32) (res : Int32 × zV), k38 V7 x1 x3 x4 = some res → zR w kX12_comesBack 1 0 0 (some (.int res.1)) (zE zds w [V0, V1, V2, V3, V4, V5, V6, res.2]) 38 [(0, .ref (w.1 + 88)), (1, .int x1), (3, .int x3), (4, .int x4)] [] (zE zds w [V0, V1, V2, V3, V4, V5, V6, V7])) (V0 V1 V2 V3 V4 V5 V6 V7 : zV) (x1 : Int32) (x3 : Int32) (x4 : Int32) (res : Int32 × zV) (h : fX12_comesBack_b77 F k38 V7 x1 x3 x4 = some res) : zR w kX12_comesBack 1 0 0 (some (.int res.1)) (zE zds w [V0, V1, V2, V3, V4, V5, V6, res.2]) 77 [(0, .ref (w.1 + 88)), (1, .int x1), (3, .int x3), (4, .int x4)] [] (zE zds w [V0, V1, V2, V3, V4, V5, V6, V7]) := by
  unfold fX12_comesBack_b77 at h
  refine zR_iinc (u := (x4 + 1)) (lv' := [(0, .ref (w.1 + 88)), (1, .int x1), (3, .int x3), (4, .int (x4 + 1))]) dX12_comesBack_77 3 rfl rfl (Nat.le_of_ble_eq_true rfl) rfl ?_
  refine zR_goto (tgt := 38) dX12_comesBack_80 (by decide) ?_
  exact hk38 V0 V1 V2 V3 V4 V5 V6 V7 x1 x3 (x4 + 1) _ h
set_option maxRecDepth 100000 in
set_option maxHeartbeats 4000000 in
theorem wX12_comesBack_b74 {w : zW} (F : Nat) (k38 : zV → Int32 → Int32 → Int32 → Option (Int32 × zV)) (hk38 : ∀ (V0 V1 V2 V3 V4 V5 V6 V7 : zV) (x1 : Int32) (x3 : Int32) (x4 : Int32) (res : Int32 × zV), k38 V7 x1 x3 x4 = some res → zR w kX12_comesBack 1 0 0 (some (.int res.1)) (zE zds w [V0, V1, V2, V3, V4, V5, V6, res.2]) 38 [(0, .ref (w.1 + 88)), (1, .int x1), (3, .int x3), (4, .int x4)] [] (zE zds w [V0, V1, V2, V3, V4, V5, V6, V7])) (V0 V1 V2 V3 V4 V5 V6 V7 : zV) (x1 : Int32) (x3 : Int32) (x4 : Int32) (s1 : Int32) (s2 : Int32) (res : Int32 × zV) (h : fX12_comesBack_b74 F k38 V7 x1 x3 x4 s1 s2 = some res) : zR w kX12_comesBack 1 0 0 (some (.int res.1)) (zE zds w [V0, V1, V2, V3, V4, V5, V6, res.2]) 74 [(0, .ref (w.1 + 88)), (1, .int x1), (3, .int x3), (4, .int x4)] [.int s2, .int s1, .ref (w.1 + 88)] (zE zds w [V0, V1, V2, V3, V4, V5, V6, V7]) := by
  unfold fX12_comesBack_b74 at h
  obtain ⟨q5, hq6, h⟩ := zbd_some h
  refine zR_cV (rest := []) (st1 := []) dX12_comesBack_74 (mX12_leadsOn F V0 V1 V2 V3 V4 V5 V6 V7 s1 s2 _ hq6) zc_X12_489 rfl (zE_at zd_88) ⟨_, _, rfl⟩ rfl (Nat.le_of_ble_eq_true rfl) (Nat.le_of_ble_eq_true rfl) rfl ?_
  exact wX12_comesBack_b77 F k38 hk38 V0 V1 V2 V3 V4 V5 V6 q5 x1 x3 x4 _ h
set_option maxRecDepth 100000 in
set_option maxHeartbeats 4000000 in
theorem wX12_comesBack_l38 {w : zW} (F : Nat) (k31 : zV → Int32 → Int32 → Int32 → Option (Int32 × zV)) (hk31 : ∀ (V0 V1 V2 V3 V4 V5 V6 V7 : zV) (x1 : Int32) (x2 : Int32) (x3 : Int32) (res : Int32 × zV), k31 V7 x1 x2 x3 = some res → zR w kX12_comesBack 1 0 0 (some (.int res.1)) (zE zds w [V0, V1, V2, V3, V4, V5, V6, res.2]) 31 [(0, .ref (w.1 + 88)), (1, .int x1), (2, .int x2), (3, .int x3)] [] (zE zds w [V0, V1, V2, V3, V4, V5, V6, V7])) : ∀ (n : Nat) (V0 V1 V2 V3 V4 V5 V6 V7 : zV) (x1 : Int32) (x3 : Int32) (x4 : Int32) (res : Int32 × zV), fX12_comesBack_l38 F k31 n V7 x1 x3 x4 = some res → zR w kX12_comesBack 1 0 0 (some (.int res.1)) (zE zds w [V0, V1, V2, V3, V4, V5, V6, res.2]) 38 [(0, .ref (w.1 + 88)), (1, .int x1), (3, .int x3), (4, .int x4)] [] (zE zds w [V0, V1, V2, V3, V4, V5, V6, V7]) := by
  intro n
  induction n with
  | zero =>
    intro V0 V1 V2 V3 V4 V5 V6 V7 x1 x3 x4 res h
    simp [fX12_comesBack_l38] at h
  | succ n ih =>
    intro V0 V1 V2 V3 V4 V5 V6 V7 x1 x3 x4 res h
    rw [fX12_comesBack_l38] at h
    refine zR_iload dX12_comesBack_38 3 rfl ?_
    refine zR_bipush (x := (24 : Int32)) dX12_comesBack_40 rfl ?_
    by_cases c7 : (24 : Int32) ≤ x4
    · have h := zif_t h c7
      refine zR_icmp_ge_t (tgt := 83) dX12_comesBack_42 (by decide) c7 ?_
      refine zR_iconst (x := (0 : Int32)) dX12_comesBack_83 rfl ?_
      refine zR_istore (lv' := [(0, .ref (w.1 + 88)), (1, .int x1), (3, .int x3), (4, .int (0 : Int32))]) dX12_comesBack_84 (Nat.le_of_ble_eq_true rfl) rfl ?_
      refine zR_iconst (x := (0 : Int32)) dX12_comesBack_86 rfl ?_
      refine zR_istore (lv' := [(0, .ref (w.1 + 88)), (1, .int x1), (3, .int x3), (4, .int (0 : Int32)), (5, .int (0 : Int32))]) dX12_comesBack_87 (Nat.le_of_ble_eq_true rfl) rfl ?_
      exact wX12_comesBack_l89 F k31 hk31 F V0 V1 V2 V3 V4 V5 V6 V7 x1 x3 (0 : Int32) (0 : Int32) _ h
    · have h := zif_f h c7
      refine zR_icmp_ge_f (tgt := 83) dX12_comesBack_42 (by decide) c7 ?_
      refine zR_aload_n dX12_comesBack_45 0 rfl ?_
      refine zG_getR dX12_comesBack_46 zf_X12_216 zd_88 rfl rfl ?_
      refine zR_iload dX12_comesBack_49 3 rfl ?_
      obtain ⟨g8, h⟩ := zchk_some h
      refine zG_zald dX12_comesBack_51 zd_154 rfl rfl g8 ?_
      by_cases c9 : (zA V7 66 (x4).toNatClampNeg) = 0
      · have h := zif_t h c9
        refine zR_if_eq_t (tgt := 77) dX12_comesBack_52 (by decide) c9 ?_
        exact wX12_comesBack_b77 F (fX12_comesBack_l38 F k31 n) ih V0 V1 V2 V3 V4 V5 V6 V7 x1 x3 x4 _ h
      · have h := zif_f h c9
        refine zR_if_eq_f (tgt := 77) dX12_comesBack_52 (by decide) c9 ?_
        refine zR_aload_n dX12_comesBack_55 0 rfl ?_
        refine zR_iload dX12_comesBack_56 3 rfl ?_
        refine zR_bipush (x := (12 : Int32)) dX12_comesBack_58 rfl ?_
        refine zR_irem dX12_comesBack_60 (by decide) ?_
        refine zR_iload dX12_comesBack_61 3 rfl ?_
        refine zR_bipush (x := (12 : Int32)) dX12_comesBack_63 rfl ?_
        by_cases c10 : (12 : Int32) ≤ x4
        · have h := zif_t h c10
          refine zR_icmp_ge_t (tgt := 72) dX12_comesBack_65 (by decide) c10 ?_
          refine zR_bipush (x := (-2 : Int32)) dX12_comesBack_72 (by decide) ?_
          exact wX12_comesBack_b74 F (fX12_comesBack_l38 F k31 n) ih V0 V1 V2 V3 V4 V5 V6 V7 x1 x3 x4 (x4 - x4 / (12 : Int32) * (12 : Int32)) (-2 : Int32) _ h
        · have h := zif_f h c10
          refine zR_icmp_ge_f (tgt := 72) dX12_comesBack_65 (by decide) c10 ?_
          refine zR_iconst (x := (-1 : Int32)) dX12_comesBack_68 (by decide) ?_
          refine zR_goto (tgt := 74) dX12_comesBack_69 (by decide) ?_
          exact wX12_comesBack_b74 F (fX12_comesBack_l38 F k31 n) ih V0 V1 V2 V3 V4 V5 V6 V7 x1 x3 x4 (x4 - x4 / (12 : Int32) * (12 : Int32)) (-1 : Int32) _ h
set_option maxRecDepth 100000 in
set_option maxHeartbeats 4000000 in
theorem wX12_comesBack_l31 {w : zW} (F : Nat) : ∀ (n : Nat) (V0 V1 V2 V3 V4 V5 V6 V7 : zV) (x1 : Int32) (x2 : Int32) (x3 : Int32) (res : Int32 × zV), fX12_comesBack_l31 F n V7 x1 x2 x3 = some res → zR w kX12_comesBack 1 0 0 (some (.int res.1)) (zE zds w [V0, V1, V2, V3, V4, V5, V6, res.2]) 31 [(0, .ref (w.1 + 88)), (1, .int x1), (2, .int x2), (3, .int x3)] [] (zE zds w [V0, V1, V2, V3, V4, V5, V6, V7]) := by
  intro n
  induction n with
  | zero =>
    intro V0 V1 V2 V3 V4 V5 V6 V7 x1 x2 x3 res h
    simp [fX12_comesBack_l31] at h
  | succ n ih =>
    intro V0 V1 V2 V3 V4 V5 V6 V7 x1 x2 x3 res h
    rw [fX12_comesBack_l31] at h
    refine zR_iload_n dX12_comesBack_31 2 rfl ?_
    by_cases c11 : x2 = 0
    · have h := zif_t h c11
      refine zR_if_eq_t (tgt := 133) dX12_comesBack_32 (by decide) c11 ?_
      refine zR_aload_n dX12_comesBack_133 0 rfl ?_
      refine zG_getR dX12_comesBack_134 zf_X12_216 zd_88 rfl rfl ?_
      refine zR_iload_n dX12_comesBack_137 1 rfl ?_
      obtain ⟨g12, h⟩ := zchk_some h
      refine zG_zald dX12_comesBack_138 zd_154 rfl rfl g12 ?_
      obtain ⟨g13, h⟩ := zchk_some h
      have h := Option.some.inj h
      subst h
      exact zR_iret (x := (zA V7 66 (x1).toNatClampNeg)) dX12_comesBack_139 rfl (znar01 g13)
    · have h := zif_f h c11
      refine zR_if_eq_f (tgt := 133) dX12_comesBack_32 (by decide) c11 ?_
      refine zR_iconst (x := (0 : Int32)) dX12_comesBack_35 rfl ?_
      refine zR_istore (lv' := [(0, .ref (w.1 + 88)), (1, .int x1), (2, .int x2), (3, .int x3), (4, .int (0 : Int32))]) dX12_comesBack_36 (Nat.le_of_ble_eq_true rfl) rfl ?_
      refine zR_sub (lv' := [(0, .ref (w.1 + 88)), (1, .int x1), (3, .int x3), (4, .int (0 : Int32))]) [0, 1, 3, 4] rfl ?_
      exact wX12_comesBack_l38 F (fX12_comesBack_l31 F n) ih F V0 V1 V2 V3 V4 V5 V6 V7 x1 x3 (0 : Int32) _ h
set_option maxRecDepth 100000 in
set_option maxHeartbeats 4000000 in
theorem wX12_comesBack_l2 {w : zW} (F : Nat) : ∀ (n : Nat) (V0 V1 V2 V3 V4 V5 V6 V7 : zV) (x1 : Int32) (x2 : Int32) (res : Int32 × zV), fX12_comesBack_l2 F n V7 x1 x2 = some res → zR w kX12_comesBack 1 0 0 (some (.int res.1)) (zE zds w [V0, V1, V2, V3, V4, V5, V6, res.2]) 2 [(0, .ref (w.1 + 88)), (1, .int x1), (2, .int x2)] [] (zE zds w [V0, V1, V2, V3, V4, V5, V6, V7]) := by
  intro n
  induction n with
  | zero =>
    intro V0 V1 V2 V3 V4 V5 V6 V7 x1 x2 res h
    simp [fX12_comesBack_l2] at h
  | succ n ih =>
    intro V0 V1 V2 V3 V4 V5 V6 V7 x1 x2 res h
    rw [fX12_comesBack_l2] at h
    refine zR_iload_n dX12_comesBack_2 2 rfl ?_
    refine zR_bipush (x := (24 : Int32)) dX12_comesBack_3 rfl ?_
    by_cases c14 : (24 : Int32) ≤ x2
    · have h := zif_t h c14
      refine zR_icmp_ge_t (tgt := 21) dX12_comesBack_5 (by decide) c14 ?_
      refine zR_aload_n dX12_comesBack_21 0 rfl ?_
      refine zR_iload_n dX12_comesBack_22 1 rfl ?_
      refine zR_iconst (x := (-1 : Int32)) dX12_comesBack_23 (by decide) ?_
      obtain ⟨q15, hq16, h⟩ := zbd_some h
      refine zR_cV (rest := []) (st1 := []) dX12_comesBack_24 (mX12_leadsOn F V0 V1 V2 V3 V4 V5 V6 V7 x1 (-1 : Int32) _ hq16) zc_X12_489 rfl (zE_at zd_88) ⟨_, _, rfl⟩ rfl (Nat.le_of_ble_eq_true rfl) (Nat.le_of_ble_eq_true rfl) rfl ?_
      refine zR_iconst (x := (1 : Int32)) dX12_comesBack_27 rfl ?_
      refine zR_istore_n (lv' := [(0, .ref (w.1 + 88)), (1, .int x1), (2, .int (1 : Int32))]) dX12_comesBack_28 (Nat.le_of_ble_eq_true rfl) rfl ?_
      refine zR_iconst (x := (0 : Int32)) dX12_comesBack_29 rfl ?_
      refine zR_istore_n (lv' := [(0, .ref (w.1 + 88)), (1, .int x1), (2, .int (1 : Int32)), (3, .int (0 : Int32))]) dX12_comesBack_30 (Nat.le_of_ble_eq_true rfl) rfl ?_
      exact wX12_comesBack_l31 F F V0 V1 V2 V3 V4 V5 V6 q15 x1 (1 : Int32) (0 : Int32) _ h
    · have h := zif_f h c14
      refine zR_icmp_ge_f (tgt := 21) dX12_comesBack_5 (by decide) c14 ?_
      refine zR_aload_n dX12_comesBack_8 0 rfl ?_
      refine zG_getR dX12_comesBack_9 zf_X12_216 zd_88 rfl rfl ?_
      refine zR_iload_n dX12_comesBack_12 2 rfl ?_
      refine zR_iconst (x := (0 : Int32)) dX12_comesBack_13 rfl ?_
      obtain ⟨g17, h⟩ := zchk_some h
      obtain ⟨V7_18, e19, h⟩ := zlet_some h
      refine zG_zast zds_ok dX12_comesBack_14 zd_154 rfl rfl g17 e19 rfl ?_
      refine zR_iinc (u := (x2 + 1)) (lv' := [(0, .ref (w.1 + 88)), (1, .int x1), (2, .int (x2 + 1))]) dX12_comesBack_15 2 rfl rfl (Nat.le_of_ble_eq_true rfl) rfl ?_
      refine zR_goto (tgt := 2) dX12_comesBack_18 (by decide) ?_
      exact ih V0 V1 V2 V3 V4 V5 V6 V7_18 x1 (x2 + 1) _ h
set_option maxRecDepth 100000 in
set_option maxHeartbeats 4000000 in
theorem mX12_comesBack {w : zW} (F : Nat) (V0 V1 V2 V3 V4 V5 V6 V7 : zV) (x1 : Int32) (res : Int32 × zV) (h : fX12_comesBack F V7 x1 = some res) : zMet w kX12_comesBack 1 0 0 [.ref (w.1 + 88), .int x1] (zE zds w [V0, V1, V2, V3, V4, V5, V6, V7]) (some (.int res.1)) (zE zds w [V0, V1, V2, V3, V4, V5, V6, res.2]) := by
  refine zMet_of (by decide) (Nat.le_of_ble_eq_true rfl) (Nat.le_refl 0) fun _ => ?_
  show zR w kX12_comesBack 1 0 0 (some (.int res.1)) (zE zds w [V0, V1, V2, V3, V4, V5, V6, res.2]) 0 [(0, .ref (w.1 + 88)), (1, .int x1)] [] (zE zds w [V0, V1, V2, V3, V4, V5, V6, V7])
  unfold fX12_comesBack at h
  refine zR_iconst (x := (0 : Int32)) dX12_comesBack_0 rfl ?_
  refine zR_istore_n (lv' := [(0, .ref (w.1 + 88)), (1, .int x1), (2, .int (0 : Int32))]) dX12_comesBack_1 (Nat.le_of_ble_eq_true rfl) rfl ?_
  exact wX12_comesBack_l2 F F V0 V1 V2 V3 V4 V5 V6 V7 x1 (0 : Int32) _ h
set_option maxRecDepth 100000 in
set_option maxHeartbeats 4000000 in
theorem wX12_ring_l11 {w : zW} (F : Nat) : ∀ (n : Nat) (V0 V1 V2 V3 V4 V5 V6 V7 : zV) (x1 : Int32) (res : Int32 × zV), fX12_ring_l11 F n V7 x1 = some res → zR w kX12_ring 2 0 0 (some (.int res.1)) (zE zds w [V0, V1, V2, V3, V4, V5, V6, res.2]) 11 [(0, .ref (w.1 + 88)), (1, .int x1)] [] (zE zds w [V0, V1, V2, V3, V4, V5, V6, V7]) := by
  intro n
  induction n with
  | zero =>
    intro V0 V1 V2 V3 V4 V5 V6 V7 x1 res h
    simp [fX12_ring_l11] at h
  | succ n ih =>
    intro V0 V1 V2 V3 V4 V5 V6 V7 x1 res h
    rw [fX12_ring_l11] at h
    refine zR_iload_n dX12_ring_11 1 rfl ?_
    refine zR_aload_n dX12_ring_12 0 rfl ?_
    refine zR_bipush (x := (7 : Int32)) dX12_ring_13 rfl ?_
    obtain ⟨q1, hq2, h⟩ := zbd_some h
    refine zR_cV (rest := [.int x1]) (st1 := [.int q1, .int x1]) dX12_ring_15 (mX12_sort F V0 V1 V2 V3 V4 V5 V6 V7 (7 : Int32) _ hq2) zc_X12_370 rfl (zE_at zd_88) ⟨_, _, rfl⟩ rfl (Nat.le_of_ble_eq_true rfl) (Nat.le_of_ble_eq_true rfl) rfl ?_
    by_cases c3 : q1 ≤ x1
    · have h := zif_t h c3
      refine zR_icmp_ge_t (tgt := 37) dX12_ring_18 (by decide) c3 ?_
      refine zR_iconst (x := (-1 : Int32)) dX12_ring_37 (by decide) ?_
      have h := Option.some.inj h
      subst h
      exact zR_iret (x := (-1 : Int32)) dX12_ring_38 rfl rfl
    · have h := zif_f h c3
      refine zR_icmp_ge_f (tgt := 37) dX12_ring_18 (by decide) c3 ?_
      refine zR_aload_n dX12_ring_21 0 rfl ?_
      refine zR_iload_n dX12_ring_22 1 rfl ?_
      obtain ⟨q4, hq5, h⟩ := zbd_some h
      refine zR_cV (rest := []) (st1 := [.int q4.1]) dX12_ring_23 (mX12_comesBack F V0 V1 V2 V3 V4 V5 V6 V7 x1 _ hq5) zc_X12_486 rfl (zE_at zd_88) ⟨_, _, rfl⟩ rfl (Nat.le_of_ble_eq_true rfl) (Nat.le_of_ble_eq_true rfl) rfl ?_
      by_cases c6 : q4.1 = 0
      · have h := zif_t h c6
        refine zR_if_eq_t (tgt := 31) dX12_ring_26 (by decide) c6 ?_
        refine zR_iinc (u := (x1 + 1)) (lv' := [(0, .ref (w.1 + 88)), (1, .int (x1 + 1))]) dX12_ring_31 1 rfl rfl (Nat.le_of_ble_eq_true rfl) rfl ?_
        refine zR_goto (tgt := 11) dX12_ring_34 (by decide) ?_
        exact ih V0 V1 V2 V3 V4 V5 V6 q4.2 (x1 + 1) _ h
      · have h := zif_f h c6
        refine zR_if_eq_f (tgt := 31) dX12_ring_26 (by decide) c6 ?_
        refine zR_iload_n dX12_ring_29 1 rfl ?_
        have h := Option.some.inj h
        subst h
        exact zR_iret (x := x1) dX12_ring_30 rfl rfl
set_option maxRecDepth 100000 in
set_option maxHeartbeats 4000000 in
theorem mX12_ring {w : zW} (F : Nat) (V0 V1 V2 V3 V4 V5 V6 V7 : zV) (res : Int32 × zV) (h : fX12_ring F V7 = some res) : zMet w kX12_ring 2 0 0 [.ref (w.1 + 88)] (zE zds w [V0, V1, V2, V3, V4, V5, V6, V7]) (some (.int res.1)) (zE zds w [V0, V1, V2, V3, V4, V5, V6, res.2]) := by
  refine zMet_of (by decide) (Nat.le_of_ble_eq_true rfl) (Nat.le_refl 0) fun _ => ?_
  show zR w kX12_ring 2 0 0 (some (.int res.1)) (zE zds w [V0, V1, V2, V3, V4, V5, V6, res.2]) 0 [(0, .ref (w.1 + 88))] [] (zE zds w [V0, V1, V2, V3, V4, V5, V6, V7])
  unfold fX12_ring at h
  refine zR_aload_n dX12_ring_0 0 rfl ?_
  refine zG_getI dX12_ring_1 zf_X12_329 zd_88 rfl rfl ?_
  by_cases c7 : (zI V7 0 20) = 0
  · have h := zif_t h c7
    refine zR_if_ne_f (tgt := 9) dX12_ring_4 (by decide) c7 ?_
    refine zR_iconst (x := (-1 : Int32)) dX12_ring_7 (by decide) ?_
    have h := Option.some.inj h
    subst h
    exact zR_iret (x := (-1 : Int32)) dX12_ring_8 rfl rfl
  · have h := zif_f h c7
    refine zR_if_ne_t (tgt := 9) dX12_ring_4 (by decide) c7 ?_
    refine zR_iconst (x := (0 : Int32)) dX12_ring_9 rfl ?_
    refine zR_istore_n (lv' := [(0, .ref (w.1 + 88)), (1, .int (0 : Int32))]) dX12_ring_10 (Nat.le_of_ble_eq_true rfl) rfl ?_
    exact wX12_ring_l11 F F V0 V1 V2 V3 V4 V5 V6 V7 (0 : Int32) _ h
set_option maxRecDepth 100000 in
set_option maxHeartbeats 4000000 in
theorem wX12_count_b95 {w : zW} (F : Nat) (V0 V1 V2 V3 V4 V5 V6 V7 : zV) (s0 : Int32) (res : Int32) (h : fX12_count_b95 F V7 s0 = some res) : zR w kX12_count 1 0 0 (some (.int res)) (zE zds w [V0, V1, V2, V3, V4, V5, V6, V7]) 95 [(0, .ref (w.1 + 88))] [.int s0] (zE zds w [V0, V1, V2, V3, V4, V5, V6, V7]) := by
  unfold fX12_count_b95 at h
  refine zR_istore_n (lv' := [(0, .ref (w.1 + 88)), (2, .int s0)]) dX12_count_95 (Nat.le_of_ble_eq_true rfl) rfl ?_
  refine zR_aload_n dX12_count_96 0 rfl ?_
  refine zR_iload_n dX12_count_97 1 rfl ?_
  obtain ⟨q1, hq2, h⟩ := zbd_some h
  refine zR_cV (rest := []) (st1 := [.int q1]) dX12_count_98 (mX12_sort F V0 V1 V2 V3 V4 V5 V6 V7 s0 _ hq2) zc_X12_370 rfl (zE_at zd_88) ⟨_, _, rfl⟩ rfl (Nat.le_of_ble_eq_true rfl) (Nat.le_of_ble_eq_true rfl) rfl ?_
  have h := Option.some.inj h
  subst h
  exact zR_iret (x := q1) dX12_count_101 rfl rfl
set_option maxRecDepth 100000 in
set_option maxHeartbeats 4000000 in
theorem mX12_count {w : zW} (F : Nat) (V0 V1 V2 V3 V4 V5 V6 V7 : zV) (x1 : Int32) (res : Int32) (h : fX12_count F V7 x1 = some res) : zMet w kX12_count 1 0 0 [.ref (w.1 + 88), .int x1] (zE zds w [V0, V1, V2, V3, V4, V5, V6, V7]) (some (.int res)) (zE zds w [V0, V1, V2, V3, V4, V5, V6, V7]) := by
  refine zMet_of (by decide) (Nat.le_of_ble_eq_true rfl) (Nat.le_refl 0) fun _ => ?_
  show zR w kX12_count 1 0 0 (some (.int res)) (zE zds w [V0, V1, V2, V3, V4, V5, V6, V7]) 0 [(0, .ref (w.1 + 88)), (1, .int x1)] [] (zE zds w [V0, V1, V2, V3, V4, V5, V6, V7])
  unfold fX12_count at h
  refine zR_iload_n dX12_count_0 1 rfl ?_
  refine zR_bipush (x := (15 : Int32)) dX12_count_1 rfl ?_
  by_cases c3 : x1 = (15 : Int32)
  · have h := zif_t h c3
    refine zR_icmp_ne_f (tgt := 11) dX12_count_3 (by decide) c3 ?_
    refine zR_aload_n dX12_count_6 0 rfl ?_
    refine zG_getI dX12_count_7 zf_X12_223 zd_88 rfl rfl ?_
    have h := Option.some.inj h
    subst h
    exact zR_iret (x := (zI V7 0 2)) dX12_count_10 rfl rfl
  · have h := zif_f h c3
    refine zR_icmp_ne_t (tgt := 11) dX12_count_3 (by decide) c3 ?_
    refine zR_iload_n dX12_count_11 1 rfl ?_
    by_cases c4 : x1 < 0
    · have h := zif_t h c4
      refine zR_if_lt_t (tgt := 21) dX12_count_12 (by decide) c4 ?_
      refine zR_iconst (x := (-1 : Int32)) dX12_count_21 (by decide) ?_
      have h := Option.some.inj h
      subst h
      exact zR_iret (x := (-1 : Int32)) dX12_count_22 rfl rfl
    · have h := zif_f h c4
      refine zR_if_lt_f (tgt := 21) dX12_count_12 (by decide) c4 ?_
      refine zR_iload_n dX12_count_15 1 rfl ?_
      refine zR_bipush (x := (15 : Int32)) dX12_count_16 rfl ?_
      by_cases c5 : x1 ≤ (15 : Int32)
      · have h := zif_t h c5
        refine zR_icmp_le_t (tgt := 23) dX12_count_18 (by decide) c5 ?_
        refine zR_iload_n dX12_count_23 1 rfl ?_
        refine zR_bipush (x := (7 : Int32)) dX12_count_24 rfl ?_
        by_cases c6 : (7 : Int32) ≤ x1
        · have h := zif_t h c6
          refine zR_icmp_ge_t (tgt := 102) dX12_count_26 (by decide) c6 ?_
          refine zR_aload_n dX12_count_102 0 rfl ?_
          refine zG_getI dX12_count_103 zf_X12_333 zd_88 rfl rfl ?_
          by_cases c7 : (zI V7 0 64) = 0
          · have h := zif_t h c7
            refine zR_if_ne_f (tgt := 111) dX12_count_106 (by decide) c7 ?_
            refine zR_iconst (x := (0 : Int32)) dX12_count_109 rfl ?_
            have h := Option.some.inj h
            subst h
            exact zR_iret (x := (0 : Int32)) dX12_count_110 rfl rfl
          · have h := zif_f h c7
            refine zR_if_ne_t (tgt := 111) dX12_count_106 (by decide) c7 ?_
            refine zR_iload_n dX12_count_111 1 rfl ?_
            by_cases c8 : x1 = (7 : Int32)
            · have h := zif_t h c8
              refine zR_tabc (tgt := 156) dX12_count_112 c8 rfl (by decide) ?_
              refine zR_aload_n dX12_count_156 0 rfl ?_
              refine zG_getI dX12_count_157 zf_X12_392 zd_88 rfl rfl ?_
              have h := Option.some.inj h
              subst h
              exact zR_iret (x := (zI V7 0 66)) dX12_count_160 rfl rfl
            · have h := zif_f h c8
              by_cases c9 : x1 = (8 : Int32)
              · have h := zif_t h c9
                refine zR_tabc (tgt := 161) dX12_count_112 c9 rfl (by decide) ?_
                refine zR_aload_n dX12_count_161 0 rfl ?_
                refine zG_getI dX12_count_162 zf_X12_382 zd_88 rfl rfl ?_
                have h := Option.some.inj h
                subst h
                exact zR_iret (x := (zI V7 0 67)) dX12_count_165 rfl rfl
              · have h := zif_f h c9
                by_cases c10 : x1 = (9 : Int32)
                · have h := zif_t h c10
                  refine zR_tabc (tgt := 166) dX12_count_112 c10 rfl (by decide) ?_
                  refine zR_aload_n dX12_count_166 0 rfl ?_
                  refine zG_getI dX12_count_167 zf_X12_395 zd_88 rfl rfl ?_
                  have h := Option.some.inj h
                  subst h
                  exact zR_iret (x := (zI V7 0 68)) dX12_count_170 rfl rfl
                · have h := zif_f h c10
                  by_cases c11 : x1 = (10 : Int32)
                  · have h := zif_t h c11
                    refine zR_tabc (tgt := 171) dX12_count_112 c11 rfl (by decide) ?_
                    refine zR_aload_n dX12_count_171 0 rfl ?_
                    refine zG_getI dX12_count_172 zf_X12_376 zd_88 rfl rfl ?_
                    have h := Option.some.inj h
                    subst h
                    exact zR_iret (x := (zI V7 0 59)) dX12_count_175 rfl rfl
                  · have h := zif_f h c11
                    by_cases c12 : x1 = (11 : Int32)
                    · have h := zif_t h c12
                      refine zR_tabc (tgt := 176) dX12_count_112 c12 rfl (by decide) ?_
                      refine zR_aload_n dX12_count_176 0 rfl ?_
                      refine zG_getI dX12_count_177 zf_X12_385 zd_88 rfl rfl ?_
                      have h := Option.some.inj h
                      subst h
                      exact zR_iret (x := (zI V7 0 69)) dX12_count_180 rfl rfl
                    · have h := zif_f h c12
                      by_cases c13 : x1 = (12 : Int32)
                      · have h := zif_t h c13
                        refine zR_tabc (tgt := 181) dX12_count_112 c13 rfl (by decide) ?_
                        refine zR_aload_n dX12_count_181 0 rfl ?_
                        refine zG_getI dX12_count_182 zf_X12_398 zd_88 rfl rfl ?_
                        by_cases c14 : (zI V7 0 70) = 0
                        · have h := zif_t h c14
                          refine zR_if_eq_t (tgt := 192) dX12_count_185 (by decide) c14 ?_
                          refine zR_iconst (x := (0 : Int32)) dX12_count_192 rfl ?_
                          have h := Option.some.inj h
                          subst h
                          exact zR_iret (x := (0 : Int32)) dX12_count_193 rfl rfl
                        · have h := zif_f h c14
                          refine zR_if_eq_f (tgt := 192) dX12_count_185 (by decide) c14 ?_
                          refine zR_iconst (x := (1 : Int32)) dX12_count_188 rfl ?_
                          refine zR_goto (tgt := 193) dX12_count_189 (by decide) ?_
                          have h := Option.some.inj h
                          subst h
                          exact zR_iret (x := (1 : Int32)) dX12_count_193 rfl rfl
                      · have h := zif_f h c13
                        by_cases c15 : x1 = (13 : Int32)
                        · have h := zif_t h c15
                          refine zR_tabc (tgt := 194) dX12_count_112 c15 rfl (by decide) ?_
                          refine zR_aload_n dX12_count_194 0 rfl ?_
                          refine zG_getI dX12_count_195 zf_X12_401 zd_88 rfl rfl ?_
                          by_cases c16 : (zI V7 0 71) = 0
                          · have h := zif_t h c16
                            refine zR_if_eq_t (tgt := 205) dX12_count_198 (by decide) c16 ?_
                            refine zR_iconst (x := (0 : Int32)) dX12_count_205 rfl ?_
                            have h := Option.some.inj h
                            subst h
                            exact zR_iret (x := (0 : Int32)) dX12_count_206 rfl rfl
                          · have h := zif_f h c16
                            refine zR_if_eq_f (tgt := 205) dX12_count_198 (by decide) c16 ?_
                            refine zR_iconst (x := (1 : Int32)) dX12_count_201 rfl ?_
                            refine zR_goto (tgt := 206) dX12_count_202 (by decide) ?_
                            have h := Option.some.inj h
                            subst h
                            exact zR_iret (x := (1 : Int32)) dX12_count_206 rfl rfl
                        · have h := zif_f h c15
                          refine zR_tabO (tgt := 207) dX12_count_112 (by have u7 := zne c8 (n := 7) rfl; have u8 := zne c9 (n := 8) rfl; have u9 := zne c10 (n := 9) rfl; have u10 := zne c11 (n := 10) rfl; have u11 := zne c12 (n := 11) rfl; have u12 := zne c13 (n := 12) rfl; have u13 := zne c15 (n := 13) rfl; omega) (by decide) ?_
                          refine zR_aload_n dX12_count_207 0 rfl ?_
                          refine zG_getI dX12_count_208 zf_X12_404 zd_88 rfl rfl ?_
                          have h := Option.some.inj h
                          subst h
                          exact zR_iret (x := (zI V7 0 72)) dX12_count_211 rfl rfl
        · have h := zif_f h c6
          refine zR_icmp_ge_f (tgt := 102) dX12_count_26 (by decide) c6 ?_
          refine zR_aload_n dX12_count_29 0 rfl ?_
          refine zG_getI dX12_count_30 zf_X12_329 zd_88 rfl rfl ?_
          by_cases c17 : (zI V7 0 20) = 0
          · have h := zif_t h c17
            refine zR_if_ne_f (tgt := 38) dX12_count_33 (by decide) c17 ?_
            refine zR_iconst (x := (0 : Int32)) dX12_count_36 rfl ?_
            have h := Option.some.inj h
            subst h
            exact zR_iret (x := (0 : Int32)) dX12_count_37 rfl rfl
          · have h := zif_f h c17
            refine zR_if_ne_t (tgt := 38) dX12_count_33 (by decide) c17 ?_
            refine zR_iload_n dX12_count_38 1 rfl ?_
            by_cases c18 : x1 = 0
            · have h := zif_t h c18
              refine zR_if_ne_f (tgt := 46) dX12_count_39 (by decide) c18 ?_
              refine zR_iconst (x := (0 : Int32)) dX12_count_42 rfl ?_
              refine zR_goto (tgt := 95) dX12_count_43 (by decide) ?_
              refine zR_sub (lv' := [(0, .ref (w.1 + 88))]) [0] rfl ?_
              exact wX12_count_b95 F V0 V1 V2 V3 V4 V5 V6 V7 (0 : Int32) _ h
            · have h := zif_f h c18
              refine zR_if_ne_t (tgt := 46) dX12_count_39 (by decide) c18 ?_
              refine zR_iload_n dX12_count_46 1 rfl ?_
              refine zR_iconst (x := (1 : Int32)) dX12_count_47 rfl ?_
              by_cases c19 : x1 = (1 : Int32)
              · have h := zif_t h c19
                refine zR_icmp_ne_f (tgt := 55) dX12_count_48 (by decide) c19 ?_
                refine zR_iconst (x := (1 : Int32)) dX12_count_51 rfl ?_
                refine zR_goto (tgt := 95) dX12_count_52 (by decide) ?_
                refine zR_sub (lv' := [(0, .ref (w.1 + 88))]) [0] rfl ?_
                exact wX12_count_b95 F V0 V1 V2 V3 V4 V5 V6 V7 (1 : Int32) _ h
              · have h := zif_f h c19
                refine zR_icmp_ne_t (tgt := 55) dX12_count_48 (by decide) c19 ?_
                refine zR_iload_n dX12_count_55 1 rfl ?_
                refine zR_iconst (x := (2 : Int32)) dX12_count_56 rfl ?_
                by_cases c20 : x1 = (2 : Int32)
                · have h := zif_t h c20
                  refine zR_icmp_ne_f (tgt := 64) dX12_count_57 (by decide) c20 ?_
                  refine zR_iconst (x := (3 : Int32)) dX12_count_60 rfl ?_
                  refine zR_goto (tgt := 95) dX12_count_61 (by decide) ?_
                  refine zR_sub (lv' := [(0, .ref (w.1 + 88))]) [0] rfl ?_
                  exact wX12_count_b95 F V0 V1 V2 V3 V4 V5 V6 V7 (3 : Int32) _ h
                · have h := zif_f h c20
                  refine zR_icmp_ne_t (tgt := 64) dX12_count_57 (by decide) c20 ?_
                  refine zR_iload_n dX12_count_64 1 rfl ?_
                  refine zR_iconst (x := (3 : Int32)) dX12_count_65 rfl ?_
                  by_cases c21 : x1 = (3 : Int32)
                  · have h := zif_t h c21
                    refine zR_icmp_ne_f (tgt := 73) dX12_count_66 (by decide) c21 ?_
                    refine zR_iconst (x := (4 : Int32)) dX12_count_69 rfl ?_
                    refine zR_goto (tgt := 95) dX12_count_70 (by decide) ?_
                    refine zR_sub (lv' := [(0, .ref (w.1 + 88))]) [0] rfl ?_
                    exact wX12_count_b95 F V0 V1 V2 V3 V4 V5 V6 V7 (4 : Int32) _ h
                  · have h := zif_f h c21
                    refine zR_icmp_ne_t (tgt := 73) dX12_count_66 (by decide) c21 ?_
                    refine zR_iload_n dX12_count_73 1 rfl ?_
                    refine zR_iconst (x := (4 : Int32)) dX12_count_74 rfl ?_
                    by_cases c22 : x1 = (4 : Int32)
                    · have h := zif_t h c22
                      refine zR_icmp_ne_f (tgt := 83) dX12_count_75 (by decide) c22 ?_
                      refine zR_bipush (x := (6 : Int32)) dX12_count_78 rfl ?_
                      refine zR_goto (tgt := 95) dX12_count_80 (by decide) ?_
                      refine zR_sub (lv' := [(0, .ref (w.1 + 88))]) [0] rfl ?_
                      exact wX12_count_b95 F V0 V1 V2 V3 V4 V5 V6 V7 (6 : Int32) _ h
                    · have h := zif_f h c22
                      refine zR_icmp_ne_t (tgt := 83) dX12_count_75 (by decide) c22 ?_
                      refine zR_iload_n dX12_count_83 1 rfl ?_
                      refine zR_iconst (x := (5 : Int32)) dX12_count_84 rfl ?_
                      by_cases c23 : x1 = (5 : Int32)
                      · have h := zif_t h c23
                        refine zR_icmp_ne_f (tgt := 93) dX12_count_85 (by decide) c23 ?_
                        refine zR_bipush (x := (7 : Int32)) dX12_count_88 rfl ?_
                        refine zR_goto (tgt := 95) dX12_count_90 (by decide) ?_
                        refine zR_sub (lv' := [(0, .ref (w.1 + 88))]) [0] rfl ?_
                        exact wX12_count_b95 F V0 V1 V2 V3 V4 V5 V6 V7 (7 : Int32) _ h
                      · have h := zif_f h c23
                        refine zR_icmp_ne_t (tgt := 93) dX12_count_85 (by decide) c23 ?_
                        refine zR_bipush (x := (8 : Int32)) dX12_count_93 rfl ?_
                        refine zR_sub (lv' := [(0, .ref (w.1 + 88))]) [0] rfl ?_
                        exact wX12_count_b95 F V0 V1 V2 V3 V4 V5 V6 V7 (8 : Int32) _ h
      · have h := zif_f h c5
        refine zR_icmp_le_f (tgt := 23) dX12_count_18 (by decide) c5 ?_
        refine zR_iconst (x := (-1 : Int32)) dX12_count_21 (by decide) ?_
        have h := Option.some.inj h
        subst h
        exact zR_iret (x := (-1 : Int32)) dX12_count_22 rfl rfl
set_option maxRecDepth 100000 in
set_option maxHeartbeats 4000000 in
theorem mX12_word {w : zW} (F : Nat) (S : zS) (x0 : Int32) (x1 : Int32) (x2 : Int32) (x3 : Int32) (x4 : Int32) (x5 : Int32) (res : Int64) (h : fX12_word F x0 x1 x2 x3 x4 x5 = some res) : zMet w kX12_word 2 0 0 [.int x0, .int x1, .int x2, .int x3, .int x4, .int x5] S (some (.long res)) S := by
  refine zMet_of (by decide) (Nat.le_of_ble_eq_true rfl) (Nat.le_refl 0) fun _ => ?_
  show zR w kX12_word 2 0 0 (some (.long res)) S 0 [(0, .int x0), (1, .int x1), (2, .int x2), (3, .int x3), (4, .int x4), (5, .int x5)] [] S
  unfold fX12_word at h
  refine zR_lconst (x := (0 : Int64)) dX12_word_0 rfl ?_
  refine zR_iload_n dX12_word_1 0 rfl ?_
  obtain ⟨q1, hq2, h⟩ := zbd_some h
  refine zR_cS (rest := []) (st1 := [.long q1]) dX12_word_2 (mX12_more F S (0 : Int64) x0 _ hq2) zc_X12_239 rfl rfl (Nat.le_of_ble_eq_true rfl) (Nat.le_of_ble_eq_true rfl) rfl ?_
  refine zR_iload_n dX12_word_5 1 rfl ?_
  obtain ⟨q3, hq4, h⟩ := zbd_some h
  refine zR_cS (rest := []) (st1 := [.long q3]) dX12_word_6 (mX12_more F S q1 x1 _ hq4) zc_X12_239 rfl rfl (Nat.le_of_ble_eq_true rfl) (Nat.le_of_ble_eq_true rfl) rfl ?_
  refine zR_iload_n dX12_word_9 2 rfl ?_
  obtain ⟨q5, hq6, h⟩ := zbd_some h
  refine zR_cS (rest := []) (st1 := [.long q5]) dX12_word_10 (mX12_more F S q3 x2 _ hq6) zc_X12_239 rfl rfl (Nat.le_of_ble_eq_true rfl) (Nat.le_of_ble_eq_true rfl) rfl ?_
  refine zR_iload_n dX12_word_13 3 rfl ?_
  obtain ⟨q7, hq8, h⟩ := zbd_some h
  refine zR_cS (rest := []) (st1 := [.long q7]) dX12_word_14 (mX12_more F S q5 x3 _ hq8) zc_X12_239 rfl rfl (Nat.le_of_ble_eq_true rfl) (Nat.le_of_ble_eq_true rfl) rfl ?_
  refine zR_iload dX12_word_17 4 rfl ?_
  obtain ⟨q9, hq10, h⟩ := zbd_some h
  refine zR_cS (rest := []) (st1 := [.long q9]) dX12_word_19 (mX12_more F S q7 x4 _ hq10) zc_X12_239 rfl rfl (Nat.le_of_ble_eq_true rfl) (Nat.le_of_ble_eq_true rfl) rfl ?_
  refine zR_iload dX12_word_22 5 rfl ?_
  obtain ⟨q11, hq12, h⟩ := zbd_some h
  refine zR_cS (rest := []) (st1 := [.long q11]) dX12_word_24 (mX12_more F S q9 x5 _ hq12) zc_X12_239 rfl rfl (Nat.le_of_ble_eq_true rfl) (Nat.le_of_ble_eq_true rfl) rfl ?_
  have h := Option.some.inj h
  subst h
  exact zR_lret dX12_word_27 rfl
