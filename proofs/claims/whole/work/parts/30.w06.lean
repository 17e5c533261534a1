set_option maxRecDepth 100000 in
set_option maxHeartbeats 4000000 in
theorem mX12_place {w : zW} (F : Nat) (V0 V1 V2 V3 V4 V5 V6 V7 : zV) (res : Int32) (h : fX12_place F V7 = some res) : zMet w kX12_place 0 0 0 [.ref (w.1 + 88)] (zE zds w [V0, V1, V2, V3, V4, V5, V6, V7]) (some (.int res)) (zE zds w [V0, V1, V2, V3, V4, V5, V6, V7]) := by
  refine zMet_of (by decide) (Nat.le_of_ble_eq_true rfl) (Nat.le_refl 0) fun _ => ?_
  show zR w kX12_place 0 0 0 (some (.int res)) (zE zds w [V0, V1, V2, V3, V4, V5, V6, V7]) 0 [(0, .ref (w.1 + 88))] [] (zE zds w [V0, V1, V2, V3, V4, V5, V6, V7])
  unfold fX12_place at h
  refine zR_aload_n dX12_place_0 0 rfl ?_
  refine zG_getI dX12_place_1 zf_X12_37 zd_88 rfl rfl ?_
  have h := Option.some.inj h
  subst h
  exact zR_iret (x := (zI V7 0 17)) dX12_place_4 rfl rfl
set_option maxRecDepth 100000 in
set_option maxHeartbeats 4000000 in
theorem mX12_sort {w : zW} (F : Nat) (V0 V1 V2 V3 V4 V5 V6 V7 : zV) (x1 : Int32) (res : Int32) (h : fX12_sort F V7 x1 = some res) : zMet w kX12_sort 0 0 0 [.ref (w.1 + 88), .int x1] (zE zds w [V0, V1, V2, V3, V4, V5, V6, V7]) (some (.int res)) (zE zds w [V0, V1, V2, V3, V4, V5, V6, V7]) := by
  refine zMet_of (by decide) (Nat.le_of_ble_eq_true rfl) (Nat.le_refl 0) fun _ => ?_
  show zR w kX12_sort 0 0 0 (some (.int res)) (zE zds w [V0, V1, V2, V3, V4, V5, V6, V7]) 0 [(0, .ref (w.1 + 88)), (1, .int x1)] [] (zE zds w [V0, V1, V2, V3, V4, V5, V6, V7])
  unfold fX12_sort at h
  refine zR_aload_n dX12_sort_0 0 rfl ?_
  refine zG_getR dX12_sort_1 zf_X12_40 zd_88 rfl rfl ?_
  refine zR_bipush (x := (9 : Int32)) dX12_sort_4 rfl ?_
  refine zR_aload_n dX12_sort_6 0 rfl ?_
  refine zG_getI dX12_sort_7 zf_X12_308 zd_88 rfl rfl ?_
  refine zR_imul dX12_sort_10 ?_
  refine zR_iload_n dX12_sort_11 1 rfl ?_
  refine zR_iadd dX12_sort_12 ?_
  obtain ⟨g1, h⟩ := zchk_some h
  refine zG_iald dX12_sort_13 zd_96 rfl rfl g1 ?_
  have h := Option.some.inj h
  subst h
  exact zR_iret (x := (zA V7 8 ((((9 : Int32) * (zI V7 0 18)) + x1)).toNatClampNeg)) dX12_sort_14 rfl rfl
set_option maxRecDepth 100000 in
set_option maxHeartbeats 4000000 in
theorem wX12_orders_b78 {w : zW} (F : Nat) (k9 : zV → Int32 → Int32 → Option (zV)) (hk9 : ∀ (V0 V1 V2 V3 V4 V5 V6 V7 : zV) (x1 : Int32) (x2 : Int32) (res : zV), k9 V7 x1 x2 = some res → zR w kX12_orders 1 0 0 none (zE zds w [V0, V1, V2, V3, V4, V5, V6, res]) 9 [(0, .ref (w.1 + 88)), (1, .int x1), (2, .int x2)] [] (zE zds w [V0, V1, V2, V3, V4, V5, V6, V7])) (V0 V1 V2 V3 V4 V5 V6 V7 : zV) (x1 : Int32) (x2 : Int32) (x3 : Int32) (res : zV) (h : fX12_orders_b78 F k9 V7 x1 x2 x3 = some res) : zR w kX12_orders 1 0 0 none (zE zds w [V0, V1, V2, V3, V4, V5, V6, res]) 78 [(0, .ref (w.1 + 88)), (1, .int x1), (2, .int x2), (3, .int x3)] [] (zE zds w [V0, V1, V2, V3, V4, V5, V6, V7]) := by
  unfold fX12_orders_b78 at h
  refine zR_aload_n dX12_orders_78 0 rfl ?_
  refine zG_getR dX12_orders_79 zf_X12_186 zd_88 rfl rfl ?_
  refine zR_iload_n dX12_orders_82 3 rfl ?_
  refine zR_iload_n dX12_orders_83 2 rfl ?_
  obtain ⟨g1, h⟩ := zchk_some h
  obtain ⟨V7_2, e3, h⟩ := zlet_some h
  refine zG_iast zds_ok dX12_orders_84 zd_144 rfl rfl g1 e3 rfl ?_
  refine zR_iinc (u := (x2 + 1)) (lv' := [(0, .ref (w.1 + 88)), (1, .int x1), (2, .int (x2 + 1)), (3, .int x3)]) dX12_orders_85 2 rfl rfl (Nat.le_of_ble_eq_true rfl) rfl ?_
  refine zR_goto (tgt := 9) dX12_orders_88 (by decide) ?_
  refine zR_sub (lv' := [(0, .ref (w.1 + 88)), (1, .int x1), (2, .int (x2 + 1))]) [0, 1, 2] rfl ?_
  exact hk9 V0 V1 V2 V3 V4 V5 V6 V7_2 x1 (x2 + 1) _ h
set_option maxRecDepth 100000 in
set_option maxHeartbeats 4000000 in
theorem wX12_orders_l16 {w : zW} (F : Nat) (k9 : zV → Int32 → Int32 → Option (zV)) (hk9 : ∀ (V0 V1 V2 V3 V4 V5 V6 V7 : zV) (x1 : Int32) (x2 : Int32) (res : zV), k9 V7 x1 x2 = some res → zR w kX12_orders 1 0 0 none (zE zds w [V0, V1, V2, V3, V4, V5, V6, res]) 9 [(0, .ref (w.1 + 88)), (1, .int x1), (2, .int x2)] [] (zE zds w [V0, V1, V2, V3, V4, V5, V6, V7])) : ∀ (n : Nat) (V0 V1 V2 V3 V4 V5 V6 V7 : zV) (x1 : Int32) (x2 : Int32) (x3 : Int32) (res : zV), fX12_orders_l16 F k9 n V7 x1 x2 x3 = some res → zR w kX12_orders 1 0 0 none (zE zds w [V0, V1, V2, V3, V4, V5, V6, res]) 16 [(0, .ref (w.1 + 88)), (1, .int x1), (2, .int x2), (3, .int x3)] [] (zE zds w [V0, V1, V2, V3, V4, V5, V6, V7]) := by
  intro n
  induction n with
  | zero =>
    intro V0 V1 V2 V3 V4 V5 V6 V7 x1 x2 x3 res h
    simp [fX12_orders_l16] at h
  | succ n ih =>
    intro V0 V1 V2 V3 V4 V5 V6 V7 x1 x2 x3 res h
    rw [fX12_orders_l16] at h
    refine zR_iload_n dX12_orders_16 3 rfl ?_
    by_cases c4 : x3 ≤ 0
    · have h := zif_t h c4
      refine zR_if_le_t (tgt := 78) dX12_orders_17 (by decide) c4 ?_
      exact wX12_orders_b78 F k9 hk9 V0 V1 V2 V3 V4 V5 V6 V7 x1 x2 x3 _ h
    · have h := zif_f h c4
      refine zR_if_le_f (tgt := 78) dX12_orders_17 (by decide) c4 ?_
      refine zR_aload_n dX12_orders_20 0 rfl ?_
      refine zG_getR dX12_orders_21 zf_X12_79 zd_88 rfl rfl ?_
      refine zR_bipush (x := (12 : Int32)) dX12_orders_24 rfl ?_
      refine zR_aload_n dX12_orders_26 0 rfl ?_
      refine zG_getI dX12_orders_27 zf_X12_308 zd_88 rfl rfl ?_
      refine zR_imul dX12_orders_30 ?_
      refine zR_aload_n dX12_orders_31 0 rfl ?_
      refine zG_getR dX12_orders_32 zf_X12_186 zd_88 rfl rfl ?_
      refine zR_iload_n dX12_orders_35 3 rfl ?_
      refine zR_iconst (x := (1 : Int32)) dX12_orders_36 rfl ?_
      refine zR_isub dX12_orders_37 ?_
      obtain ⟨g5, h⟩ := zchk_some h
      refine zG_iald dX12_orders_38 zd_144 rfl rfl g5 ?_
      refine zR_iadd dX12_orders_39 ?_
      obtain ⟨g6, h⟩ := zchk_some h
      refine zG_iald dX12_orders_40 zd_109 rfl rfl g6 ?_
      refine zR_aload_n dX12_orders_41 0 rfl ?_
      refine zG_getR dX12_orders_42 zf_X12_79 zd_88 rfl rfl ?_
      refine zR_bipush (x := (12 : Int32)) dX12_orders_45 rfl ?_
      refine zR_aload_n dX12_orders_47 0 rfl ?_
      refine zG_getI dX12_orders_48 zf_X12_308 zd_88 rfl rfl ?_
      refine zR_imul dX12_orders_51 ?_
      refine zR_iload_n dX12_orders_52 2 rfl ?_
      refine zR_iadd dX12_orders_53 ?_
      obtain ⟨g7, h⟩ := zchk_some h
      refine zG_iald dX12_orders_54 zd_109 rfl rfl g7 ?_
      by_cases c8 : (zA V7 21 ((((12 : Int32) * (zI V7 0 18)) + x2)).toNatClampNeg) ≤ (zA V7 21 ((((12 : Int32) * (zI V7 0 18)) + (zA V7 56 ((x3 - (1 : Int32))).toNatClampNeg))).toNatClampNeg)
      · have h := zif_t h c8
        refine zR_icmp_ge_t (tgt := 78) dX12_orders_55 (by decide) c8 ?_
        exact wX12_orders_b78 F k9 hk9 V0 V1 V2 V3 V4 V5 V6 V7 x1 x2 x3 _ h
      · have h := zif_f h c8
        refine zR_icmp_ge_f (tgt := 78) dX12_orders_55 (by decide) c8 ?_
        refine zR_aload_n dX12_orders_58 0 rfl ?_
        refine zG_getR dX12_orders_59 zf_X12_186 zd_88 rfl rfl ?_
        refine zR_iload_n dX12_orders_62 3 rfl ?_
        refine zR_aload_n dX12_orders_63 0 rfl ?_
        refine zG_getR dX12_orders_64 zf_X12_186 zd_88 rfl rfl ?_
        refine zR_iload_n dX12_orders_67 3 rfl ?_
        refine zR_iconst (x := (1 : Int32)) dX12_orders_68 rfl ?_
        refine zR_isub dX12_orders_69 ?_
        obtain ⟨g9, h⟩ := zchk_some h
        refine zG_iald dX12_orders_70 zd_144 rfl rfl g9 ?_
        obtain ⟨g10, h⟩ := zchk_some h
        obtain ⟨V7_11, e12, h⟩ := zlet_some h
        refine zG_iast zds_ok dX12_orders_71 zd_144 rfl rfl g10 e12 rfl ?_
        refine zR_iinc (u := (x3 + (-1))) (lv' := [(0, .ref (w.1 + 88)), (1, .int x1), (2, .int x2), (3, .int (x3 + (-1)))]) dX12_orders_72 3 rfl (by rw [show Int32.ofInt (-1) = (-1 : Int32) from by decide]) (Nat.le_of_ble_eq_true rfl) rfl ?_
        refine zR_goto (tgt := 16) dX12_orders_75 (by decide) ?_
        exact ih V0 V1 V2 V3 V4 V5 V6 V7_11 x1 x2 (x3 + (-1)) _ h
set_option maxRecDepth 100000 in
set_option maxHeartbeats 4000000 in
theorem wX12_orders_l9 {w : zW} (F : Nat) : ∀ (n : Nat) (V0 V1 V2 V3 V4 V5 V6 V7 : zV) (x1 : Int32) (x2 : Int32) (res : zV), fX12_orders_l9 F n V7 x1 x2 = some res → zR w kX12_orders 1 0 0 none (zE zds w [V0, V1, V2, V3, V4, V5, V6, res]) 9 [(0, .ref (w.1 + 88)), (1, .int x1), (2, .int x2)] [] (zE zds w [V0, V1, V2, V3, V4, V5, V6, V7]) := by
  intro n
  induction n with
  | zero =>
    intro V0 V1 V2 V3 V4 V5 V6 V7 x1 x2 res h
    simp [fX12_orders_l9] at h
  | succ n ih =>
    intro V0 V1 V2 V3 V4 V5 V6 V7 x1 x2 res h
    rw [fX12_orders_l9] at h
    refine zR_iload_n dX12_orders_9 2 rfl ?_
    refine zR_iload_n dX12_orders_10 1 rfl ?_
    by_cases c13 : x1 ≤ x2
    · have h := zif_t h c13
      refine zR_icmp_ge_t (tgt := 91) dX12_orders_11 (by decide) c13 ?_
      have h := Option.some.inj h
      subst h
      exact zR_ret dX12_orders_91 rfl
    · have h := zif_f h c13
      refine zR_icmp_ge_f (tgt := 91) dX12_orders_11 (by decide) c13 ?_
      refine zR_iload_n dX12_orders_14 2 rfl ?_
      refine zR_istore_n (lv' := [(0, .ref (w.1 + 88)), (1, .int x1), (2, .int x2), (3, .int x2)]) dX12_orders_15 (Nat.le_of_ble_eq_true rfl) rfl ?_
      exact wX12_orders_l16 F (fX12_orders_l9 F n) ih F V0 V1 V2 V3 V4 V5 V6 V7 x1 x2 x2 _ h
set_option maxRecDepth 100000 in
set_option maxHeartbeats 4000000 in
theorem mX12_orders {w : zW} (F : Nat) (V0 V1 V2 V3 V4 V5 V6 V7 : zV) (res : zV) (h : fX12_orders F V7 = some res) : zMet w kX12_orders 1 0 0 [.ref (w.1 + 88)] (zE zds w [V0, V1, V2, V3, V4, V5, V6, V7]) none (zE zds w [V0, V1, V2, V3, V4, V5, V6, res]) := by
  refine zMet_of (by decide) (Nat.le_of_ble_eq_true rfl) (Nat.le_refl 0) fun _ => ?_
  show zR w kX12_orders 1 0 0 none (zE zds w [V0, V1, V2, V3, V4, V5, V6, res]) 0 [(0, .ref (w.1 + 88))] [] (zE zds w [V0, V1, V2, V3, V4, V5, V6, V7])
  unfold fX12_orders at h
  refine zR_aload_n dX12_orders_0 0 rfl ?_
  refine zR_bipush (x := (7 : Int32)) dX12_orders_1 rfl ?_
  obtain ⟨q14, hq15, h⟩ := zbd_some h
  refine zR_cV (rest := []) (st1 := [.int q14]) dX12_orders_3 (mX12_sort F V0 V1 V2 V3 V4 V5 V6 V7 (7 : Int32) _ hq15) zc_X12_370 rfl (zE_at zd_88) ⟨_, _, rfl⟩ rfl (Nat.le_of_ble_eq_true rfl) (Nat.le_of_ble_eq_true rfl) rfl ?_
  refine zR_istore_n (lv' := [(0, .ref (w.1 + 88)), (1, .int q14)]) dX12_orders_6 (Nat.le_of_ble_eq_true rfl) rfl ?_
  refine zR_iconst (x := (0 : Int32)) dX12_orders_7 rfl ?_
  refine zR_istore_n (lv' := [(0, .ref (w.1 + 88)), (1, .int q14), (2, .int (0 : Int32))]) dX12_orders_8 (Nat.le_of_ble_eq_true rfl) rfl ?_
  exact wX12_orders_l9 F F V0 V1 V2 V3 V4 V5 V6 V7 q14 (0 : Int32) _ h
set_option maxRecDepth 100000 in
set_option maxHeartbeats 4000000 in
theorem mX12_comes {w : zW} (F : Nat) (V0 V1 V2 V3 V4 V5 V6 V7 : zV) (x1 : Int32) (res : zV) (h : fX12_comes F V7 x1 = some res) : zMet w kX12_comes 0 0 0 [.ref (w.1 + 88), .int x1] (zE zds w [V0, V1, V2, V3, V4, V5, V6, V7]) none (zE zds w [V0, V1, V2, V3, V4, V5, V6, res]) := by
  refine zMet_of (by decide) (Nat.le_of_ble_eq_true rfl) (Nat.le_refl 0) fun _ => ?_
  show zR w kX12_comes 0 0 0 none (zE zds w [V0, V1, V2, V3, V4, V5, V6, res]) 0 [(0, .ref (w.1 + 88)), (1, .int x1)] [] (zE zds w [V0, V1, V2, V3, V4, V5, V6, V7])
  unfold fX12_comes at h
  refine zR_aload_n dX12_comes_0 0 rfl ?_
  refine zG_getR dX12_comes_1 zf_X12_143 zd_88 rfl rfl ?_
  refine zR_iload_n dX12_comes_4 1 rfl ?_
  obtain ⟨g1, h⟩ := zchk_some h
  refine zG_zald dX12_comes_5 zd_130 rfl rfl g1 ?_
  by_cases c2 : (zA V7 42 (x1).toNatClampNeg) = 0
  · have h := zif_t h c2
    refine zR_if_eq_t (tgt := 10) dX12_comes_6 (by decide) c2 ?_
    refine zR_aload_n dX12_comes_10 0 rfl ?_
    refine zG_getR dX12_comes_11 zf_X12_143 zd_88 rfl rfl ?_
    refine zR_iload_n dX12_comes_14 1 rfl ?_
    refine zR_iconst (x := (1 : Int32)) dX12_comes_15 rfl ?_
    obtain ⟨g3, h⟩ := zchk_some h
    obtain ⟨V7_4, e5, h⟩ := zlet_some h
    refine zG_zast zds_ok dX12_comes_16 zd_130 rfl rfl g3 e5 rfl ?_
    refine zR_aload_n dX12_comes_17 0 rfl ?_
    refine zG_getR dX12_comes_18 zf_X12_139 zd_88 rfl rfl ?_
    refine zR_aload_n dX12_comes_21 0 rfl ?_
    refine zG_getI dX12_comes_22 zf_X12_367 zd_88 rfl rfl ?_
    refine zR_iload_n dX12_comes_25 1 rfl ?_
    obtain ⟨g6, h⟩ := zchk_some h
    obtain ⟨V7_7, e8, h⟩ := zlet_some h
    refine zG_iast zds_ok dX12_comes_26 zd_129 rfl rfl g6 e8 rfl ?_
    refine zR_aload_n dX12_comes_27 0 rfl ?_
    refine zR_dup dX12_comes_28 rfl ?_
    refine zG_getI dX12_comes_29 zf_X12_367 zd_88 rfl rfl ?_
    refine zR_iconst (x := (1 : Int32)) dX12_comes_32 rfl ?_
    refine zR_iadd dX12_comes_33 ?_
    obtain ⟨V7_9, e10, h⟩ := zlet_some h
    refine zG_putI zds_ok dX12_comes_34 zf_X12_367 zt_X12_61 zd_88 rfl rfl e10 rfl ?_
    have h := Option.some.inj h
    subst h
    exact zR_ret dX12_comes_37 rfl
  · have h := zif_f h c2
    refine zR_if_eq_f (tgt := 10) dX12_comes_6 (by decide) c2 ?_
    have h := Option.some.inj h
    subst h
    exact zR_ret dX12_comes_9 rfl
set_option maxRecDepth 100000 in
set_option maxHeartbeats 4000000 in
theorem wX12_knows_l116 {w : zW} (F : Nat) : ∀ (n : Nat) (V0 V1 V2 V3 V4 V5 V6 V7 : zV) (x1 : Int32) (res : zV), fX12_knows_l116 F n V7 x1 = some res → zR w kX12_knows 1 0 0 none (zE zds w [V0, V1, V2, V3, V4, V5, V6, res]) 116 [(0, .ref (w.1 + 88)), (1, .int x1)] [] (zE zds w [V0, V1, V2, V3, V4, V5, V6, V7]) := by
  intro n
  induction n with
  | zero =>
    intro V0 V1 V2 V3 V4 V5 V6 V7 x1 res h
    simp [fX12_knows_l116] at h
  | succ n ih =>
    intro V0 V1 V2 V3 V4 V5 V6 V7 x1 res h
    rw [fX12_knows_l116] at h
    refine zR_iload_n dX12_knows_116 1 rfl ?_
    refine zR_aload_n dX12_knows_117 0 rfl ?_
    refine zG_getI dX12_knows_118 zf_X12_367 zd_88 rfl rfl ?_
    by_cases c1 : (zI V7 0 61) ≤ x1
    · have h := zif_t h c1
      refine zR_icmp_ge_t (tgt := 154) dX12_knows_121 (by decide) c1 ?_
      refine zR_aload_n dX12_knows_154 0 rfl ?_
      refine zR_iconst (x := (0 : Int32)) dX12_knows_155 rfl ?_
      obtain ⟨V7_2, e3, h⟩ := zlet_some h
      refine zG_putI zds_ok dX12_knows_156 zf_X12_367 zt_X12_61 zd_88 rfl rfl e3 rfl ?_
      have h := Option.some.inj h
      subst h
      exact zR_ret dX12_knows_159 rfl
    · have h := zif_f h c1
      refine zR_icmp_ge_f (tgt := 154) dX12_knows_121 (by decide) c1 ?_
      refine zR_aload_n dX12_knows_124 0 rfl ?_
      refine zG_getR dX12_knows_125 zf_X12_136 zd_88 rfl rfl ?_
      refine zR_iload_n dX12_knows_128 1 rfl ?_
      refine zR_aload_n dX12_knows_129 0 rfl ?_
      refine zG_getR dX12_knows_130 zf_X12_139 zd_88 rfl rfl ?_
      refine zR_iload_n dX12_knows_133 1 rfl ?_
      obtain ⟨g4, h⟩ := zchk_some h
      refine zG_iald dX12_knows_134 zd_129 rfl rfl g4 ?_
      obtain ⟨g5, h⟩ := zchk_some h
      obtain ⟨V7_6, e7, h⟩ := zlet_some h
      refine zG_iast zds_ok dX12_knows_135 zd_128 rfl rfl g5 e7 rfl ?_
      refine zR_aload_n dX12_knows_136 0 rfl ?_
      refine zG_getR dX12_knows_137 zf_X12_143 zd_88 rfl rfl ?_
      refine zR_aload_n dX12_knows_140 0 rfl ?_
      refine zG_getR dX12_knows_141 zf_X12_136 zd_88 rfl rfl ?_
      refine zR_iload_n dX12_knows_144 1 rfl ?_
      obtain ⟨g8, h⟩ := zchk_some h
      refine zG_iald dX12_knows_145 zd_128 rfl rfl g8 ?_
      refine zR_iconst (x := (0 : Int32)) dX12_knows_146 rfl ?_
      obtain ⟨g9, h⟩ := zchk_some h
      obtain ⟨V7_10, e11, h⟩ := zlet_some h
      refine zG_zast zds_ok dX12_knows_147 zd_130 rfl rfl g9 e11 rfl ?_
      refine zR_iinc (u := (x1 + 1)) (lv' := [(0, .ref (w.1 + 88)), (1, .int (x1 + 1))]) dX12_knows_148 1 rfl rfl (Nat.le_of_ble_eq_true rfl) rfl ?_
      refine zR_goto (tgt := 116) dX12_knows_151 (by decide) ?_
      exact ih V0 V1 V2 V3 V4 V5 V6 V7_10 (x1 + 1) _ h
set_option maxRecDepth 100000 in
set_option maxHeartbeats 4000000 in
theorem wX12_knows_b94 {w : zW} (F : Nat) (k25 : zV → Int32 → Int32 → Int32 → Option (zV)) (hk25 : ∀ (V0 V1 V2 V3 V4 V5 V6 V7 : zV) (x1 : Int32) (x2 : Int32) (x3 : Int32) (res : zV), k25 V7 x1 x2 x3 = some res → zR w kX12_knows 1 0 0 none (zE zds w [V0, V1, V2, V3, V4, V5, V6, res]) 25 [(0, .ref (w.1 + 88)), (1, .int x1), (2, .int x2), (3, .int x3)] [] (zE zds w [V0, V1, V2, V3, V4, V5, V6, V7])) (V0 V1 V2 V3 V4 V5 V6 V7 : zV) (x1 : Int32) (x2 : Int32) (x3 : Int32) (res : zV) (h : fX12_knows_b94 F k25 V7 x1 x2 x3 = some res) : zR w kX12_knows 1 0 0 none (zE zds w [V0, V1, V2, V3, V4, V5, V6, res]) 94 [(0, .ref (w.1 + 88)), (1, .int x1), (2, .int x2), (3, .int x3)] [] (zE zds w [V0, V1, V2, V3, V4, V5, V6, V7]) := by
  unfold fX12_knows_b94 at h
  refine zR_iinc (u := (x3 + 1)) (lv' := [(0, .ref (w.1 + 88)), (1, .int x1), (2, .int x2), (3, .int (x3 + 1))]) dX12_knows_94 3 rfl rfl (Nat.le_of_ble_eq_true rfl) rfl ?_
  refine zR_goto (tgt := 25) dX12_knows_97 (by decide) ?_
  exact hk25 V0 V1 V2 V3 V4 V5 V6 V7 x1 x2 (x3 + 1) _ h
set_option maxRecDepth 100000 in
set_option maxHeartbeats 4000000 in
theorem wX12_knows_l25 {w : zW} (F : Nat) (k2 : zV → Int32 → Option (zV)) (hk2 : ∀ (V0 V1 V2 V3 V4 V5 V6 V7 : zV) (x1 : Int32) (res : zV), k2 V7 x1 = some res → zR w kX12_knows 1 0 0 none (zE zds w [V0, V1, V2, V3, V4, V5, V6, res]) 2 [(0, .ref (w.1 + 88)), (1, .int x1)] [] (zE zds w [V0, V1, V2, V3, V4, V5, V6, V7])) : ∀ (n : Nat) (V0 V1 V2 V3 V4 V5 V6 V7 : zV) (x1 : Int32) (x2 : Int32) (x3 : Int32) (res : zV), fX12_knows_l25 F k2 n V7 x1 x2 x3 = some res → zR w kX12_knows 1 0 0 none (zE zds w [V0, V1, V2, V3, V4, V5, V6, res]) 25 [(0, .ref (w.1 + 88)), (1, .int x1), (2, .int x2), (3, .int x3)] [] (zE zds w [V0, V1, V2, V3, V4, V5, V6, V7]) := by
  intro n
  induction n with
  | zero =>
    intro V0 V1 V2 V3 V4 V5 V6 V7 x1 x2 x3 res h
    simp [fX12_knows_l25] at h
  | succ n ih =>
    intro V0 V1 V2 V3 V4 V5 V6 V7 x1 x2 x3 res h
    rw [fX12_knows_l25] at h
    refine zR_iload_n dX12_knows_25 3 rfl ?_
    refine zR_bipush (x := (24 : Int32)) dX12_knows_26 rfl ?_
    refine zR_aload_n dX12_knows_28 0 rfl ?_
    refine zG_getI dX12_knows_29 zf_X12_308 zd_88 rfl rfl ?_
    refine zR_imul dX12_knows_32 ?_
    refine zR_aload_n dX12_knows_33 0 rfl ?_
    refine zR_iconst (x := (5 : Int32)) dX12_knows_34 rfl ?_
    obtain ⟨q12, hq13, h⟩ := zbd_some h
    refine zR_cV (rest := [.int ((24 : Int32) * (zI V7 0 18)), .int x3]) (st1 := [.int q12, .int ((24 : Int32) * (zI V7 0 18)), .int x3]) dX12_knows_35 (mX12_sort F V0 V1 V2 V3 V4 V5 V6 V7 (5 : Int32) _ hq13) zc_X12_370 rfl (zE_at zd_88) ⟨_, _, rfl⟩ rfl (Nat.le_of_ble_eq_true rfl) (Nat.le_of_ble_eq_true rfl) rfl ?_
    refine zR_iadd dX12_knows_38 ?_
    by_cases c14 : (((24 : Int32) * (zI V7 0 18)) + q12) ≤ x3
    · have h := zif_t h c14
      refine zR_icmp_ge_t (tgt := 100) dX12_knows_39 (by decide) c14 ?_
      refine zR_iinc (u := (x1 + 1)) (lv' := [(0, .ref (w.1 + 88)), (1, .int (x1 + 1)), (2, .int x2), (3, .int x3)]) dX12_knows_100 1 rfl rfl (Nat.le_of_ble_eq_true rfl) rfl ?_
      refine zR_goto (tgt := 2) dX12_knows_103 (by decide) ?_
      refine zR_sub (lv' := [(0, .ref (w.1 + 88)), (1, .int (x1 + 1))]) [0, 1] rfl ?_
      exact hk2 V0 V1 V2 V3 V4 V5 V6 V7 (x1 + 1) _ h
    · have h := zif_f h c14
      refine zR_icmp_ge_f (tgt := 100) dX12_knows_39 (by decide) c14 ?_
      refine zR_aload_n dX12_knows_42 0 rfl ?_
      refine zG_getR dX12_knows_43 zf_X12_73 zd_88 rfl rfl ?_
      refine zR_iload_n dX12_knows_46 3 rfl ?_
      obtain ⟨g15, h⟩ := zchk_some h
      refine zG_iald dX12_knows_47 zd_107 rfl rfl g15 ?_
      refine zR_iconst (x := (-1 : Int32)) dX12_knows_48 (by decide) ?_
      by_cases c16 : (zA V7 19 (x3).toNatClampNeg) = (-1 : Int32)
      · have h := zif_t h c16
        refine zR_icmp_ne_f (tgt := 94) dX12_knows_49 (by decide) c16 ?_
        refine zR_iload_n dX12_knows_52 2 rfl ?_
        refine zR_iconst (x := (2 : Int32)) dX12_knows_53 rfl ?_
        refine zR_aload_n dX12_knows_54 0 rfl ?_
        refine zG_getR dX12_knows_55 zf_X12_67 zd_88 rfl rfl ?_
        refine zR_iload_n dX12_knows_58 3 rfl ?_
        obtain ⟨g17, h⟩ := zchk_some h
        refine zG_iald dX12_knows_59 zd_105 rfl rfl g17 ?_
        refine zR_imul dX12_knows_60 ?_
        refine zR_ishr dX12_knows_61 ?_
        refine zR_iconst (x := (3 : Int32)) dX12_knows_62 rfl ?_
        refine zR_iand dX12_knows_63 ?_
        by_cases c18 : ((x2 >>> (((2 : Int32) * (zA V7 17 (x3).toNatClampNeg)) &&& 31)) &&& (3 : Int32)) ≤ 0
        · have h := zif_t h c18
          refine zR_if_le_t (tgt := 94) dX12_knows_64 (by decide) c18 ?_
          exact wX12_knows_b94 F (fX12_knows_l25 F k2 n) ih V0 V1 V2 V3 V4 V5 V6 V7 x1 x2 x3 _ h
        · have h := zif_f h c18
          refine zR_if_le_f (tgt := 94) dX12_knows_64 (by decide) c18 ?_
          refine zR_aload_n dX12_knows_67 0 rfl ?_
          refine zR_iload_n dX12_knows_68 2 rfl ?_
          refine zR_iconst (x := (1 : Int32)) dX12_knows_69 rfl ?_
          refine zR_iconst (x := (2 : Int32)) dX12_knows_70 rfl ?_
          refine zR_aload_n dX12_knows_71 0 rfl ?_
          refine zG_getR dX12_knows_72 zf_X12_67 zd_88 rfl rfl ?_
          refine zR_iload_n dX12_knows_75 3 rfl ?_
          obtain ⟨g19, h⟩ := zchk_some h
          refine zG_iald dX12_knows_76 zd_105 rfl rfl g19 ?_
          refine zR_imul dX12_knows_77 ?_
          refine zR_ishl dX12_knows_78 ?_
          refine zR_isub dX12_knows_79 ?_
          refine zR_iconst (x := (1 : Int32)) dX12_knows_80 rfl ?_
          refine zR_iconst (x := (2 : Int32)) dX12_knows_81 rfl ?_
          refine zR_aload_n dX12_knows_82 0 rfl ?_
          refine zG_getR dX12_knows_83 zf_X12_70 zd_88 rfl rfl ?_
          refine zR_iload_n dX12_knows_86 3 rfl ?_
          obtain ⟨g20, h⟩ := zchk_some h
          refine zG_iald dX12_knows_87 zd_106 rfl rfl g20 ?_
          refine zR_imul dX12_knows_88 ?_
          refine zR_ishl dX12_knows_89 ?_
          refine zR_iadd dX12_knows_90 ?_
          obtain ⟨q21, hq22, h⟩ := zbd_some h
          refine zR_cV (rest := []) (st1 := []) dX12_knows_91 (mX12_comes F V0 V1 V2 V3 V4 V5 V6 V7 ((x2 - ((1 : Int32) <<< (((2 : Int32) * (zA V7 17 (x3).toNatClampNeg)) &&& 31))) + ((1 : Int32) <<< (((2 : Int32) * (zA V7 18 (x3).toNatClampNeg)) &&& 31))) _ hq22) zc_X12_373 rfl (zE_at zd_88) ⟨_, _, rfl⟩ rfl (Nat.le_of_ble_eq_true rfl) (Nat.le_of_ble_eq_true rfl) rfl ?_
          exact wX12_knows_b94 F (fX12_knows_l25 F k2 n) ih V0 V1 V2 V3 V4 V5 V6 q21 x1 x2 x3 _ h
      · have h := zif_f h c16
        refine zR_icmp_ne_t (tgt := 94) dX12_knows_49 (by decide) c16 ?_
        exact wX12_knows_b94 F (fX12_knows_l25 F k2 n) ih V0 V1 V2 V3 V4 V5 V6 V7 x1 x2 x3 _ h
set_option maxRecDepth 100000 in
set_option maxHeartbeats 4000000 in
theorem wX12_knows_l2 {w : zW} (F : Nat) : ∀ (n : Nat) (V0 V1 V2 V3 V4 V5 V6 V7 : zV) (x1 : Int32) (res : zV), fX12_knows_l2 F n V7 x1 = some res → zR w kX12_knows 1 0 0 none (zE zds w [V0, V1, V2, V3, V4, V5, V6, res]) 2 [(0, .ref (w.1 + 88)), (1, .int x1)] [] (zE zds w [V0, V1, V2, V3, V4, V5, V6, V7]) := by
  intro n
  induction n with
  | zero =>
    intro V0 V1 V2 V3 V4 V5 V6 V7 x1 res h
    simp [fX12_knows_l2] at h
  | succ n ih =>
    intro V0 V1 V2 V3 V4 V5 V6 V7 x1 res h
    rw [fX12_knows_l2] at h
    refine zR_iload_n dX12_knows_2 1 rfl ?_
    refine zR_aload_n dX12_knows_3 0 rfl ?_
    refine zG_getI dX12_knows_4 zf_X12_367 zd_88 rfl rfl ?_
    by_cases c23 : (zI V7 0 61) ≤ x1
    · have h := zif_t h c23
      refine zR_icmp_ge_t (tgt := 106) dX12_knows_7 (by decide) c23 ?_
      refine zR_aload_n dX12_knows_106 0 rfl ?_
      refine zR_aload_n dX12_knows_107 0 rfl ?_
      refine zG_getI dX12_knows_108 zf_X12_367 zd_88 rfl rfl ?_
      obtain ⟨V7_24, e25, h⟩ := zlet_some h
      refine zG_putI zds_ok dX12_knows_111 zf_X12_376 zt_X12_59 zd_88 rfl rfl e25 rfl ?_
      refine zR_iconst (x := (0 : Int32)) dX12_knows_114 rfl ?_
      refine zR_istore_n (lv' := [(0, .ref (w.1 + 88)), (1, .int (0 : Int32))]) dX12_knows_115 (Nat.le_of_ble_eq_true rfl) rfl ?_
      exact wX12_knows_l116 F F V0 V1 V2 V3 V4 V5 V6 V7_24 (0 : Int32) _ h
    · have h := zif_f h c23
      refine zR_icmp_ge_f (tgt := 106) dX12_knows_7 (by decide) c23 ?_
      refine zR_aload_n dX12_knows_10 0 rfl ?_
      refine zG_getR dX12_knows_11 zf_X12_139 zd_88 rfl rfl ?_
      refine zR_iload_n dX12_knows_14 1 rfl ?_
      obtain ⟨g26, h⟩ := zchk_some h
      refine zG_iald dX12_knows_15 zd_129 rfl rfl g26 ?_
      obtain ⟨y27, e28, h⟩ := zlet_some h
      refine zR_nmI e28 ?_
      refine zR_istore_n (lv' := [(0, .ref (w.1 + 88)), (1, .int x1), (2, .int y27)]) dX12_knows_16 (Nat.le_of_ble_eq_true rfl) rfl ?_
      refine zR_bipush (x := (24 : Int32)) dX12_knows_17 rfl ?_
      refine zR_aload_n dX12_knows_19 0 rfl ?_
      refine zG_getI dX12_knows_20 zf_X12_308 zd_88 rfl rfl ?_
      refine zR_imul dX12_knows_23 ?_
      obtain ⟨y29, e30, h⟩ := zlet_some h
      refine zR_nmI e30 ?_
      refine zR_istore_n (lv' := [(0, .ref (w.1 + 88)), (1, .int x1), (2, .int y27), (3, .int y29)]) dX12_knows_24 (Nat.le_of_ble_eq_true rfl) rfl ?_
      exact wX12_knows_l25 F (fX12_knows_l2 F n) ih F V0 V1 V2 V3 V4 V5 V6 V7 x1 y27 y29 _ h
set_option maxRecDepth 100000 in
set_option maxHeartbeats 4000000 in
theorem mX12_knows {w : zW} (F : Nat) (V0 V1 V2 V3 V4 V5 V6 V7 : zV) (res : zV) (h : fX12_knows F V7 = some res) : zMet w kX12_knows 1 0 0 [.ref (w.1 + 88)] (zE zds w [V0, V1, V2, V3, V4, V5, V6, V7]) none (zE zds w [V0, V1, V2, V3, V4, V5, V6, res]) := by
  refine zMet_of (by decide) (Nat.le_of_ble_eq_true rfl) (Nat.le_refl 0) fun _ => ?_
  show zR w kX12_knows 1 0 0 none (zE zds w [V0, V1, V2, V3, V4, V5, V6, res]) 0 [(0, .ref (w.1 + 88))] [] (zE zds w [V0, V1, V2, V3, V4, V5, V6, V7])
  unfold fX12_knows at h
  refine zR_iconst (x := (0 : Int32)) dX12_knows_0 rfl ?_
  refine zR_istore_n (lv' := [(0, .ref (w.1 + 88)), (1, .int (0 : Int32))]) dX12_knows_1 (Nat.le_of_ble_eq_true rfl) rfl ?_
  exact wX12_knows_l2 F F V0 V1 V2 V3 V4 V5 V6 V7 (0 : Int32) _ h
set_option maxRecDepth 100000 in
set_option maxHeartbeats 4000000 in
theorem mX12_noBalls {w : zW} (F : Nat) (V0 V1 V2 V3 V4 V5 V6 V7 : zV) (res : zV) (h : fX12_noBalls F V7 = some res) : zMet w kX12_noBalls 2 0 0 [.ref (w.1 + 88)] (zE zds w [V0, V1, V2, V3, V4, V5, V6, V7]) none (zE zds w [V0, V1, V2, V3, V4, V5, V6, res]) := by
  refine zMet_of (by decide) (Nat.le_of_ble_eq_true rfl) (Nat.le_refl 0) fun _ => ?_
  show zR w kX12_noBalls 2 0 0 none (zE zds w [V0, V1, V2, V3, V4, V5, V6, res]) 0 [(0, .ref (w.1 + 88))] [] (zE zds w [V0, V1, V2, V3, V4, V5, V6, V7])
  unfold fX12_noBalls at h
  refine zR_aload_n dX12_noBalls_0 0 rfl ?_
  refine zR_iconst (x := (0 : Int32)) dX12_noBalls_1 rfl ?_
  obtain ⟨V7_1, e2, h⟩ := zlet_some h
  refine zG_putI zds_ok dX12_noBalls_2 zf_X12_376 zt_X12_59 zd_88 rfl rfl e2 rfl ?_
  refine zR_aload_n dX12_noBalls_5 0 rfl ?_
  refine zR_iconst (x := (4 : Int32)) dX12_noBalls_6 rfl ?_
  obtain ⟨q3, hq4, h⟩ := zbd_some h
  refine zR_cV (rest := []) (st1 := [.int q3]) dX12_noBalls_7 (mX12_sort F V0 V1 V2 V3 V4 V5 V6 V7_1 (4 : Int32) _ hq4) zc_X12_370 rfl (zE_at zd_88) ⟨_, _, rfl⟩ rfl (Nat.le_of_ble_eq_true rfl) (Nat.le_of_ble_eq_true rfl) rfl ?_
  by_cases c5 : q3 ≤ 0
  · have h := zif_t h c5
    refine zR_if_le_t (tgt := 22) dX12_noBalls_10 (by decide) c5 ?_
    have h := Option.some.inj h
    subst h
    exact zR_ret dX12_noBalls_22 rfl
  · have h := zif_f h c5
    refine zR_if_le_f (tgt := 22) dX12_noBalls_10 (by decide) c5 ?_
    refine zR_aload_n dX12_noBalls_13 0 rfl ?_
    refine zR_iconst (x := (0 : Int32)) dX12_noBalls_14 rfl ?_
    obtain ⟨q6, hq7, h⟩ := zbd_some h
    refine zR_cV (rest := []) (st1 := []) dX12_noBalls_15 (mX12_comes F V0 V1 V2 V3 V4 V5 V6 V7_1 (0 : Int32) _ hq7) zc_X12_373 rfl (zE_at zd_88) ⟨_, _, rfl⟩ rfl (Nat.le_of_ble_eq_true rfl) (Nat.le_of_ble_eq_true rfl) rfl ?_
    refine zR_aload_n dX12_noBalls_18 0 rfl ?_
    obtain ⟨q8, hq9, h⟩ := zbd_some h
    refine zR_cV (rest := []) (st1 := []) dX12_noBalls_19 (mX12_knows F V0 V1 V2 V3 V4 V5 V6 q6 _ hq9) zc_X12_379 rfl (zE_at zd_88) ⟨_, _, rfl⟩ rfl (Nat.le_of_ble_eq_true rfl) (Nat.le_of_ble_eq_true rfl) rfl ?_
    have h := Option.some.inj h
    subst h
    exact zR_ret dX12_noBalls_22 rfl
set_option maxRecDepth 100000 in
set_option maxHeartbeats 4000000 in
theorem wX12_serves_l21 {w : zW} (F : Nat) : ∀ (n : Nat) (V0 V1 V2 V3 V4 V5 V6 V7 : zV) (x1 : Int32) (res : zV), fX12_serves_l21 F n V7 x1 = some res → zR w kX12_serves 2 0 0 none (zE zds w [V0, V1, V2, V3, V4, V5, V6, res]) 21 [(0, .ref (w.1 + 88)), (1, .int x1)] [] (zE zds w [V0, V1, V2, V3, V4, V5, V6, V7]) := by
  intro n
  induction n with
  | zero =>
    intro V0 V1 V2 V3 V4 V5 V6 V7 x1 res h
    simp [fX12_serves_l21] at h
  | succ n ih =>
    intro V0 V1 V2 V3 V4 V5 V6 V7 x1 res h
    rw [fX12_serves_l21] at h
    refine zR_iload_n dX12_serves_21 1 rfl ?_
    refine zR_aload_n dX12_serves_22 0 rfl ?_
    refine zG_getI dX12_serves_23 zf_X12_376 zd_88 rfl rfl ?_
    by_cases c1 : (zI V7 0 59) ≤ x1
    · have h := zif_t h c1
      refine zR_icmp_ge_t (tgt := 47) dX12_serves_26 (by decide) c1 ?_
      refine zR_aload_n dX12_serves_47 0 rfl ?_
      obtain ⟨q2, hq3, h⟩ := zbd_some h
      refine zR_cV (rest := []) (st1 := []) dX12_serves_48 (mX12_knows F V0 V1 V2 V3 V4 V5 V6 V7 _ hq3) zc_X12_379 rfl (zE_at zd_88) ⟨_, _, rfl⟩ rfl (Nat.le_of_ble_eq_true rfl) (Nat.le_of_ble_eq_true rfl) rfl ?_
      have h := Option.some.inj h
      subst h
      exact zR_ret dX12_serves_51 rfl
    · have h := zif_f h c1
      refine zR_icmp_ge_f (tgt := 47) dX12_serves_26 (by decide) c1 ?_
      refine zR_aload_n dX12_serves_29 0 rfl ?_
      refine zR_aload_n dX12_serves_30 0 rfl ?_
      refine zG_getR dX12_serves_31 zf_X12_136 zd_88 rfl rfl ?_
      refine zR_iload_n dX12_serves_34 1 rfl ?_
      obtain ⟨g4, h⟩ := zchk_some h
      refine zG_iald dX12_serves_35 zd_128 rfl rfl g4 ?_
      refine zR_iconst (x := (1 : Int32)) dX12_serves_36 rfl ?_
      refine zR_iadd dX12_serves_37 ?_
      obtain ⟨q5, hq6, h⟩ := zbd_some h
      refine zR_cV (rest := []) (st1 := []) dX12_serves_38 (mX12_comes F V0 V1 V2 V3 V4 V5 V6 V7 ((zA V7 40 (x1).toNatClampNeg) + (1 : Int32)) _ hq6) zc_X12_373 rfl (zE_at zd_88) ⟨_, _, rfl⟩ rfl (Nat.le_of_ble_eq_true rfl) (Nat.le_of_ble_eq_true rfl) rfl ?_
      refine zR_iinc (u := (x1 + 1)) (lv' := [(0, .ref (w.1 + 88)), (1, .int (x1 + 1))]) dX12_serves_41 1 rfl rfl (Nat.le_of_ble_eq_true rfl) rfl ?_
      refine zR_goto (tgt := 21) dX12_serves_44 (by decide) ?_
      exact ih V0 V1 V2 V3 V4 V5 V6 q5 (x1 + 1) _ h
set_option maxRecDepth 100000 in
set_option maxHeartbeats 4000000 in
theorem mX12_serves {w : zW} (F : Nat) (V0 V1 V2 V3 V4 V5 V6 V7 : zV) (res : zV) (h : fX12_serves F V7 = some res) : zMet w kX12_serves 2 0 0 [.ref (w.1 + 88)] (zE zds w [V0, V1, V2, V3, V4, V5, V6, V7]) none (zE zds w [V0, V1, V2, V3, V4, V5, V6, res]) := by
  refine zMet_of (by decide) (Nat.le_of_ble_eq_true rfl) (Nat.le_refl 0) fun _ => ?_
  show zR w kX12_serves 2 0 0 none (zE zds w [V0, V1, V2, V3, V4, V5, V6, res]) 0 [(0, .ref (w.1 + 88))] [] (zE zds w [V0, V1, V2, V3, V4, V5, V6, V7])
  unfold fX12_serves at h
  refine zR_aload_n dX12_serves_0 0 rfl ?_
  refine zG_getI dX12_serves_1 zf_X12_382 zd_88 rfl rfl ?_
  refine zR_iconst (x := (3 : Int32)) dX12_serves_4 rfl ?_
  by_cases c7 : (zI V7 0 67) = (3 : Int32)
  · have h := zif_t h c7
    refine zR_icmp_ne_f (tgt := 9) dX12_serves_5 (by decide) c7 ?_
    have h := Option.some.inj h
    subst h
    exact zR_ret dX12_serves_8 rfl
  · have h := zif_f h c7
    refine zR_icmp_ne_t (tgt := 9) dX12_serves_5 (by decide) c7 ?_
    refine zR_aload_n dX12_serves_9 0 rfl ?_
    refine zR_dup dX12_serves_10 rfl ?_
    refine zG_getI dX12_serves_11 zf_X12_382 zd_88 rfl rfl ?_
    refine zR_iconst (x := (1 : Int32)) dX12_serves_14 rfl ?_
    refine zR_iadd dX12_serves_15 ?_
    obtain ⟨V7_8, e9, h⟩ := zlet_some h
    refine zG_putI zds_ok dX12_serves_16 zf_X12_382 zt_X12_67 zd_88 rfl rfl e9 rfl ?_
    refine zR_iconst (x := (0 : Int32)) dX12_serves_19 rfl ?_
    refine zR_istore_n (lv' := [(0, .ref (w.1 + 88)), (1, .int (0 : Int32))]) dX12_serves_20 (Nat.le_of_ble_eq_true rfl) rfl ?_
    exact wX12_serves_l21 F F V0 V1 V2 V3 V4 V5 V6 V7_8 (0 : Int32) _ h
set_option maxRecDepth 100000 in
set_option maxHeartbeats 4000000 in
theorem wX12_deep_b24 {w : zW} (F : Nat) (k4 : zV → Int32 → Int32 → Option (Int32)) (hk4 : ∀ (V0 V1 V2 V3 V4 V5 V6 V7 : zV) (x1 : Int32) (x2 : Int32) (res : Int32), k4 V7 x1 x2 = some res → zR w kX12_deep 0 0 0 (some (.int res)) (zE zds w [V0, V1, V2, V3, V4, V5, V6, V7]) 4 [(0, .ref (w.1 + 88)), (1, .int x1), (2, .int x2)] [] (zE zds w [V0, V1, V2, V3, V4, V5, V6, V7])) (V0 V1 V2 V3 V4 V5 V6 V7 : zV) (x1 : Int32) (x2 : Int32) (res : Int32) (h : fX12_deep_b24 F k4 V7 x1 x2 = some res) : zR w kX12_deep 0 0 0 (some (.int res)) (zE zds w [V0, V1, V2, V3, V4, V5, V6, V7]) 24 [(0, .ref (w.1 + 88)), (1, .int x1), (2, .int x2)] [] (zE zds w [V0, V1, V2, V3, V4, V5, V6, V7]) := by
  unfold fX12_deep_b24 at h
  refine zR_iinc (u := (x2 + 1)) (lv' := [(0, .ref (w.1 + 88)), (1, .int x1), (2, .int (x2 + 1))]) dX12_deep_24 2 rfl rfl (Nat.le_of_ble_eq_true rfl) rfl ?_
  refine zR_goto (tgt := 4) dX12_deep_27 (by decide) ?_
  exact hk4 V0 V1 V2 V3 V4 V5 V6 V7 x1 (x2 + 1) _ h
set_option maxRecDepth 100000 in
set_option maxHeartbeats 4000000 in
theorem wX12_deep_l4 {w : zW} (F : Nat) : ∀ (n : Nat) (V0 V1 V2 V3 V4 V5 V6 V7 : zV) (x1 : Int32) (x2 : Int32) (res : Int32), fX12_deep_l4 F n V7 x1 x2 = some res → zR w kX12_deep 0 0 0 (some (.int res)) (zE zds w [V0, V1, V2, V3, V4, V5, V6, V7]) 4 [(0, .ref (w.1 + 88)), (1, .int x1), (2, .int x2)] [] (zE zds w [V0, V1, V2, V3, V4, V5, V6, V7]) := by
  intro n
  induction n with
  | zero =>
    intro V0 V1 V2 V3 V4 V5 V6 V7 x1 x2 res h
    simp [fX12_deep_l4] at h
  | succ n ih =>
    intro V0 V1 V2 V3 V4 V5 V6 V7 x1 x2 res h
    rw [fX12_deep_l4] at h
    refine zR_iload_n dX12_deep_4 2 rfl ?_
    refine zR_aload_n dX12_deep_5 0 rfl ?_
    refine zG_getI dX12_deep_6 zf_X12_425 zd_88 rfl rfl ?_
    by_cases c1 : (zI V7 0 90) ≤ x2
    · have h := zif_t h c1
      refine zR_icmp_ge_t (tgt := 30) dX12_deep_9 (by decide) c1 ?_
      refine zR_iload_n dX12_deep_30 1 rfl ?_
      have h := Option.some.inj h
      subst h
      exact zR_iret (x := x1) dX12_deep_31 rfl rfl
    · have h := zif_f h c1
      refine zR_icmp_ge_f (tgt := 30) dX12_deep_9 (by decide) c1 ?_
      refine zR_aload_n dX12_deep_12 0 rfl ?_
      refine zG_getR dX12_deep_13 zf_X12_192 zd_88 rfl rfl ?_
      refine zR_iload_n dX12_deep_16 2 rfl ?_
      obtain ⟨g2, h⟩ := zchk_some h
      refine zG_iald dX12_deep_17 zd_146 rfl rfl g2 ?_
      by_cases c3 : 0 ≤ (zA V7 58 (x2).toNatClampNeg)
      · have h := zif_t h c3
        refine zR_if_ge_t (tgt := 24) dX12_deep_18 (by decide) c3 ?_
        exact wX12_deep_b24 F (fX12_deep_l4 F n) ih V0 V1 V2 V3 V4 V5 V6 V7 x1 x2 _ h
      · have h := zif_f h c3
        refine zR_if_ge_f (tgt := 24) dX12_deep_18 (by decide) c3 ?_
        refine zR_iinc (u := (x1 + 1)) (lv' := [(0, .ref (w.1 + 88)), (1, .int (x1 + 1)), (2, .int x2)]) dX12_deep_21 1 rfl rfl (Nat.le_of_ble_eq_true rfl) rfl ?_
        exact wX12_deep_b24 F (fX12_deep_l4 F n) ih V0 V1 V2 V3 V4 V5 V6 V7 (x1 + 1) x2 _ h
set_option maxRecDepth 100000 in
set_option maxHeartbeats 4000000 in
theorem mX12_deep {w : zW} (F : Nat) (V0 V1 V2 V3 V4 V5 V6 V7 : zV) (res : Int32) (h : fX12_deep F V7 = some res) : zMet w kX12_deep 0 0 0 [.ref (w.1 + 88)] (zE zds w [V0, V1, V2, V3, V4, V5, V6, V7]) (some (.int res)) (zE zds w [V0, V1, V2, V3, V4, V5, V6, V7]) := by
  refine zMet_of (by decide) (Nat.le_of_ble_eq_true rfl) (Nat.le_refl 0) fun _ => ?_
  show zR w kX12_deep 0 0 0 (some (.int res)) (zE zds w [V0, V1, V2, V3, V4, V5, V6, V7]) 0 [(0, .ref (w.1 + 88))] [] (zE zds w [V0, V1, V2, V3, V4, V5, V6, V7])
  unfold fX12_deep at h
  refine zR_iconst (x := (0 : Int32)) dX12_deep_0 rfl ?_
  refine zR_istore_n (lv' := [(0, .ref (w.1 + 88)), (1, .int (0 : Int32))]) dX12_deep_1 (Nat.le_of_ble_eq_true rfl) rfl ?_
  refine zR_iconst (x := (0 : Int32)) dX12_deep_2 rfl ?_
  refine zR_istore_n (lv' := [(0, .ref (w.1 + 88)), (1, .int (0 : Int32)), (2, .int (0 : Int32))]) dX12_deep_3 (Nat.le_of_ble_eq_true rfl) rfl ?_
  exact wX12_deep_l4 F F V0 V1 V2 V3 V4 V5 V6 V7 (0 : Int32) (0 : Int32) _ h
set_option maxRecDepth 100000 in
set_option maxHeartbeats 4000000 in
theorem mX12_frame {w : zW} (F : Nat) (V0 V1 V2 V3 V4 V5 V6 V7 : zV) (x1 : Int32) (x2 : Int32) (res : zV) (h : fX12_frame F V7 x1 x2 = some res) : zMet w kX12_frame 0 0 0 [.ref (w.1 + 88), .int x1, .int x2] (zE zds w [V0, V1, V2, V3, V4, V5, V6, V7]) none (zE zds w [V0, V1, V2, V3, V4, V5, V6, res]) := by
  refine zMet_of (by decide) (Nat.le_of_ble_eq_true rfl) (Nat.le_refl 0) fun _ => ?_
  show zR w kX12_frame 0 0 0 none (zE zds w [V0, V1, V2, V3, V4, V5, V6, res]) 0 [(0, .ref (w.1 + 88)), (1, .int x1), (2, .int x2)] [] (zE zds w [V0, V1, V2, V3, V4, V5, V6, V7])
  unfold fX12_frame at h
  refine zR_aload_n dX12_frame_0 0 rfl ?_
  refine zG_getR dX12_frame_1 zf_X12_189 zd_88 rfl rfl ?_
  refine zR_aload_n dX12_frame_4 0 rfl ?_
  refine zG_getI dX12_frame_5 zf_X12_425 zd_88 rfl rfl ?_
  refine zR_iload_n dX12_frame_8 1 rfl ?_
  obtain ⟨g1, h⟩ := zchk_some h
  obtain ⟨V7_2, e3, h⟩ := zlet_some h
  refine zG_iast zds_ok dX12_frame_9 zd_145 rfl rfl g1 e3 rfl ?_
  refine zR_aload_n dX12_frame_10 0 rfl ?_
  refine zG_getR dX12_frame_11 zf_X12_192 zd_88 rfl rfl ?_
  refine zR_aload_n dX12_frame_14 0 rfl ?_
  refine zG_getI dX12_frame_15 zf_X12_425 zd_88 rfl rfl ?_
  refine zR_iload_n dX12_frame_18 2 rfl ?_
  obtain ⟨g4, h⟩ := zchk_some h
  obtain ⟨V7_5, e6, h⟩ := zlet_some h
  refine zG_iast zds_ok dX12_frame_19 zd_146 rfl rfl g4 e6 rfl ?_
  refine zR_aload_n dX12_frame_20 0 rfl ?_
  refine zG_getR dX12_frame_21 zf_X12_195 zd_88 rfl rfl ?_
  refine zR_aload_n dX12_frame_24 0 rfl ?_
  refine zG_getI dX12_frame_25 zf_X12_425 zd_88 rfl rfl ?_
  refine zR_aload_n dX12_frame_28 0 rfl ?_
  refine zG_getR dX12_frame_29 zf_X12_85 zd_88 rfl rfl ?_
  refine zR_bipush (x := (13 : Int32)) dX12_frame_32 rfl ?_
  refine zR_aload_n dX12_frame_34 0 rfl ?_
  refine zG_getI dX12_frame_35 zf_X12_308 zd_88 rfl rfl ?_
  refine zR_imul dX12_frame_38 ?_
  refine zR_iload_n dX12_frame_39 1 rfl ?_
  refine zR_iadd dX12_frame_40 ?_
  obtain ⟨g7, h⟩ := zchk_some h
  refine zG_iald dX12_frame_41 zd_111 rfl rfl g7 ?_
  obtain ⟨g8, h⟩ := zchk_some h
  obtain ⟨V7_9, e10, h⟩ := zlet_some h
  refine zG_iast zds_ok dX12_frame_42 zd_147 rfl rfl g8 e10 rfl ?_
  refine zR_aload_n dX12_frame_43 0 rfl ?_
  refine zG_getR dX12_frame_44 zf_X12_198 zd_88 rfl rfl ?_
  refine zR_aload_n dX12_frame_47 0 rfl ?_
  refine zG_getI dX12_frame_48 zf_X12_425 zd_88 rfl rfl ?_
  refine zR_iconst (x := (0 : Int32)) dX12_frame_51 rfl ?_
  obtain ⟨g11, h⟩ := zchk_some h
  obtain ⟨V7_12, e13, h⟩ := zlet_some h
  refine zG_iast zds_ok dX12_frame_52 zd_148 rfl rfl g11 e13 rfl ?_
  refine zR_aload_n dX12_frame_53 0 rfl ?_
  refine zG_getR dX12_frame_54 zf_X12_201 zd_88 rfl rfl ?_
  refine zR_aload_n dX12_frame_57 0 rfl ?_
  refine zG_getI dX12_frame_58 zf_X12_425 zd_88 rfl rfl ?_
  refine zR_iconst (x := (0 : Int32)) dX12_frame_61 rfl ?_
  obtain ⟨g14, h⟩ := zchk_some h
  obtain ⟨V7_15, e16, h⟩ := zlet_some h
  refine zG_iast zds_ok dX12_frame_62 zd_149 rfl rfl g14 e16 rfl ?_
  refine zR_aload_n dX12_frame_63 0 rfl ?_
  refine zG_getR dX12_frame_64 zf_X12_204 zd_88 rfl rfl ?_
  refine zR_aload_n dX12_frame_67 0 rfl ?_
  refine zG_getI dX12_frame_68 zf_X12_425 zd_88 rfl rfl ?_
  refine zR_aload_n dX12_frame_71 0 rfl ?_
  refine zG_getR dX12_frame_72 zf_X12_174 zd_88 rfl rfl ?_
  refine zR_iload_n dX12_frame_75 1 rfl ?_
  obtain ⟨g17, h⟩ := zchk_some h
  refine zG_iald dX12_frame_76 zd_140 rfl rfl g17 ?_
  obtain ⟨g18, h⟩ := zchk_some h
  obtain ⟨V7_19, e20, h⟩ := zlet_some h
  refine zG_iast zds_ok dX12_frame_77 zd_150 rfl rfl g18 e20 rfl ?_
  refine zR_aload_n dX12_frame_78 0 rfl ?_
  refine zR_dup dX12_frame_79 rfl ?_
  refine zG_getI dX12_frame_80 zf_X12_425 zd_88 rfl rfl ?_
  refine zR_iconst (x := (1 : Int32)) dX12_frame_83 rfl ?_
  refine zR_iadd dX12_frame_84 ?_
  obtain ⟨V7_21, e22, h⟩ := zlet_some h
  refine zG_putI zds_ok dX12_frame_85 zf_X12_425 zt_X12_90 zd_88 rfl rfl e22 rfl ?_
  have h := Option.some.inj h
  subst h
  exact zR_ret dX12_frame_88 rfl
set_option maxRecDepth 100000 in
set_option maxHeartbeats 4000000 in
theorem mX12_starts {w : zW} (F : Nat) (V0 V1 V2 V3 V4 V5 V6 V7 : zV) (x1 : Int32) (res : zV) (h : fX12_starts F V7 x1 = some res) : zMet w kX12_starts 1 0 0 [.ref (w.1 + 88), .int x1] (zE zds w [V0, V1, V2, V3, V4, V5, V6, V7]) none (zE zds w [V0, V1, V2, V3, V4, V5, V6, res]) := by
  refine zMet_of (by decide) (Nat.le_of_ble_eq_true rfl) (Nat.le_refl 0) fun _ => ?_
  show zR w kX12_starts 1 0 0 none (zE zds w [V0, V1, V2, V3, V4, V5, V6, res]) 0 [(0, .ref (w.1 + 88)), (1, .int x1)] [] (zE zds w [V0, V1, V2, V3, V4, V5, V6, V7])
  unfold fX12_starts at h
  refine zR_aload_n dX12_starts_0 0 rfl ?_
  refine zG_getR dX12_starts_1 zf_X12_165 zd_88 rfl rfl ?_
  refine zR_iload_n dX12_starts_4 1 rfl ?_
  obtain ⟨g1, h⟩ := zchk_some h
  refine zG_zald dX12_starts_5 zd_137 rfl rfl g1 ?_
  obtain ⟨y2, e3, h⟩ := zlet_some h
  refine zR_nmI e3 ?_
  refine zR_istore_n (lv' := [(0, .ref (w.1 + 88)), (1, .int x1), (2, .int y2)]) dX12_starts_6 (Nat.le_of_ble_eq_true rfl) rfl ?_
  refine zR_aload_n dX12_starts_7 0 rfl ?_
  refine zG_getR dX12_starts_8 zf_X12_165 zd_88 rfl rfl ?_
  refine zR_iload_n dX12_starts_11 1 rfl ?_
  refine zR_iconst (x := (1 : Int32)) dX12_starts_12 rfl ?_
  obtain ⟨g4, h⟩ := zchk_some h
  obtain ⟨V7_5, e6, h⟩ := zlet_some h
  refine zG_zast zds_ok dX12_starts_13 zd_137 rfl rfl g4 e6 rfl ?_
  refine zR_aload_n dX12_starts_14 0 rfl ?_
  refine zG_getR dX12_starts_15 zf_X12_168 zd_88 rfl rfl ?_
  refine zR_iload_n dX12_starts_18 1 rfl ?_
  refine zR_aload_n dX12_starts_19 0 rfl ?_
  refine zG_getR dX12_starts_20 zf_X12_82 zd_88 rfl rfl ?_
  refine zR_bipush (x := (12 : Int32)) dX12_starts_23 rfl ?_
  refine zR_aload_n dX12_starts_25 0 rfl ?_
  refine zG_getI dX12_starts_26 zf_X12_308 zd_88 rfl rfl ?_
  refine zR_imul dX12_starts_29 ?_
  refine zR_iload_n dX12_starts_30 1 rfl ?_
  refine zR_iadd dX12_starts_31 ?_
  obtain ⟨g7, h⟩ := zchk_some h
  refine zG_iald dX12_starts_32 zd_110 rfl rfl g7 ?_
  obtain ⟨g8, h⟩ := zchk_some h
  obtain ⟨V7_9, e10, h⟩ := zlet_some h
  refine zG_iast zds_ok dX12_starts_33 zd_138 rfl rfl g8 e10 rfl ?_
  refine zR_iload_n dX12_starts_34 2 rfl ?_
  by_cases c11 : y2 = 0
  · have h := zif_t h c11
    refine zR_if_eq_t (tgt := 39) dX12_starts_35 (by decide) c11 ?_
    refine zR_aload_n dX12_starts_39 0 rfl ?_
    refine zG_getR dX12_starts_40 zf_X12_171 zd_88 rfl rfl ?_
    refine zR_iload_n dX12_starts_43 1 rfl ?_
    refine zR_dup2 dX12_starts_44 rfl rfl ?_
    obtain ⟨g12, h⟩ := zchk_some h
    refine zG_iald dX12_starts_45 zd_139 rfl rfl g12 ?_
    refine zR_iconst (x := (1 : Int32)) dX12_starts_46 rfl ?_
    refine zR_iadd dX12_starts_47 ?_
    obtain ⟨g13, h⟩ := zchk_some h
    obtain ⟨V7_14, e15, h⟩ := zlet_some h
    refine zG_iast zds_ok dX12_starts_48 zd_139 rfl rfl g13 e15 rfl ?_
    refine zR_aload_n dX12_starts_49 0 rfl ?_
    obtain ⟨q16, hq17, h⟩ := zbd_some h
    refine zR_cV (rest := []) (st1 := [.int q16]) dX12_starts_50 (mX12_deep F V0 V1 V2 V3 V4 V5 V6 V7_14 _ hq17) zc_X12_439 rfl (zE_at zd_88) ⟨_, _, rfl⟩ rfl (Nat.le_of_ble_eq_true rfl) (Nat.le_of_ble_eq_true rfl) rfl ?_
    refine zR_bipush (x := (8 : Int32)) dX12_starts_53 rfl ?_
    by_cases c18 : (8 : Int32) ≤ q16
    · have h := zif_t h c18
      refine zR_icmp_ge_t (tgt := 64) dX12_starts_55 (by decide) c18 ?_
      have h := Option.some.inj h
      subst h
      exact zR_ret dX12_starts_64 rfl
    · have h := zif_f h c18
      refine zR_icmp_ge_f (tgt := 64) dX12_starts_55 (by decide) c18 ?_
      refine zR_aload_n dX12_starts_58 0 rfl ?_
      refine zR_iload_n dX12_starts_59 1 rfl ?_
      refine zR_iconst (x := (-1 : Int32)) dX12_starts_60 (by decide) ?_
      obtain ⟨q19, hq20, h⟩ := zbd_some h
      refine zR_cV (rest := []) (st1 := []) dX12_starts_61 (mX12_frame F V0 V1 V2 V3 V4 V5 V6 V7_14 x1 (-1 : Int32) _ hq20) zc_X12_443 rfl (zE_at zd_88) ⟨_, _, rfl⟩ rfl (Nat.le_of_ble_eq_true rfl) (Nat.le_of_ble_eq_true rfl) rfl ?_
      have h := Option.some.inj h
      subst h
      exact zR_ret dX12_starts_64 rfl
  · have h := zif_f h c11
    refine zR_if_eq_f (tgt := 39) dX12_starts_35 (by decide) c11 ?_
    have h := Option.some.inj h
    subst h
    exact zR_ret dX12_starts_38 rfl
set_option maxRecDepth 100000 in
set_option maxHeartbeats 4000000 in
theorem wX12_term_b189 {w : zW} (F : Nat) (k6 : zV → Int32 → Int32 → Int32 → Int32 → Option (Int32 × zV)) (hk6 : ∀ (V0 V1 V2 V3 V4 V5 V6 V7 : zV) (x2 : Int32) (x3 : Int32) (x4 : Int32) (x5 : Int32) (res : Int32 × zV), k6 V7 x2 x3 x4 x5 = some res → zR w kX12_term 0 0 0 (some (.int res.1)) (zE zds w [V0, V1, V2, V3, V4, V5, V6, res.2]) 6 [(0, .ref (w.1 + 88)), (2, .int x2), (3, .int x3), (4, .int x4), (5, .int x5)] [] (zE zds w [V0, V1, V2, V3, V4, V5, V6, V7])) (V0 V1 V2 V3 V4 V5 V6 V7 : zV) (x2 : Int32) (x3 : Int32) (x4 : Int32) (x5 : Int32) (res : Int32 × zV) (h : fX12_term_b189 F k6 V7 x2 x3 x4 x5 = some res) : zR w kX12_term 0 0 0 (some (.int res.1)) (zE zds w [V0, V1, V2, V3, V4, V5, V6, res.2]) 189 [(0, .ref (w.1 + 88)), (2, .int x2), (3, .int x3), (4, .int x4), (5, .int x5)] [] (zE zds w [V0, V1, V2, V3, V4, V5, V6, V7]) := by
  unfold fX12_term_b189 at h
  refine zR_iinc (u := (x5 + 1)) (lv' := [(0, .ref (w.1 + 88)), (2, .int x2), (3, .int x3), (4, .int x4), (5, .int (x5 + 1))]) dX12_term_189 4 rfl rfl (Nat.le_of_ble_eq_true rfl) rfl ?_
  refine zR_goto (tgt := 6) dX12_term_192 (by decide) ?_
  exact hk6 V0 V1 V2 V3 V4 V5 V6 V7 x2 x3 x4 (x5 + 1) _ h
set_option maxRecDepth 100000 in
set_option maxHeartbeats 4000000 in
theorem wX12_term_b188 {w : zW} (F : Nat) (k6 : zV → Int32 → Int32 → Int32 → Int32 → Option (Int32 × zV)) (hk6 : ∀ (V0 V1 V2 V3 V4 V5 V6 V7 : zV) (x2 : Int32) (x3 : Int32) (x4 : Int32) (x5 : Int32) (res : Int32 × zV), k6 V7 x2 x3 x4 x5 = some res → zR w kX12_term 0 0 0 (some (.int res.1)) (zE zds w [V0, V1, V2, V3, V4, V5, V6, res.2]) 6 [(0, .ref (w.1 + 88)), (2, .int x2), (3, .int x3), (4, .int x4), (5, .int x5)] [] (zE zds w [V0, V1, V2, V3, V4, V5, V6, V7])) (V0 V1 V2 V3 V4 V5 V6 V7 : zV) (x2 : Int32) (x3 : Int32) (x4 : Int32) (x5 : Int32) (s1 : Int32) (s2 : Int32) (res : Int32 × zV) (h : fX12_term_b188 F k6 V7 x2 x3 x4 x5 s1 s2 = some res) : zR w kX12_term 0 0 0 (some (.int res.1)) (zE zds w [V0, V1, V2, V3, V4, V5, V6, res.2]) 188 [(0, .ref (w.1 + 88)), (2, .int x2), (3, .int x3), (4, .int x4), (5, .int x5)] [.int s2, .int s1, .ref (w.1 + 151)] (zE zds w [V0, V1, V2, V3, V4, V5, V6, V7]) := by
  unfold fX12_term_b188 at h
  obtain ⟨g1, h⟩ := zchk_some h
  obtain ⟨V7_2, e3, h⟩ := zlet_some h
  refine zG_iast zds_ok dX12_term_188 zd_151 rfl rfl g1 e3 rfl ?_
  exact wX12_term_b189 F k6 hk6 V0 V1 V2 V3 V4 V5 V6 V7_2 x2 x3 x4 x5 _ h
set_option maxRecDepth 100000 in
set_option maxHeartbeats 4000000 in
theorem wX12_term_b88 {w : zW} (F : Nat) (k6 : zV → Int32 → Int32 → Int32 → Int32 → Option (Int32 × zV)) (hk6 : ∀ (V0 V1 V2 V3 V4 V5 V6 V7 : zV) (x2 : Int32) (x3 : Int32) (x4 : Int32) (x5 : Int32) (res : Int32 × zV), k6 V7 x2 x3 x4 x5 = some res → zR w kX12_term 0 0 0 (some (.int res.1)) (zE zds w [V0, V1, V2, V3, V4, V5, V6, res.2]) 6 [(0, .ref (w.1 + 88)), (2, .int x2), (3, .int x3), (4, .int x4), (5, .int x5)] [] (zE zds w [V0, V1, V2, V3, V4, V5, V6, V7])) (V0 V1 V2 V3 V4 V5 V6 V7 : zV) (x2 : Int32) (x3 : Int32) (x4 : Int32) (x5 : Int32) (s1 : Int32) (s2 : Int32) (res : Int32 × zV) (h : fX12_term_b88 F k6 V7 x2 x3 x4 x5 s1 s2 = some res) : zR w kX12_term 0 0 0 (some (.int res.1)) (zE zds w [V0, V1, V2, V3, V4, V5, V6, res.2]) 88 [(0, .ref (w.1 + 88)), (2, .int x2), (3, .int x3), (4, .int x4), (5, .int x5)] [.int s2, .int s1, .ref (w.1 + 151)] (zE zds w [V0, V1, V2, V3, V4, V5, V6, V7]) := by
  unfold fX12_term_b88 at h
  obtain ⟨g4, h⟩ := zchk_some h
  obtain ⟨V7_5, e6, h⟩ := zlet_some h
  refine zG_iast zds_ok dX12_term_88 zd_151 rfl rfl g4 e6 rfl ?_
  refine zR_iinc (u := (x4 + 1)) (lv' := [(0, .ref (w.1 + 88)), (2, .int x2), (3, .int x3), (4, .int (x4 + 1)), (5, .int x5)]) dX12_term_89 3 rfl rfl (Nat.le_of_ble_eq_true rfl) rfl ?_
  refine zR_goto (tgt := 189) dX12_term_92 (by decide) ?_
  exact wX12_term_b189 F k6 hk6 V0 V1 V2 V3 V4 V5 V6 V7_5 x2 x3 (x4 + 1) x5 _ h
set_option maxRecDepth 100000 in
set_option maxHeartbeats 4000000 in
theorem wX12_term_l6 {w : zW} (F : Nat) : ∀ (n : Nat) (V0 V1 V2 V3 V4 V5 V6 V7 : zV) (x2 : Int32) (x3 : Int32) (x4 : Int32) (x5 : Int32) (res : Int32 × zV), fX12_term_l6 F n V7 x2 x3 x4 x5 = some res → zR w kX12_term 0 0 0 (some (.int res.1)) (zE zds w [V0, V1, V2, V3, V4, V5, V6, res.2]) 6 [(0, .ref (w.1 + 88)), (2, .int x2), (3, .int x3), (4, .int x4), (5, .int x5)] [] (zE zds w [V0, V1, V2, V3, V4, V5, V6, V7]) := by
  intro n
  induction n with
  | zero =>
    intro V0 V1 V2 V3 V4 V5 V6 V7 x2 x3 x4 x5 res h
    simp [fX12_term_l6] at h
  | succ n ih =>
    intro V0 V1 V2 V3 V4 V5 V6 V7 x2 x3 x4 x5 res h
    rw [fX12_term_l6] at h
    refine zR_iload dX12_term_6 4 rfl ?_
    refine zR_iload_n dX12_term_8 1 rfl ?_
    by_cases c7 : x2 ≤ x5
    · have h := zif_t h c7
      refine zR_icmp_ge_t (tgt := 195) dX12_term_9 (by decide) c7 ?_
      refine zR_aload_n dX12_term_195 0 rfl ?_
      refine zG_getR dX12_term_196 zf_X12_207 zd_88 rfl rfl ?_
      refine zR_iconst (x := (0 : Int32)) dX12_term_199 rfl ?_
      refine zG_iald dX12_term_200 zd_151 rfl rfl (show zix (0 : Int32) 1000 from by decide) ?_
      have h := Option.some.inj h
      subst h
      exact zR_iret (x := (zA V7 63 ((0 : Int32)).toNatClampNeg)) dX12_term_201 rfl rfl
    · have h := zif_f h c7
      refine zR_icmp_ge_f (tgt := 195) dX12_term_9 (by decide) c7 ?_
      refine zR_aload_n dX12_term_12 0 rfl ?_
      refine zG_getR dX12_term_13 zf_X12_127 zd_88 rfl rfl ?_
      refine zR_iload dX12_term_16 4 rfl ?_
      obtain ⟨g8, h⟩ := zchk_some h
      refine zG_iald dX12_term_18 zd_125 rfl rfl g8 ?_
      obtain ⟨y9, e10, h⟩ := zlet_some h
      refine zR_nmI e10 ?_
      refine zR_istore (lv' := [(0, .ref (w.1 + 88)), (2, .int x2), (3, .int x3), (4, .int x4), (5, .int x5), (6, .int y9)]) dX12_term_19 (Nat.le_of_ble_eq_true rfl) rfl ?_
      refine zR_iload dX12_term_21 5 rfl ?_
      refine zR_iconst (x := (4 : Int32)) dX12_term_23 rfl ?_
      by_cases c11 : (4 : Int32) ≤ y9
      · have h := zif_t h c11
        refine zR_icmp_ge_t (tgt := 95) dX12_term_24 (by decide) c11 ?_
        refine zR_iload dX12_term_95 5 rfl ?_
        refine zR_bipush (x := (7 : Int32)) dX12_term_97 rfl ?_
        by_cases c12 : y9 = (7 : Int32)
        · have h := zif_t h c12
          refine zR_icmp_ne_f (tgt := 124) dX12_term_99 (by decide) c12 ?_
          refine zR_aload_n dX12_term_102 0 rfl ?_
          refine zG_getR dX12_term_103 zf_X12_207 zd_88 rfl rfl ?_
          refine zR_iload dX12_term_106 3 rfl ?_
          refine zR_iconst (x := (1 : Int32)) dX12_term_108 rfl ?_
          refine zR_isub dX12_term_109 ?_
          refine zR_aload_n dX12_term_110 0 rfl ?_
          refine zG_getR dX12_term_111 zf_X12_207 zd_88 rfl rfl ?_
          refine zR_iload dX12_term_114 3 rfl ?_
          refine zR_iconst (x := (1 : Int32)) dX12_term_116 rfl ?_
          refine zR_isub dX12_term_117 ?_
          obtain ⟨g21, h⟩ := zchk_some h
          refine zG_iald dX12_term_118 zd_151 rfl rfl g21 ?_
          refine zR_ineg dX12_term_119 ?_
          obtain ⟨g22, h⟩ := zchk_some h
          obtain ⟨V7_23, e24, h⟩ := zlet_some h
          refine zG_iast zds_ok dX12_term_120 zd_151 rfl rfl g22 e24 rfl ?_
          refine zR_goto (tgt := 189) dX12_term_121 (by decide) ?_
          refine zR_sub (lv' := [(0, .ref (w.1 + 88)), (2, .int x2), (3, .int x3), (4, .int x4), (5, .int x5)]) [0, 1, 2, 3, 4] rfl ?_
          exact wX12_term_b189 F (fX12_term_l6 F n) ih V0 V1 V2 V3 V4 V5 V6 V7_23 x2 x3 x4 x5 _ h
        · have h := zif_f h c12
          refine zR_icmp_ne_t (tgt := 124) dX12_term_99 (by decide) c12 ?_
          refine zR_iinc (u := (x4 + (-1))) (lv' := [(0, .ref (w.1 + 88)), (2, .int x2), (3, .int x3), (4, .int (x4 + (-1))), (5, .int x5), (6, .int y9)]) dX12_term_124 3 rfl (by rw [show Int32.ofInt (-1) = (-1 : Int32) from by decide]) (Nat.le_of_ble_eq_true rfl) rfl ?_
          refine zR_aload_n dX12_term_127 0 rfl ?_
          refine zG_getR dX12_term_128 zf_X12_207 zd_88 rfl rfl ?_
          refine zR_iload dX12_term_131 3 rfl ?_
          refine zR_iconst (x := (1 : Int32)) dX12_term_133 rfl ?_
          refine zR_isub dX12_term_134 ?_
          obtain ⟨g13, h⟩ := zchk_some h
          refine zG_iald dX12_term_135 zd_151 rfl rfl g13 ?_
          obtain ⟨y14, e15, h⟩ := zlet_some h
          refine zR_nmI e15 ?_
          refine zR_istore (lv' := [(0, .ref (w.1 + 88)), (2, .int x2), (3, .int x3), (4, .int (x4 + (-1))), (5, .int x5), (6, .int y9), (7, .int y14)]) dX12_term_136 (Nat.le_of_ble_eq_true rfl) rfl ?_
          refine zR_aload_n dX12_term_138 0 rfl ?_
          refine zG_getR dX12_term_139 zf_X12_207 zd_88 rfl rfl ?_
          refine zR_iload dX12_term_142 3 rfl ?_
          obtain ⟨g16, h⟩ := zchk_some h
          refine zG_iald dX12_term_144 zd_151 rfl rfl g16 ?_
          obtain ⟨y17, e18, h⟩ := zlet_some h
          refine zR_nmI e18 ?_
          refine zR_istore (lv' := [(0, .ref (w.1 + 88)), (2, .int x2), (3, .int x3), (4, .int (x4 + (-1))), (5, .int x5), (6, .int y9), (7, .int y14), (8, .int y17)]) dX12_term_145 (Nat.le_of_ble_eq_true rfl) rfl ?_
          refine zR_aload_n dX12_term_147 0 rfl ?_
          refine zG_getR dX12_term_148 zf_X12_207 zd_88 rfl rfl ?_
          refine zR_iload dX12_term_151 3 rfl ?_
          refine zR_iconst (x := (1 : Int32)) dX12_term_153 rfl ?_
          refine zR_isub dX12_term_154 ?_
          refine zR_iload dX12_term_155 5 rfl ?_
          refine zR_iconst (x := (4 : Int32)) dX12_term_157 rfl ?_
          by_cases c19 : y9 = (4 : Int32)
          · have h := zif_t h c19
            refine zR_icmp_ne_f (tgt := 169) dX12_term_158 (by decide) c19 ?_
            refine zR_iload dX12_term_161 6 rfl ?_
            refine zR_iload dX12_term_163 7 rfl ?_
            refine zR_iadd dX12_term_165 ?_
            refine zR_goto (tgt := 188) dX12_term_166 (by decide) ?_
            refine zR_sub (lv' := [(0, .ref (w.1 + 88)), (2, .int x2), (3, .int x3), (4, .int (x4 + (-1))), (5, .int x5)]) [0, 1, 2, 3, 4] rfl ?_
            exact wX12_term_b188 F (fX12_term_l6 F n) ih V0 V1 V2 V3 V4 V5 V6 V7 x2 x3 (x4 + (-1)) x5 ((x4 + (-1)) - (1 : Int32)) (y14 + y17) _ h
          · have h := zif_f h c19
            refine zR_icmp_ne_t (tgt := 169) dX12_term_158 (by decide) c19 ?_
            refine zR_iload dX12_term_169 5 rfl ?_
            refine zR_iconst (x := (5 : Int32)) dX12_term_171 rfl ?_
            by_cases c20 : y9 = (5 : Int32)
            · have h := zif_t h c20
              refine zR_icmp_ne_f (tgt := 183) dX12_term_172 (by decide) c20 ?_
              refine zR_iload dX12_term_175 6 rfl ?_
              refine zR_iload dX12_term_177 7 rfl ?_
              refine zR_isub dX12_term_179 ?_
              refine zR_goto (tgt := 188) dX12_term_180 (by decide) ?_
              refine zR_sub (lv' := [(0, .ref (w.1 + 88)), (2, .int x2), (3, .int x3), (4, .int (x4 + (-1))), (5, .int x5)]) [0, 1, 2, 3, 4] rfl ?_
              exact wX12_term_b188 F (fX12_term_l6 F n) ih V0 V1 V2 V3 V4 V5 V6 V7 x2 x3 (x4 + (-1)) x5 ((x4 + (-1)) - (1 : Int32)) (y14 - y17) _ h
            · have h := zif_f h c20
              refine zR_icmp_ne_t (tgt := 183) dX12_term_172 (by decide) c20 ?_
              refine zR_iload dX12_term_183 6 rfl ?_
              refine zR_iload dX12_term_185 7 rfl ?_
              refine zR_imul dX12_term_187 ?_
              refine zR_sub (lv' := [(0, .ref (w.1 + 88)), (2, .int x2), (3, .int x3), (4, .int (x4 + (-1))), (5, .int x5)]) [0, 1, 2, 3, 4] rfl ?_
              exact wX12_term_b188 F (fX12_term_l6 F n) ih V0 V1 V2 V3 V4 V5 V6 V7 x2 x3 (x4 + (-1)) x5 ((x4 + (-1)) - (1 : Int32)) (y14 * y17) _ h
      · have h := zif_f h c11
        refine zR_icmp_ge_f (tgt := 95) dX12_term_24 (by decide) c11 ?_
        refine zR_aload_n dX12_term_27 0 rfl ?_
        refine zG_getR dX12_term_28 zf_X12_207 zd_88 rfl rfl ?_
        refine zR_iload dX12_term_31 3 rfl ?_
        refine zR_iload dX12_term_33 5 rfl ?_
        by_cases c25 : y9 = 0
        · have h := zif_t h c25
          refine zR_if_ne_f (tgt := 48) dX12_term_35 (by decide) c25 ?_
          refine zR_aload_n dX12_term_38 0 rfl ?_
          refine zG_getR dX12_term_39 zf_X12_130 zd_88 rfl rfl ?_
          refine zR_iload dX12_term_42 4 rfl ?_
          obtain ⟨g31, h⟩ := zchk_some h
          refine zG_iald dX12_term_44 zd_126 rfl rfl g31 ?_
          refine zR_goto (tgt := 88) dX12_term_45 (by decide) ?_
          refine zR_sub (lv' := [(0, .ref (w.1 + 88)), (2, .int x2), (3, .int x3), (4, .int x4), (5, .int x5)]) [0, 1, 2, 3, 4] rfl ?_
          exact wX12_term_b88 F (fX12_term_l6 F n) ih V0 V1 V2 V3 V4 V5 V6 V7 x2 x3 x4 x5 x4 (zA V7 38 (x5).toNatClampNeg) _ h
        · have h := zif_f h c25
          refine zR_if_ne_t (tgt := 48) dX12_term_35 (by decide) c25 ?_
          refine zR_iload dX12_term_48 5 rfl ?_
          refine zR_iconst (x := (1 : Int32)) dX12_term_50 rfl ?_
          by_cases c26 : y9 = (1 : Int32)
          · have h := zif_t h c26
            refine zR_icmp_ne_f (tgt := 69) dX12_term_51 (by decide) c26 ?_
            refine zR_aload_n dX12_term_54 0 rfl ?_
            refine zG_getR dX12_term_55 zf_X12_147 zd_88 rfl rfl ?_
            refine zR_aload_n dX12_term_58 0 rfl ?_
            refine zG_getR dX12_term_59 zf_X12_130 zd_88 rfl rfl ?_
            refine zR_iload dX12_term_62 4 rfl ?_
            obtain ⟨g29, h⟩ := zchk_some h
            refine zG_iald dX12_term_64 zd_126 rfl rfl g29 ?_
            obtain ⟨g30, h⟩ := zchk_some h
            refine zG_iald dX12_term_65 zd_131 rfl rfl g30 ?_
            refine zR_goto (tgt := 88) dX12_term_66 (by decide) ?_
            refine zR_sub (lv' := [(0, .ref (w.1 + 88)), (2, .int x2), (3, .int x3), (4, .int x4), (5, .int x5)]) [0, 1, 2, 3, 4] rfl ?_
            exact wX12_term_b88 F (fX12_term_l6 F n) ih V0 V1 V2 V3 V4 V5 V6 V7 x2 x3 x4 x5 x4 (zA V7 43 ((zA V7 38 (x5).toNatClampNeg)).toNatClampNeg) _ h
          · have h := zif_f h c26
            refine zR_icmp_ne_t (tgt := 69) dX12_term_51 (by decide) c26 ?_
            refine zR_iload dX12_term_69 5 rfl ?_
            refine zR_iconst (x := (2 : Int32)) dX12_term_71 rfl ?_
            by_cases c27 : y9 = (2 : Int32)
            · have h := zif_t h c27
              refine zR_icmp_ne_f (tgt := 84) dX12_term_72 (by decide) c27 ?_
              refine zR_aload_n dX12_term_75 0 rfl ?_
              refine zG_getR dX12_term_76 zf_X12_168 zd_88 rfl rfl ?_
              refine zR_iload_n dX12_term_79 2 rfl ?_
              obtain ⟨g28, h⟩ := zchk_some h
              refine zG_iald dX12_term_80 zd_138 rfl rfl g28 ?_
              refine zR_goto (tgt := 88) dX12_term_81 (by decide) ?_
              refine zR_sub (lv' := [(0, .ref (w.1 + 88)), (2, .int x2), (3, .int x3), (4, .int x4), (5, .int x5)]) [0, 1, 2, 3, 4] rfl ?_
              exact wX12_term_b88 F (fX12_term_l6 F n) ih V0 V1 V2 V3 V4 V5 V6 V7 x2 x3 x4 x5 x4 (zA V7 50 (x3).toNatClampNeg) _ h
            · have h := zif_f h c27
              refine zR_icmp_ne_t (tgt := 84) dX12_term_72 (by decide) c27 ?_
              refine zR_aload_n dX12_term_84 0 rfl ?_
              refine zG_getI dX12_term_85 zf_X12_382 zd_88 rfl rfl ?_
              refine zR_sub (lv' := [(0, .ref (w.1 + 88)), (2, .int x2), (3, .int x3), (4, .int x4), (5, .int x5)]) [0, 1, 2, 3, 4] rfl ?_
              exact wX12_term_b88 F (fX12_term_l6 F n) ih V0 V1 V2 V3 V4 V5 V6 V7 x2 x3 x4 x5 x4 (zI V7 0 67) _ h
set_option maxRecDepth 100000 in
set_option maxHeartbeats 4000000 in
theorem mX12_term {w : zW} (F : Nat) (V0 V1 V2 V3 V4 V5 V6 V7 : zV) (x1 : Int32) (x2 : Int32) (x3 : Int32) (res : Int32 × zV) (h : fX12_term F V7 x1 x2 x3 = some res) : zMet w kX12_term 0 0 0 [.ref (w.1 + 88), .int x1, .int x2, .int x3] (zE zds w [V0, V1, V2, V3, V4, V5, V6, V7]) (some (.int res.1)) (zE zds w [V0, V1, V2, V3, V4, V5, V6, res.2]) := by
  refine zMet_of (by decide) (Nat.le_of_ble_eq_true rfl) (Nat.le_refl 0) fun _ => ?_
  show zR w kX12_term 0 0 0 (some (.int res.1)) (zE zds w [V0, V1, V2, V3, V4, V5, V6, res.2]) 0 [(0, .ref (w.1 + 88)), (1, .int x1), (2, .int x2), (3, .int x3)] [] (zE zds w [V0, V1, V2, V3, V4, V5, V6, V7])
  unfold fX12_term at h
  refine zR_iconst (x := (0 : Int32)) dX12_term_0 rfl ?_
  refine zR_istore (lv' := [(0, .ref (w.1 + 88)), (1, .int x1), (2, .int x2), (3, .int x3), (4, .int (0 : Int32))]) dX12_term_1 (Nat.le_of_ble_eq_true rfl) rfl ?_
  refine zR_iload_n dX12_term_3 1 rfl ?_
  refine zR_istore (lv' := [(0, .ref (w.1 + 88)), (1, .int x1), (2, .int x2), (3, .int x3), (4, .int (0 : Int32)), (5, .int x1)]) dX12_term_4 (Nat.le_of_ble_eq_true rfl) rfl ?_
  refine zR_sub (lv' := [(0, .ref (w.1 + 88)), (2, .int x2), (3, .int x3), (4, .int (0 : Int32)), (5, .int x1)]) [0, 2, 3, 4, 5] rfl ?_
  exact wX12_term_l6 F F V0 V1 V2 V3 V4 V5 V6 V7 x2 x3 (0 : Int32) x1 _ h
set_option maxRecDepth 100000 in
set_option maxHeartbeats 4000000 in
theorem mX12_leaves {w : zW} (F : Nat) (V0 V1 V2 V3 V4 V5 V6 V7 : zV) (x1 : Int32) (res : zV) (h : fX12_leaves F V7 x1 = some res) : zMet w kX12_leaves 1 0 0 [.ref (w.1 + 88), .int x1] (zE zds w [V0, V1, V2, V3, V4, V5, V6, V7]) none (zE zds w [V0, V1, V2, V3, V4, V5, V6, res]) := by
  refine zMet_of (by decide) (Nat.le_of_ble_eq_true rfl) (Nat.le_refl 0) fun _ => ?_
  show zR w kX12_leaves 1 0 0 none (zE zds w [V0, V1, V2, V3, V4, V5, V6, res]) 0 [(0, .ref (w.1 + 88)), (1, .int x1)] [] (zE zds w [V0, V1, V2, V3, V4, V5, V6, V7])
  unfold fX12_leaves at h
  refine zR_aload_n dX12_leaves_0 0 rfl ?_
  refine zG_getR dX12_leaves_1 zf_X12_165 zd_88 rfl rfl ?_
  refine zR_iload_n dX12_leaves_4 1 rfl ?_
  obtain ⟨g1, h⟩ := zchk_some h
  refine zG_zald dX12_leaves_5 zd_137 rfl rfl g1 ?_
  by_cases c2 : (zA V7 49 (x1).toNatClampNeg) = 0
  · have h := zif_t h c2
    refine zR_if_ne_f (tgt := 10) dX12_leaves_6 (by decide) c2 ?_
    have h := Option.some.inj h
    subst h
    exact zR_ret dX12_leaves_9 rfl
  · have h := zif_f h c2
    refine zR_if_ne_t (tgt := 10) dX12_leaves_6 (by decide) c2 ?_
    refine zR_aload_n dX12_leaves_10 0 rfl ?_
    refine zG_getR dX12_leaves_11 zf_X12_165 zd_88 rfl rfl ?_
    refine zR_iload_n dX12_leaves_14 1 rfl ?_
    refine zR_iconst (x := (0 : Int32)) dX12_leaves_15 rfl ?_
    obtain ⟨g3, h⟩ := zchk_some h
    obtain ⟨V7_4, e5, h⟩ := zlet_some h
    refine zG_zast zds_ok dX12_leaves_16 zd_137 rfl rfl g3 e5 rfl ?_
    refine zR_aload_n dX12_leaves_17 0 rfl ?_
    refine zG_getR dX12_leaves_18 zf_X12_168 zd_88 rfl rfl ?_
    refine zR_iload_n dX12_leaves_21 1 rfl ?_
    refine zR_iconst (x := (0 : Int32)) dX12_leaves_22 rfl ?_
    obtain ⟨g6, h⟩ := zchk_some h
    obtain ⟨V7_7, e8, h⟩ := zlet_some h
    refine zG_iast zds_ok dX12_leaves_23 zd_138 rfl rfl g6 e8 rfl ?_
    refine zR_aload_n dX12_leaves_24 0 rfl ?_
    refine zG_getR dX12_leaves_25 zf_X12_174 zd_88 rfl rfl ?_
    refine zR_iload_n dX12_leaves_28 1 rfl ?_
    refine zR_dup2 dX12_leaves_29 rfl rfl ?_
    obtain ⟨g9, h⟩ := zchk_some h
    refine zG_iald dX12_leaves_30 zd_140 rfl rfl g9 ?_
    refine zR_iconst (x := (1 : Int32)) dX12_leaves_31 rfl ?_
    refine zR_iadd dX12_leaves_32 ?_
    obtain ⟨g10, h⟩ := zchk_some h
    obtain ⟨V7_11, e12, h⟩ := zlet_some h
    refine zG_iast zds_ok dX12_leaves_33 zd_140 rfl rfl g10 e12 rfl ?_
    refine zR_aload_n dX12_leaves_34 0 rfl ?_
    obtain ⟨q13, hq14, h⟩ := zbd_some h
    refine zR_cV (rest := []) (st1 := [.int q13]) dX12_leaves_35 (mX12_deep F V0 V1 V2 V3 V4 V5 V6 V7_11 _ hq14) zc_X12_439 rfl (zE_at zd_88) ⟨_, _, rfl⟩ rfl (Nat.le_of_ble_eq_true rfl) (Nat.le_of_ble_eq_true rfl) rfl ?_
    refine zR_bipush (x := (8 : Int32)) dX12_leaves_38 rfl ?_
    by_cases c15 : (8 : Int32) ≤ q13
    · have h := zif_t h c15
      refine zR_icmp_ge_t (tgt := 50) dX12_leaves_40 (by decide) c15 ?_
      have h := Option.some.inj h
      subst h
      exact zR_ret dX12_leaves_50 rfl
    · have h := zif_f h c15
      refine zR_icmp_ge_f (tgt := 50) dX12_leaves_40 (by decide) c15 ?_
      refine zR_aload_n dX12_leaves_43 0 rfl ?_
      refine zR_iload_n dX12_leaves_44 1 rfl ?_
      refine zR_bipush (x := (-2 : Int32)) dX12_leaves_45 (by decide) ?_
      obtain ⟨q16, hq17, h⟩ := zbd_some h
      refine zR_cV (rest := []) (st1 := []) dX12_leaves_47 (mX12_frame F V0 V1 V2 V3 V4 V5 V6 V7_11 x1 (-2 : Int32) _ hq17) zc_X12_443 rfl (zE_at zd_88) ⟨_, _, rfl⟩ rfl (Nat.le_of_ble_eq_true rfl) (Nat.le_of_ble_eq_true rfl) rfl ?_
      have h := Option.some.inj h
      subst h
      exact zR_ret dX12_leaves_50 rfl
set_option maxRecDepth 100000 in
set_option maxHeartbeats 4000000 in
theorem wX12_drains_b70 {w : zW} (F : Nat) (k30 : zV → Int32 → Int32 → Option (zV)) (hk30 : ∀ (V0 V1 V2 V3 V4 V5 V6 V7 : zV) (x1 : Int32) (x2 : Int32) (res : zV), k30 V7 x1 x2 = some res → zR w kX12_drains 2 0 0 none (zE zds w [V0, V1, V2, V3, V4, V5, V6, res]) 30 [(0, .ref (w.1 + 88)), (1, .int x1), (2, .int x2)] [] (zE zds w [V0, V1, V2, V3, V4, V5, V6, V7])) (V0 V1 V2 V3 V4 V5 V6 V7 : zV) (x1 : Int32) (x2 : Int32) (res : zV) (h : fX12_drains_b70 F k30 V7 x1 x2 = some res) : zR w kX12_drains 2 0 0 none (zE zds w [V0, V1, V2, V3, V4, V5, V6, res]) 70 [(0, .ref (w.1 + 88)), (1, .int x1), (2, .int x2)] [] (zE zds w [V0, V1, V2, V3, V4, V5, V6, V7]) := by
  unfold fX12_drains_b70 at h
  refine zR_iinc (u := (x2 + 1)) (lv' := [(0, .ref (w.1 + 88)), (1, .int x1), (2, .int (x2 + 1))]) dX12_drains_70 2 rfl rfl (Nat.le_of_ble_eq_true rfl) rfl ?_
  refine zR_goto (tgt := 30) dX12_drains_73 (by decide) ?_
  exact hk30 V0 V1 V2 V3 V4 V5 V6 V7 x1 (x2 + 1) _ h
set_option maxRecDepth 100000 in
set_option maxHeartbeats 4000000 in
theorem wX12_drains_l30 {w : zW} (F : Nat) (k20 : zV → Int32 → Option (zV)) (hk20 : ∀ (V0 V1 V2 V3 V4 V5 V6 V7 : zV) (x1 : Int32) (res : zV), k20 V7 x1 = some res → zR w kX12_drains 2 0 0 none (zE zds w [V0, V1, V2, V3, V4, V5, V6, res]) 20 [(0, .ref (w.1 + 88)), (1, .int x1)] [] (zE zds w [V0, V1, V2, V3, V4, V5, V6, V7])) : ∀ (n : Nat) (V0 V1 V2 V3 V4 V5 V6 V7 : zV) (x1 : Int32) (x2 : Int32) (res : zV), fX12_drains_l30 F k20 n V7 x1 x2 = some res → zR w kX12_drains 2 0 0 none (zE zds w [V0, V1, V2, V3, V4, V5, V6, res]) 30 [(0, .ref (w.1 + 88)), (1, .int x1), (2, .int x2)] [] (zE zds w [V0, V1, V2, V3, V4, V5, V6, V7]) := by
  intro n
  induction n with
  | zero =>
    intro V0 V1 V2 V3 V4 V5 V6 V7 x1 x2 res h
    simp [fX12_drains_l30] at h
  | succ n ih =>
    intro V0 V1 V2 V3 V4 V5 V6 V7 x1 x2 res h
    rw [fX12_drains_l30] at h
    refine zR_iload_n dX12_drains_30 2 rfl ?_
    refine zR_aload_n dX12_drains_31 0 rfl ?_
    refine zR_iconst (x := (4 : Int32)) dX12_drains_32 rfl ?_
    obtain ⟨q1, hq2, h⟩ := zbd_some h
    refine zR_cV (rest := [.int x2]) (st1 := [.int q1, .int x2]) dX12_drains_33 (mX12_sort F V0 V1 V2 V3 V4 V5 V6 V7 (4 : Int32) _ hq2) zc_X12_370 rfl (zE_at zd_88) ⟨_, _, rfl⟩ rfl (Nat.le_of_ble_eq_true rfl) (Nat.le_of_ble_eq_true rfl) rfl ?_
    by_cases c3 : q1 ≤ x2
    · have h := zif_t h c3
      refine zR_icmp_ge_t (tgt := 76) dX12_drains_36 (by decide) c3 ?_
      refine zR_iinc (u := (x1 + 1)) (lv' := [(0, .ref (w.1 + 88)), (1, .int (x1 + 1)), (2, .int x2)]) dX12_drains_76 1 rfl rfl (Nat.le_of_ble_eq_true rfl) rfl ?_
      refine zR_goto (tgt := 20) dX12_drains_79 (by decide) ?_
      refine zR_sub (lv' := [(0, .ref (w.1 + 88)), (1, .int (x1 + 1))]) [0, 1] rfl ?_
      exact hk20 V0 V1 V2 V3 V4 V5 V6 V7 (x1 + 1) _ h
    · have h := zif_f h c3
      refine zR_icmp_ge_f (tgt := 76) dX12_drains_36 (by decide) c3 ?_
      refine zR_aload_n dX12_drains_39 0 rfl ?_
      refine zG_getR dX12_drains_40 zf_X12_136 zd_88 rfl rfl ?_
      refine zR_iload_n dX12_drains_43 1 rfl ?_
      obtain ⟨g4, h⟩ := zchk_some h
      refine zG_iald dX12_drains_44 zd_128 rfl rfl g4 ?_
      refine zR_iconst (x := (2 : Int32)) dX12_drains_45 rfl ?_
      refine zR_iload_n dX12_drains_46 2 rfl ?_
      refine zR_imul dX12_drains_47 ?_
      refine zR_ishr dX12_drains_48 ?_
      refine zR_iconst (x := (3 : Int32)) dX12_drains_49 rfl ?_
      refine zR_iand dX12_drains_50 ?_
      by_cases c5 : (((zA V7 40 (x1).toNatClampNeg) >>> (((2 : Int32) * x2) &&& 31)) &&& (3 : Int32)) ≤ 0
      · have h := zif_t h c5
        refine zR_if_le_t (tgt := 70) dX12_drains_51 (by decide) c5 ?_
        exact wX12_drains_b70 F (fX12_drains_l30 F k20 n) ih V0 V1 V2 V3 V4 V5 V6 V7 x1 x2 _ h
      · have h := zif_f h c5
        refine zR_if_le_f (tgt := 70) dX12_drains_51 (by decide) c5 ?_
        refine zR_aload_n dX12_drains_54 0 rfl ?_
        refine zR_aload_n dX12_drains_55 0 rfl ?_
        refine zG_getR dX12_drains_56 zf_X12_136 zd_88 rfl rfl ?_
        refine zR_iload_n dX12_drains_59 1 rfl ?_
        obtain ⟨g6, h⟩ := zchk_some h
        refine zG_iald dX12_drains_60 zd_128 rfl rfl g6 ?_
        refine zR_iconst (x := (1 : Int32)) dX12_drains_61 rfl ?_
        refine zR_iconst (x := (2 : Int32)) dX12_drains_62 rfl ?_
        refine zR_iload_n dX12_drains_63 2 rfl ?_
        refine zR_imul dX12_drains_64 ?_
        refine zR_ishl dX12_drains_65 ?_
        refine zR_isub dX12_drains_66 ?_
        obtain ⟨q7, hq8, h⟩ := zbd_some h
        refine zR_cV (rest := []) (st1 := []) dX12_drains_67 (mX12_comes F V0 V1 V2 V3 V4 V5 V6 V7 ((zA V7 40 (x1).toNatClampNeg) - ((1 : Int32) <<< (((2 : Int32) * x2) &&& 31))) _ hq8) zc_X12_373 rfl (zE_at zd_88) ⟨_, _, rfl⟩ rfl (Nat.le_of_ble_eq_true rfl) (Nat.le_of_ble_eq_true rfl) rfl ?_
        exact wX12_drains_b70 F (fX12_drains_l30 F k20 n) ih V0 V1 V2 V3 V4 V5 V6 q7 x1 x2 _ h
set_option maxRecDepth 100000 in
set_option maxHeartbeats 4000000 in
theorem wX12_drains_l20 {w : zW} (F : Nat) : ∀ (n : Nat) (V0 V1 V2 V3 V4 V5 V6 V7 : zV) (x1 : Int32) (res : zV), fX12_drains_l20 F n V7 x1 = some res → zR w kX12_drains 2 0 0 none (zE zds w [V0, V1, V2, V3, V4, V5, V6, res]) 20 [(0, .ref (w.1 + 88)), (1, .int x1)] [] (zE zds w [V0, V1, V2, V3, V4, V5, V6, V7]) := by
  intro n
  induction n with
  | zero =>
    intro V0 V1 V2 V3 V4 V5 V6 V7 x1 res h
    simp [fX12_drains_l20] at h
  | succ n ih =>
    intro V0 V1 V2 V3 V4 V5 V6 V7 x1 res h
    rw [fX12_drains_l20] at h
    refine zR_iload_n dX12_drains_20 1 rfl ?_
    refine zR_aload_n dX12_drains_21 0 rfl ?_
    refine zG_getI dX12_drains_22 zf_X12_376 zd_88 rfl rfl ?_
    by_cases c9 : (zI V7 0 59) ≤ x1
    · have h := zif_t h c9
      refine zR_icmp_ge_t (tgt := 82) dX12_drains_25 (by decide) c9 ?_
      refine zR_aload_n dX12_drains_82 0 rfl ?_
      obtain ⟨q10, hq11, h⟩ := zbd_some h
      refine zR_cV (rest := []) (st1 := []) dX12_drains_83 (mX12_knows F V0 V1 V2 V3 V4 V5 V6 V7 _ hq11) zc_X12_379 rfl (zE_at zd_88) ⟨_, _, rfl⟩ rfl (Nat.le_of_ble_eq_true rfl) (Nat.le_of_ble_eq_true rfl) rfl ?_
      have h := Option.some.inj h
      subst h
      exact zR_ret dX12_drains_86 rfl
    · have h := zif_f h c9
      refine zR_icmp_ge_f (tgt := 82) dX12_drains_25 (by decide) c9 ?_
      refine zR_iconst (x := (0 : Int32)) dX12_drains_28 rfl ?_
      refine zR_istore_n (lv' := [(0, .ref (w.1 + 88)), (1, .int x1), (2, .int (0 : Int32))]) dX12_drains_29 (Nat.le_of_ble_eq_true rfl) rfl ?_
      exact wX12_drains_l30 F (fX12_drains_l20 F n) ih F V0 V1 V2 V3 V4 V5 V6 V7 x1 (0 : Int32) _ h
set_option maxRecDepth 100000 in
set_option maxHeartbeats 4000000 in
theorem mX12_drains {w : zW} (F : Nat) (V0 V1 V2 V3 V4 V5 V6 V7 : zV) (res : zV) (h : fX12_drains F V7 = some res) : zMet w kX12_drains 2 0 0 [.ref (w.1 + 88)] (zE zds w [V0, V1, V2, V3, V4, V5, V6, V7]) none (zE zds w [V0, V1, V2, V3, V4, V5, V6, res]) := by
  refine zMet_of (by decide) (Nat.le_of_ble_eq_true rfl) (Nat.le_refl 0) fun _ => ?_
  show zR w kX12_drains 2 0 0 none (zE zds w [V0, V1, V2, V3, V4, V5, V6, res]) 0 [(0, .ref (w.1 + 88))] [] (zE zds w [V0, V1, V2, V3, V4, V5, V6, V7])
  unfold fX12_drains at h
  refine zR_aload_n dX12_drains_0 0 rfl ?_
  refine zG_getI dX12_drains_1 zf_X12_382 zd_88 rfl rfl ?_
  by_cases c12 : (zI V7 0 67) = 0
  · have h := zif_t h c12
    refine zR_if_ne_f (tgt := 8) dX12_drains_4 (by decide) c12 ?_
    have h := Option.some.inj h
    subst h
    exact zR_ret dX12_drains_7 rfl
  · have h := zif_f h c12
    refine zR_if_ne_t (tgt := 8) dX12_drains_4 (by decide) c12 ?_
    refine zR_aload_n dX12_drains_8 0 rfl ?_
    refine zR_dup dX12_drains_9 rfl ?_
    refine zG_getI dX12_drains_10 zf_X12_382 zd_88 rfl rfl ?_
    refine zR_iconst (x := (1 : Int32)) dX12_drains_13 rfl ?_
    refine zR_isub dX12_drains_14 ?_
    obtain ⟨V7_13, e14, h⟩ := zlet_some h
    refine zG_putI zds_ok dX12_drains_15 zf_X12_382 zt_X12_67 zd_88 rfl rfl e14 rfl ?_
    refine zR_iconst (x := (0 : Int32)) dX12_drains_18 rfl ?_
    refine zR_istore_n (lv' := [(0, .ref (w.1 + 88)), (1, .int (0 : Int32))]) dX12_drains_19 (Nat.le_of_ble_eq_true rfl) rfl ?_
    exact wX12_drains_l20 F F V0 V1 V2 V3 V4 V5 V6 V7_13 (0 : Int32) _ h
set_option maxRecDepth 100000 in
set_option maxHeartbeats 4000000 in
theorem wX12_offs_b31 {w : zW} (F : Nat) (k2 : zV → Int32 → Option (zV)) (hk2 : ∀ (V0 V1 V2 V3 V4 V5 V6 V7 : zV) (x1 : Int32) (res : zV), k2 V7 x1 = some res → zR w kX12_offs 1 0 0 none (zE zds w [V0, V1, V2, V3, V4, V5, V6, res]) 2 [(0, .ref (w.1 + 88)), (1, .int x1)] [] (zE zds w [V0, V1, V2, V3, V4, V5, V6, V7])) (V0 V1 V2 V3 V4 V5 V6 V7 : zV) (x1 : Int32) (res : zV) (h : fX12_offs_b31 F k2 V7 x1 = some res) : zR w kX12_offs 1 0 0 none (zE zds w [V0, V1, V2, V3, V4, V5, V6, res]) 31 [(0, .ref (w.1 + 88)), (1, .int x1)] [] (zE zds w [V0, V1, V2, V3, V4, V5, V6, V7]) := by
  unfold fX12_offs_b31 at h
  refine zR_aload_n dX12_offs_31 0 rfl ?_
  refine zG_getR dX12_offs_32 zf_X12_165 zd_88 rfl rfl ?_
  refine zR_iload_n dX12_offs_35 1 rfl ?_
  refine zR_iconst (x := (0 : Int32)) dX12_offs_36 rfl ?_
  obtain ⟨g1, h⟩ := zchk_some h
  obtain ⟨V7_2, e3, h⟩ := zlet_some h
  refine zG_zast zds_ok dX12_offs_37 zd_137 rfl rfl g1 e3 rfl ?_
  refine zR_aload_n dX12_offs_38 0 rfl ?_
  refine zG_getR dX12_offs_39 zf_X12_168 zd_88 rfl rfl ?_
  refine zR_iload_n dX12_offs_42 1 rfl ?_
  refine zR_iconst (x := (0 : Int32)) dX12_offs_43 rfl ?_
  obtain ⟨g4, h⟩ := zchk_some h
  obtain ⟨V7_5, e6, h⟩ := zlet_some h
  refine zG_iast zds_ok dX12_offs_44 zd_138 rfl rfl g4 e6 rfl ?_
  refine zR_iinc (u := (x1 + 1)) (lv' := [(0, .ref (w.1 + 88)), (1, .int (x1 + 1))]) dX12_offs_45 1 rfl rfl (Nat.le_of_ble_eq_true rfl) rfl ?_
  refine zR_goto (tgt := 2) dX12_offs_48 (by decide) ?_
  exact hk2 V0 V1 V2 V3 V4 V5 V6 V7_5 (x1 + 1) _ h
set_option maxRecDepth 100000 in
set_option maxHeartbeats 4000000 in
theorem wX12_offs_l2 {w : zW} (F : Nat) : ∀ (n : Nat) (V0 V1 V2 V3 V4 V5 V6 V7 : zV) (x1 : Int32) (res : zV), fX12_offs_l2 F n V7 x1 = some res → zR w kX12_offs 1 0 0 none (zE zds w [V0, V1, V2, V3, V4, V5, V6, res]) 2 [(0, .ref (w.1 + 88)), (1, .int x1)] [] (zE zds w [V0, V1, V2, V3, V4, V5, V6, V7]) := by
  intro n
  induction n with
  | zero =>
    intro V0 V1 V2 V3 V4 V5 V6 V7 x1 res h
    simp [fX12_offs_l2] at h
  | succ n ih =>
    intro V0 V1 V2 V3 V4 V5 V6 V7 x1 res h
    rw [fX12_offs_l2] at h
    refine zR_iload_n dX12_offs_2 1 rfl ?_
    refine zR_aload_n dX12_offs_3 0 rfl ?_
    refine zR_bipush (x := (7 : Int32)) dX12_offs_4 rfl ?_
    obtain ⟨q7, hq8, h⟩ := zbd_some h
    refine zR_cV (rest := [.int x1]) (st1 := [.int q7, .int x1]) dX12_offs_6 (mX12_sort F V0 V1 V2 V3 V4 V5 V6 V7 (7 : Int32) _ hq8) zc_X12_370 rfl (zE_at zd_88) ⟨_, _, rfl⟩ rfl (Nat.le_of_ble_eq_true rfl) (Nat.le_of_ble_eq_true rfl) rfl ?_
    by_cases c9 : q7 ≤ x1
    · have h := zif_t h c9
      refine zR_icmp_ge_t (tgt := 51) dX12_offs_9 (by decide) c9 ?_
      have h := Option.some.inj h
      subst h
      exact zR_ret dX12_offs_51 rfl
    · have h := zif_f h c9
      refine zR_icmp_ge_f (tgt := 51) dX12_offs_9 (by decide) c9 ?_
      refine zR_aload_n dX12_offs_12 0 rfl ?_
      refine zG_getR dX12_offs_13 zf_X12_165 zd_88 rfl rfl ?_
      refine zR_iload_n dX12_offs_16 1 rfl ?_
      obtain ⟨g10, h⟩ := zchk_some h
      refine zG_zald dX12_offs_17 zd_137 rfl rfl g10 ?_
      by_cases c11 : (zA V7 49 (x1).toNatClampNeg) = 0
      · have h := zif_t h c11
        refine zR_if_eq_t (tgt := 31) dX12_offs_18 (by decide) c11 ?_
        exact wX12_offs_b31 F (fX12_offs_l2 F n) ih V0 V1 V2 V3 V4 V5 V6 V7 x1 _ h
      · have h := zif_f h c11
        refine zR_if_eq_f (tgt := 31) dX12_offs_18 (by decide) c11 ?_
        refine zR_aload_n dX12_offs_21 0 rfl ?_
        refine zG_getR dX12_offs_22 zf_X12_174 zd_88 rfl rfl ?_
        refine zR_iload_n dX12_offs_25 1 rfl ?_
        refine zR_dup2 dX12_offs_26 rfl rfl ?_
        obtain ⟨g12, h⟩ := zchk_some h
        refine zG_iald dX12_offs_27 zd_140 rfl rfl g12 ?_
        refine zR_iconst (x := (1 : Int32)) dX12_offs_28 rfl ?_
        refine zR_iadd dX12_offs_29 ?_
        obtain ⟨g13, h⟩ := zchk_some h
        obtain ⟨V7_14, e15, h⟩ := zlet_some h
        refine zG_iast zds_ok dX12_offs_30 zd_140 rfl rfl g13 e15 rfl ?_
        exact wX12_offs_b31 F (fX12_offs_l2 F n) ih V0 V1 V2 V3 V4 V5 V6 V7_14 x1 _ h
set_option maxRecDepth 100000 in
set_option maxHeartbeats 4000000 in
theorem mX12_offs {w : zW} (F : Nat) (V0 V1 V2 V3 V4 V5 V6 V7 : zV) (res : zV) (h : fX12_offs F V7 = some res) : zMet w kX12_offs 1 0 0 [.ref (w.1 + 88)] (zE zds w [V0, V1, V2, V3, V4, V5, V6, V7]) none (zE zds w [V0, V1, V2, V3, V4, V5, V6, res]) := by
  refine zMet_of (by decide) (Nat.le_of_ble_eq_true rfl) (Nat.le_refl 0) fun _ => ?_
  show zR w kX12_offs 1 0 0 none (zE zds w [V0, V1, V2, V3, V4, V5, V6, res]) 0 [(0, .ref (w.1 + 88))] [] (zE zds w [V0, V1, V2, V3, V4, V5, V6, V7])
  unfold fX12_offs at h
  refine zR_iconst (x := (1 : Int32)) dX12_offs_0 rfl ?_
  refine zR_istore_n (lv' := [(0, .ref (w.1 + 88)), (1, .int (1 : Int32))]) dX12_offs_1 (Nat.le_of_ble_eq_true rfl) rfl ?_
  exact wX12_offs_l2 F F V0 V1 V2 V3 V4 V5 V6 V7 (1 : Int32) _ h
set_option maxRecDepth 100000 in
set_option maxHeartbeats 4000000 in
theorem wX12_does_l161 {w : zW} (F : Nat) : ∀ (n : Nat) (V0 V1 V2 V3 V4 V5 V6 V7 : zV) (x1 : Int32) (x4 : Int32) (res : zV), fX12_does_l161 F n V7 x1 x4 = some res → zR w kX12_does 3 0 0 none (zE zds w [V0, V1, V2, V3, V4, V5, V6, res]) 161 [(0, .ref (w.1 + 88)), (1, .int x1), (4, .int x4)] [] (zE zds w [V0, V1, V2, V3, V4, V5, V6, V7]) := by
  intro n
  induction n with
  | zero =>
    intro V0 V1 V2 V3 V4 V5 V6 V7 x1 x4 res h
    simp [fX12_does_l161] at h
  | succ n ih =>
    intro V0 V1 V2 V3 V4 V5 V6 V7 x1 x4 res h
    rw [fX12_does_l161] at h
    refine zR_iload dX12_does_161 2 rfl ?_
    refine zR_aload_n dX12_does_163 0 rfl ?_
    refine zG_getI dX12_does_164 zf_X12_407 zd_88 rfl rfl ?_
    by_cases c1 : (zI V7 0 85) ≤ x4
    · have h := zif_t h c1
      refine zR_icmp_ge_t (tgt := 193) dX12_does_167 (by decide) c1 ?_
      refine zR_aload_n dX12_does_193 0 rfl ?_
      refine zG_getR dX12_does_194 zf_X12_183 zd_88 rfl rfl ?_
      refine zR_aload_n dX12_does_197 0 rfl ?_
      refine zG_getI dX12_does_198 zf_X12_407 zd_88 rfl rfl ?_
      refine zR_aload_n dX12_does_201 0 rfl ?_
      refine zG_getR dX12_does_202 zf_X12_112 zd_88 rfl rfl ?_
      refine zR_iload_n dX12_does_205 1 rfl ?_
      obtain ⟨g2, h⟩ := zchk_some h
      refine zG_iald dX12_does_206 zd_120 rfl rfl g2 ?_
      obtain ⟨g3, h⟩ := zchk_some h
      obtain ⟨V7_4, e5, h⟩ := zlet_some h
      refine zG_iast zds_ok dX12_does_207 zd_143 rfl rfl g3 e5 rfl ?_
      refine zR_aload_n dX12_does_208 0 rfl ?_
      refine zR_dup dX12_does_209 rfl ?_
      refine zG_getI dX12_does_210 zf_X12_407 zd_88 rfl rfl ?_
      refine zR_iconst (x := (1 : Int32)) dX12_does_213 rfl ?_
      refine zR_iadd dX12_does_214 ?_
      obtain ⟨V7_6, e7, h⟩ := zlet_some h
      refine zG_putI zds_ok dX12_does_215 zf_X12_407 zt_X12_85 zd_88 rfl rfl e7 rfl ?_
      refine zR_goto (tgt := 261) dX12_does_218 (by decide) ?_
      have h := Option.some.inj h
      subst h
      exact zR_ret dX12_does_261 rfl
    · have h := zif_f h c1
      refine zR_icmp_ge_f (tgt := 193) dX12_does_167 (by decide) c1 ?_
      refine zR_aload_n dX12_does_170 0 rfl ?_
      refine zG_getR dX12_does_171 zf_X12_183 zd_88 rfl rfl ?_
      refine zR_iload dX12_does_174 2 rfl ?_
      obtain ⟨g8, h⟩ := zchk_some h
      refine zG_iald dX12_does_176 zd_143 rfl rfl g8 ?_
      refine zR_aload_n dX12_does_177 0 rfl ?_
      refine zG_getR dX12_does_178 zf_X12_112 zd_88 rfl rfl ?_
      refine zR_iload_n dX12_does_181 1 rfl ?_
      obtain ⟨g9, h⟩ := zchk_some h
      refine zG_iald dX12_does_182 zd_120 rfl rfl g9 ?_
      by_cases c10 : (zA V7 55 (x4).toNatClampNeg) = (zA V7 32 (x1).toNatClampNeg)
      · have h := zif_t h c10
        refine zR_icmp_ne_f (tgt := 187) dX12_does_183 (by decide) c10 ?_
        have h := Option.some.inj h
        subst h
        exact zR_ret dX12_does_186 rfl
      · have h := zif_f h c10
        refine zR_icmp_ne_t (tgt := 187) dX12_does_183 (by decide) c10 ?_
        refine zR_iinc (u := (x4 + 1)) (lv' := [(0, .ref (w.1 + 88)), (1, .int x1), (4, .int (x4 + 1))]) dX12_does_187 2 rfl rfl (Nat.le_of_ble_eq_true rfl) rfl ?_
        refine zR_goto (tgt := 161) dX12_does_190 (by decide) ?_
        exact ih V0 V1 V2 V3 V4 V5 V6 V7 x1 (x4 + 1) _ h
set_option maxRecDepth 100000 in
set_option maxHeartbeats 4000000 in
theorem mX12_does {w : zW} (F : Nat) (V0 V1 V2 V3 V4 V5 V6 V7 : zV) (x1 : Int32) (x2 : Int32) (x3 : Int32) (res : zV) (h : fX12_does F V7 x1 x2 x3 = some res) : zMet w kX12_does 3 0 0 [.ref (w.1 + 88), .int x1, .int x2, .int x3] (zE zds w [V0, V1, V2, V3, V4, V5, V6, V7]) none (zE zds w [V0, V1, V2, V3, V4, V5, V6, res]) := by
  refine zMet_of (by decide) (Nat.le_of_ble_eq_true rfl) (Nat.le_refl 0) fun _ => ?_
  show zR w kX12_does 3 0 0 none (zE zds w [V0, V1, V2, V3, V4, V5, V6, res]) 0 [(0, .ref (w.1 + 88)), (1, .int x1), (2, .int x2), (3, .int x3)] [] (zE zds w [V0, V1, V2, V3, V4, V5, V6, V7])
  unfold fX12_does at h
  refine zR_aload_n dX12_does_0 0 rfl ?_
  refine zG_getR dX12_does_1 zf_X12_109 zd_88 rfl rfl ?_
  refine zR_iload_n dX12_does_4 1 rfl ?_
  obtain ⟨g11, h⟩ := zchk_some h
  refine zG_iald dX12_does_5 zd_119 rfl rfl g11 ?_
  by_cases c12 : (zA V7 31 (x1).toNatClampNeg) = (35 : Int32)
  · have h := zif_t h c12
    refine zR_tabc (tgt := 52) dX12_does_6 c12 rfl (by decide) ?_
    refine zR_aload_n dX12_does_52 0 rfl ?_
    refine zG_getI dX12_does_53 zf_X12_401 zd_88 rfl rfl ?_
    by_cases c13 : (zI V7 0 71) = 0
    · have h := zif_t h c13
      refine zR_if_eq_t (tgt := 62) dX12_does_56 (by decide) c13 ?_
      refine zR_aload_n dX12_does_62 0 rfl ?_
      refine zR_dup dX12_does_63 rfl ?_
      refine zG_getL dX12_does_64 zf_X12_388 zd_88 rfl rfl ?_
      refine zR_aload_n dX12_does_67 0 rfl ?_
      refine zR_aload_n dX12_does_68 0 rfl ?_
      refine zG_getR dX12_does_69 zf_X12_115 zd_88 rfl rfl ?_
      refine zR_iload_n dX12_does_72 1 rfl ?_
      obtain ⟨g14, h⟩ := zchk_some h
      refine zG_iald dX12_does_73 zd_121 rfl rfl g14 ?_
      refine zR_aload_n dX12_does_74 0 rfl ?_
      refine zG_getR dX12_does_75 zf_X12_118 zd_88 rfl rfl ?_
      refine zR_iload_n dX12_does_78 1 rfl ?_
      obtain ⟨g15, h⟩ := zchk_some h
      refine zG_iald dX12_does_79 zd_122 rfl rfl g15 ?_
      refine zR_iload_n dX12_does_80 2 rfl ?_
      obtain ⟨q16, hq17, h⟩ := zbd_some h
      refine zR_cV (rest := [.long (zL V7 0 65), .ref (w.1 + 88)]) (st1 := [.int q16.1, .long (zL V7 0 65), .ref (w.1 + 88)]) dX12_does_81 (mX12_term F V0 V1 V2 V3 V4 V5 V6 V7 (zA V7 33 (x1).toNatClampNeg) (zA V7 34 (x1).toNatClampNeg) x2 _ hq17) zc_X12_446 rfl (zE_at zd_88) ⟨_, _, rfl⟩ rfl (Nat.le_of_ble_eq_true rfl) (Nat.le_of_ble_eq_true rfl) rfl ?_
      refine zR_i2l dX12_does_84 ?_
      refine zR_ladd dX12_does_85 ?_
      obtain ⟨V7_18, e19, h⟩ := zlet_some h
      refine zG_putL zds_ok dX12_does_86 zf_X12_388 zt_X12_65 zd_88 rfl rfl e19 rfl ?_
      refine zR_aload_n dX12_does_89 0 rfl ?_
      refine zG_getL dX12_does_90 zf_X12_388 zd_88 rfl rfl ?_
      refine zR_lconst (x := (0 : Int64)) dX12_does_93 rfl ?_
      refine zR_lcmp dX12_does_94 ?_
      by_cases c20 : 0 ≤ (lg_cmp (zL V7_18 0 65) (0 : Int64))
      · have h := zif_t h c20
        refine zR_if_ge_t (tgt := 261) dX12_does_95 (by decide) c20 ?_
        have h := Option.some.inj h
        subst h
        exact zR_ret dX12_does_261 rfl
      · have h := zif_f h c20
        refine zR_if_ge_f (tgt := 261) dX12_does_95 (by decide) c20 ?_
        refine zR_aload_n dX12_does_98 0 rfl ?_
        refine zR_lconst (x := (0 : Int64)) dX12_does_99 rfl ?_
        obtain ⟨V7_21, e22, h⟩ := zlet_some h
        refine zG_putL zds_ok dX12_does_100 zf_X12_388 zt_X12_65 zd_88 rfl rfl e22 rfl ?_
        refine zR_goto (tgt := 261) dX12_does_103 (by decide) ?_
        have h := Option.some.inj h
        subst h
        exact zR_ret dX12_does_261 rfl
    · have h := zif_f h c13
      refine zR_if_eq_f (tgt := 62) dX12_does_56 (by decide) c13 ?_
      refine zR_goto (tgt := 261) dX12_does_59 (by decide) ?_
      have h := Option.some.inj h
      subst h
      exact zR_ret dX12_does_261 rfl
  · have h := zif_f h c12
    by_cases c23 : (zA V7 31 (x1).toNatClampNeg) = (36 : Int32)
    · have h := zif_t h c23
      refine zR_tabc (tgt := 106) dX12_does_6 c23 rfl (by decide) ?_
      refine zR_aload_n dX12_does_106 0 rfl ?_
      refine zG_getR dX12_does_107 zf_X12_147 zd_88 rfl rfl ?_
      refine zR_aload_n dX12_does_110 0 rfl ?_
      refine zG_getR dX12_does_111 zf_X12_112 zd_88 rfl rfl ?_
      refine zR_iload_n dX12_does_114 1 rfl ?_
      obtain ⟨g24, h⟩ := zchk_some h
      refine zG_iald dX12_does_115 zd_120 rfl rfl g24 ?_
      refine zR_aload_n dX12_does_116 0 rfl ?_
      refine zR_aload_n dX12_does_117 0 rfl ?_
      refine zG_getR dX12_does_118 zf_X12_115 zd_88 rfl rfl ?_
      refine zR_iload_n dX12_does_121 1 rfl ?_
      obtain ⟨g25, h⟩ := zchk_some h
      refine zG_iald dX12_does_122 zd_121 rfl rfl g25 ?_
      refine zR_aload_n dX12_does_123 0 rfl ?_
      refine zG_getR dX12_does_124 zf_X12_118 zd_88 rfl rfl ?_
      refine zR_iload_n dX12_does_127 1 rfl ?_
      obtain ⟨g26, h⟩ := zchk_some h
      refine zG_iald dX12_does_128 zd_122 rfl rfl g26 ?_
      refine zR_iload_n dX12_does_129 2 rfl ?_
      obtain ⟨q27, hq28, h⟩ := zbd_some h
      refine zR_cV (rest := [.int (zA V7 32 (x1).toNatClampNeg), .ref (w.1 + 131)]) (st1 := [.int q27.1, .int (zA V7 32 (x1).toNatClampNeg), .ref (w.1 + 131)]) dX12_does_130 (mX12_term F V0 V1 V2 V3 V4 V5 V6 V7 (zA V7 33 (x1).toNatClampNeg) (zA V7 34 (x1).toNatClampNeg) x2 _ hq28) zc_X12_446 rfl (zE_at zd_88) ⟨_, _, rfl⟩ rfl (Nat.le_of_ble_eq_true rfl) (Nat.le_of_ble_eq_true rfl) rfl ?_
      obtain ⟨g29, h⟩ := zchk_some h
      obtain ⟨V7_30, e31, h⟩ := zlet_some h
      refine zG_iast zds_ok dX12_does_133 zd_131 rfl rfl g29 e31 rfl ?_
      refine zR_goto (tgt := 261) dX12_does_134 (by decide) ?_
      have h := Option.some.inj h
      subst h
      exact zR_ret dX12_does_261 rfl
    · have h := zif_f h c23
      by_cases c32 : (zA V7 31 (x1).toNatClampNeg) = (37 : Int32)
      · have h := zif_t h c32
        refine zR_tabc (tgt := 137) dX12_does_6 c32 rfl (by decide) ?_
        refine zR_aload_n dX12_does_137 0 rfl ?_
        refine zR_aload_n dX12_does_138 0 rfl ?_
        refine zG_getR dX12_does_139 zf_X12_112 zd_88 rfl rfl ?_
        refine zR_iload_n dX12_does_142 1 rfl ?_
        obtain ⟨g33, h⟩ := zchk_some h
        refine zG_iald dX12_does_143 zd_120 rfl rfl g33 ?_
        obtain ⟨q34, hq35, h⟩ := zbd_some h
        refine zR_cV (rest := []) (st1 := []) dX12_does_144 (mX12_starts F V0 V1 V2 V3 V4 V5 V6 V7 (zA V7 32 (x1).toNatClampNeg) _ hq35) zc_X12_428 rfl (zE_at zd_88) ⟨_, _, rfl⟩ rfl (Nat.le_of_ble_eq_true rfl) (Nat.le_of_ble_eq_true rfl) rfl ?_
        refine zR_goto (tgt := 261) dX12_does_147 (by decide) ?_
        have h := Option.some.inj h
        subst h
        exact zR_ret dX12_does_261 rfl
      · have h := zif_f h c32
        by_cases c36 : (zA V7 31 (x1).toNatClampNeg) = (38 : Int32)
        · have h := zif_t h c36
          refine zR_tabc (tgt := 150) dX12_does_6 c36 rfl (by decide) ?_
          refine zR_aload_n dX12_does_150 0 rfl ?_
          refine zR_iload_n dX12_does_151 2 rfl ?_
          obtain ⟨q37, hq38, h⟩ := zbd_some h
          refine zR_cV (rest := []) (st1 := []) dX12_does_152 (mX12_leaves F V0 V1 V2 V3 V4 V5 V6 V7 x2 _ hq38) zc_X12_466 rfl (zE_at zd_88) ⟨_, _, rfl⟩ rfl (Nat.le_of_ble_eq_true rfl) (Nat.le_of_ble_eq_true rfl) rfl ?_
          refine zR_goto (tgt := 261) dX12_does_155 (by decide) ?_
          have h := Option.some.inj h
          subst h
          exact zR_ret dX12_does_261 rfl
        · have h := zif_f h c36
          by_cases c39 : (zA V7 31 (x1).toNatClampNeg) = (39 : Int32)
          · have h := zif_t h c39
            refine zR_tabc (tgt := 158) dX12_does_6 c39 rfl (by decide) ?_
            refine zR_iconst (x := (0 : Int32)) dX12_does_158 rfl ?_
            refine zR_istore (lv' := [(0, .ref (w.1 + 88)), (1, .int x1), (2, .int x2), (3, .int x3), (4, .int (0 : Int32))]) dX12_does_159 (Nat.le_of_ble_eq_true rfl) rfl ?_
            refine zR_sub (lv' := [(0, .ref (w.1 + 88)), (1, .int x1), (4, .int (0 : Int32))]) [0, 1, 4] rfl ?_
            exact wX12_does_l161 F F V0 V1 V2 V3 V4 V5 V6 V7 x1 (0 : Int32) _ h
          · have h := zif_f h c39
            by_cases c40 : (zA V7 31 (x1).toNatClampNeg) = (40 : Int32)
            · have h := zif_t h c40
              refine zR_tabc (tgt := 221) dX12_does_6 c40 rfl (by decide) ?_
              refine zR_aload_n dX12_does_221 0 rfl ?_
              refine zG_getR dX12_does_222 zf_X12_192 zd_88 rfl rfl ?_
              refine zR_iload_n dX12_does_225 3 rfl ?_
              obtain ⟨g41, h⟩ := zchk_some h
              refine zG_iald dX12_does_226 zd_146 rfl rfl g41 ?_
              by_cases c42 : (zA V7 58 (x3).toNatClampNeg) < 0
              · have h := zif_t h c42
                refine zR_if_lt_t (tgt := 261) dX12_does_227 (by decide) c42 ?_
                have h := Option.some.inj h
                subst h
                exact zR_ret dX12_does_261 rfl
              · have h := zif_f h c42
                refine zR_if_lt_f (tgt := 261) dX12_does_227 (by decide) c42 ?_
                refine zR_aload_n dX12_does_230 0 rfl ?_
                refine zR_iconst (x := (1 : Int32)) dX12_does_231 rfl ?_
                obtain ⟨V7_43, e44, h⟩ := zlet_some h
                refine zG_putZ zds_ok dX12_does_232 zf_X12_456 zt_X12_99 zd_88 rfl rfl (Or.inr rfl) e44 rfl ?_
                refine zR_goto (tgt := 261) dX12_does_235 (by decide) ?_
                have h := Option.some.inj h
                subst h
                exact zR_ret dX12_does_261 rfl
            · have h := zif_f h c40
              by_cases c45 : (zA V7 31 (x1).toNatClampNeg) = (41 : Int32)
              · have h := zif_t h c45
                refine zR_tabc (tgt := 238) dX12_does_6 c45 rfl (by decide) ?_
                refine zR_aload_n dX12_does_238 0 rfl ?_
                obtain ⟨q46, hq47, h⟩ := zbd_some h
                refine zR_cV (rest := []) (st1 := []) dX12_does_239 (mX12_drains F V0 V1 V2 V3 V4 V5 V6 V7 _ hq47) zc_X12_469 rfl (zE_at zd_88) ⟨_, _, rfl⟩ rfl (Nat.le_of_ble_eq_true rfl) (Nat.le_of_ble_eq_true rfl) rfl ?_
                refine zR_goto (tgt := 261) dX12_does_242 (by decide) ?_
                have h := Option.some.inj h
                subst h
                exact zR_ret dX12_does_261 rfl
              · have h := zif_f h c45
                by_cases c48 : (zA V7 31 (x1).toNatClampNeg) = (42 : Int32)
                · have h := zif_t h c48
                  refine zR_tabc (tgt := 245) dX12_does_6 c48 rfl (by decide) ?_
                  refine zR_aload_n dX12_does_245 0 rfl ?_
                  obtain ⟨q49, hq50, h⟩ := zbd_some h
                  refine zR_cV (rest := []) (st1 := []) dX12_does_246 (mX12_serves F V0 V1 V2 V3 V4 V5 V6 V7 _ hq50) zc_X12_416 rfl (zE_at zd_88) ⟨_, _, rfl⟩ rfl (Nat.le_of_ble_eq_true rfl) (Nat.le_of_ble_eq_true rfl) rfl ?_
                  refine zR_goto (tgt := 261) dX12_does_249 (by decide) ?_
                  have h := Option.some.inj h
                  subst h
                  exact zR_ret dX12_does_261 rfl
                · have h := zif_f h c48
                  refine zR_tabO (tgt := 252) dX12_does_6 (by have u35 := zne c12 (n := 35) rfl; have u36 := zne c23 (n := 36) rfl; have u37 := zne c32 (n := 37) rfl; have u38 := zne c36 (n := 38) rfl; have u39 := zne c39 (n := 39) rfl; have u40 := zne c40 (n := 40) rfl; have u41 := zne c45 (n := 41) rfl; have u42 := zne c48 (n := 42) rfl; omega) (by decide) ?_
                  refine zR_aload_n dX12_does_252 0 rfl ?_
                  refine zR_iconst (x := (1 : Int32)) dX12_does_253 rfl ?_
                  obtain ⟨V7_51, e52, h⟩ := zlet_some h
                  refine zG_putZ zds_ok dX12_does_254 zf_X12_401 zt_X12_71 zd_88 rfl rfl (Or.inr rfl) e52 rfl ?_
                  refine zR_aload_n dX12_does_257 0 rfl ?_
                  obtain ⟨q53, hq54, h⟩ := zbd_some h
                  refine zR_cV (rest := []) (st1 := []) dX12_does_258 (mX12_offs F V0 V1 V2 V3 V4 V5 V6 V7_51 _ hq54) zc_X12_436 rfl (zE_at zd_88) ⟨_, _, rfl⟩ rfl (Nat.le_of_ble_eq_true rfl) (Nat.le_of_ble_eq_true rfl) rfl ?_
                  have h := Option.some.inj h
                  subst h
                  exact zR_ret dX12_does_261 rfl
set_option maxRecDepth 100000 in
set_option maxHeartbeats 4000000 in
theorem wX12_holds_b159 {w : zW} (F : Nat) (k15 : zV → Int32 → Int32 → Int32 → Option (Int32 × zV)) (hk15 : ∀ (V0 V1 V2 V3 V4 V5 V6 V7 : zV) (x1 : Int32) (x2 : Int32) (x3 : Int32) (res : Int32 × zV), k15 V7 x1 x2 x3 = some res → zR w kX12_holds 1 0 0 (some (.int res.1)) (zE zds w [V0, V1, V2, V3, V4, V5, V6, res.2]) 15 [(0, .ref (w.1 + 88)), (1, .int x1), (2, .int x2), (3, .int x3)] [] (zE zds w [V0, V1, V2, V3, V4, V5, V6, V7])) (V0 V1 V2 V3 V4 V5 V6 V7 : zV) (x1 : Int32) (x2 : Int32) (x3 : Int32) (s0 : Int32) (res : Int32 × zV) (h : fX12_holds_b159 F k15 V7 x1 x2 x3 s0 = some res) : zR w kX12_holds 1 0 0 (some (.int res.1)) (zE zds w [V0, V1, V2, V3, V4, V5, V6, res.2]) 159 [(0, .ref (w.1 + 88)), (1, .int x1), (2, .int x2), (3, .int x3)] [.int s0] (zE zds w [V0, V1, V2, V3, V4, V5, V6, V7]) := by
  unfold fX12_holds_b159 at h
  refine zR_istore (lv' := [(0, .ref (w.1 + 88)), (1, .int x1), (2, .int x2), (3, .int x3), (6, .int s0)]) dX12_holds_159 (Nat.le_of_ble_eq_true rfl) rfl ?_
  refine zR_iload dX12_holds_161 4 rfl ?_
  by_cases c1 : s0 = 0
  · have h := zif_t h c1
    refine zR_if_ne_f (tgt := 168) dX12_holds_163 (by decide) c1 ?_
    refine zR_iconst (x := (0 : Int32)) dX12_holds_166 rfl ?_
    have h := Option.some.inj h
    subst h
    exact zR_iret (x := (0 : Int32)) dX12_holds_167 rfl znar0
  · have h := zif_f h c1
    refine zR_if_ne_t (tgt := 168) dX12_holds_163 (by decide) c1 ?_
    refine zR_iinc (u := (x3 + 1)) (lv' := [(0, .ref (w.1 + 88)), (1, .int x1), (2, .int x2), (3, .int (x3 + 1)), (6, .int s0)]) dX12_holds_168 3 rfl rfl (Nat.le_of_ble_eq_true rfl) rfl ?_
    refine zR_goto (tgt := 15) dX12_holds_171 (by decide) ?_
    refine zR_sub (lv' := [(0, .ref (w.1 + 88)), (1, .int x1), (2, .int x2), (3, .int (x3 + 1))]) [0, 1, 2, 3] rfl ?_
    exact hk15 V0 V1 V2 V3 V4 V5 V6 V7 x1 x2 (x3 + 1) _ h
set_option maxRecDepth 100000 in
set_option maxHeartbeats 4000000 in
theorem wX12_holds_l15 {w : zW} (F : Nat) : ∀ (n : Nat) (V0 V1 V2 V3 V4 V5 V6 V7 : zV) (x1 : Int32) (x2 : Int32) (x3 : Int32) (res : Int32 × zV), fX12_holds_l15 F n V7 x1 x2 x3 = some res → zR w kX12_holds 1 0 0 (some (.int res.1)) (zE zds w [V0, V1, V2, V3, V4, V5, V6, res.2]) 15 [(0, .ref (w.1 + 88)), (1, .int x1), (2, .int x2), (3, .int x3)] [] (zE zds w [V0, V1, V2, V3, V4, V5, V6, V7]) := by
  intro n
  induction n with
  | zero =>
    intro V0 V1 V2 V3 V4 V5 V6 V7 x1 x2 x3 res h
    simp [fX12_holds_l15] at h
  | succ n ih =>
    intro V0 V1 V2 V3 V4 V5 V6 V7 x1 x2 x3 res h
    rw [fX12_holds_l15] at h
    refine zR_iload_n dX12_holds_15 3 rfl ?_
    refine zR_aload_n dX12_holds_16 0 rfl ?_
    refine zG_getR dX12_holds_17 zf_X12_91 zd_88 rfl rfl ?_
    refine zR_bipush (x := (81 : Int32)) dX12_holds_20 rfl ?_
    refine zR_aload_n dX12_holds_22 0 rfl ?_
    refine zG_getI dX12_holds_23 zf_X12_308 zd_88 rfl rfl ?_
    refine zR_imul dX12_holds_26 ?_
    refine zR_iload_n dX12_holds_27 1 rfl ?_
    refine zR_iadd dX12_holds_28 ?_
    refine zR_iconst (x := (1 : Int32)) dX12_holds_29 rfl ?_
    refine zR_iadd dX12_holds_30 ?_
    obtain ⟨g2, h⟩ := zchk_some h
    refine zG_iald dX12_holds_31 zd_113 rfl rfl g2 ?_
    by_cases c3 : (zA V7 25 (((((81 : Int32) * (zI V7 0 18)) + x1) + (1 : Int32))).toNatClampNeg) ≤ x3
    · have h := zif_t h c3
      refine zR_icmp_ge_t (tgt := 174) dX12_holds_32 (by decide) c3 ?_
      refine zR_iconst (x := (1 : Int32)) dX12_holds_174 rfl ?_
      have h := Option.some.inj h
      subst h
      exact zR_iret (x := (1 : Int32)) dX12_holds_175 rfl znar1
    · have h := zif_f h c3
      refine zR_icmp_ge_f (tgt := 174) dX12_holds_32 (by decide) c3 ?_
      refine zR_aload_n dX12_holds_35 0 rfl ?_
      refine zR_aload_n dX12_holds_36 0 rfl ?_
      refine zG_getR dX12_holds_37 zf_X12_100 zd_88 rfl rfl ?_
      refine zR_iload_n dX12_holds_40 3 rfl ?_
      obtain ⟨g4, h⟩ := zchk_some h
      refine zG_iald dX12_holds_41 zd_116 rfl rfl g4 ?_
      refine zR_aload_n dX12_holds_42 0 rfl ?_
      refine zG_getR dX12_holds_43 zf_X12_103 zd_88 rfl rfl ?_
      refine zR_iload_n dX12_holds_46 3 rfl ?_
      obtain ⟨g5, h⟩ := zchk_some h
      refine zG_iald dX12_holds_47 zd_117 rfl rfl g5 ?_
      refine zR_iload_n dX12_holds_48 2 rfl ?_
      obtain ⟨q6, hq7, h⟩ := zbd_some h
      refine zR_cV (rest := []) (st1 := [.int q6.1]) dX12_holds_49 (mX12_term F V0 V1 V2 V3 V4 V5 V6 V7 (zA V7 28 (x3).toNatClampNeg) (zA V7 29 (x3).toNatClampNeg) x2 _ hq7) zc_X12_446 rfl (zE_at zd_88) ⟨_, _, rfl⟩ rfl (Nat.le_of_ble_eq_true rfl) (Nat.le_of_ble_eq_true rfl) rfl ?_
      refine zR_istore (lv' := [(0, .ref (w.1 + 88)), (1, .int x1), (2, .int x2), (3, .int x3), (4, .int q6.1)]) dX12_holds_52 (Nat.le_of_ble_eq_true rfl) rfl ?_
      refine zR_aload_n dX12_holds_54 0 rfl ?_
      refine zR_aload_n dX12_holds_55 0 rfl ?_
      refine zG_getR dX12_holds_56 zf_X12_103 zd_88 rfl rfl ?_
      refine zR_iload_n dX12_holds_59 3 rfl ?_
      obtain ⟨g8, h⟩ := zchk_some h
      refine zG_iald dX12_holds_60 zd_117 rfl rfl g8 ?_
      refine zR_aload_n dX12_holds_61 0 rfl ?_
      refine zG_getR dX12_holds_62 zf_X12_106 zd_88 rfl rfl ?_
      refine zR_iload_n dX12_holds_65 3 rfl ?_
      obtain ⟨g9, h⟩ := zchk_some h
      refine zG_iald dX12_holds_66 zd_118 rfl rfl g9 ?_
      refine zR_iload_n dX12_holds_67 2 rfl ?_
      obtain ⟨q10, hq11, h⟩ := zbd_some h
      refine zR_cV (rest := []) (st1 := [.int q10.1]) dX12_holds_68 (mX12_term F V0 V1 V2 V3 V4 V5 V6 q6.2 (zA q6.2 29 (x3).toNatClampNeg) (zA q6.2 30 (x3).toNatClampNeg) x2 _ hq11) zc_X12_446 rfl (zE_at zd_88) ⟨_, _, rfl⟩ rfl (Nat.le_of_ble_eq_true rfl) (Nat.le_of_ble_eq_true rfl) rfl ?_
      refine zR_istore (lv' := [(0, .ref (w.1 + 88)), (1, .int x1), (2, .int x2), (3, .int x3), (4, .int q6.1), (5, .int q10.1)]) dX12_holds_71 (Nat.le_of_ble_eq_true rfl) rfl ?_
      refine zR_aload_n dX12_holds_73 0 rfl ?_
      refine zG_getR dX12_holds_74 zf_X12_97 zd_88 rfl rfl ?_
      refine zR_iload_n dX12_holds_77 3 rfl ?_
      obtain ⟨g12, h⟩ := zchk_some h
      refine zG_iald dX12_holds_78 zd_115 rfl rfl g12 ?_
      by_cases c13 : (zA q10.2 27 (x3).toNatClampNeg) = 0
      · have h := zif_t h c13
        refine zR_if_ne_f (tgt := 97) dX12_holds_79 (by decide) c13 ?_
        refine zR_iload dX12_holds_82 4 rfl ?_
        refine zR_iload dX12_holds_84 5 rfl ?_
        by_cases c21 : q6.1 = q10.1
        · have h := zif_t h c21
          refine zR_icmp_ne_f (tgt := 93) dX12_holds_86 (by decide) c21 ?_
          refine zR_iconst (x := (1 : Int32)) dX12_holds_89 rfl ?_
          refine zR_goto (tgt := 159) dX12_holds_90 (by decide) ?_
          refine zR_sub (lv' := [(0, .ref (w.1 + 88)), (1, .int x1), (2, .int x2), (3, .int x3)]) [0, 1, 2, 3] rfl ?_
          exact wX12_holds_b159 F (fX12_holds_l15 F n) ih V0 V1 V2 V3 V4 V5 V6 q10.2 x1 x2 x3 (1 : Int32) _ h
        · have h := zif_f h c21
          refine zR_icmp_ne_t (tgt := 93) dX12_holds_86 (by decide) c21 ?_
          refine zR_iconst (x := (0 : Int32)) dX12_holds_93 rfl ?_
          refine zR_goto (tgt := 159) dX12_holds_94 (by decide) ?_
          refine zR_sub (lv' := [(0, .ref (w.1 + 88)), (1, .int x1), (2, .int x2), (3, .int x3)]) [0, 1, 2, 3] rfl ?_
          exact wX12_holds_b159 F (fX12_holds_l15 F n) ih V0 V1 V2 V3 V4 V5 V6 q10.2 x1 x2 x3 (0 : Int32) _ h
      · have h := zif_f h c13
        refine zR_if_ne_t (tgt := 97) dX12_holds_79 (by decide) c13 ?_
        refine zR_aload_n dX12_holds_97 0 rfl ?_
        refine zG_getR dX12_holds_98 zf_X12_97 zd_88 rfl rfl ?_
        refine zR_iload_n dX12_holds_101 3 rfl ?_
        obtain ⟨g14, h⟩ := zchk_some h
        refine zG_iald dX12_holds_102 zd_115 rfl rfl g14 ?_
        refine zR_iconst (x := (1 : Int32)) dX12_holds_103 rfl ?_
        by_cases c15 : (zA q10.2 27 (x3).toNatClampNeg) = (1 : Int32)
        · have h := zif_t h c15
          refine zR_icmp_ne_f (tgt := 122) dX12_holds_104 (by decide) c15 ?_
          refine zR_iload dX12_holds_107 4 rfl ?_
          refine zR_iload dX12_holds_109 5 rfl ?_
          by_cases c20 : q6.1 = q10.1
          · have h := zif_t h c20
            refine zR_icmp_eq_t (tgt := 118) dX12_holds_111 (by decide) c20 ?_
            refine zR_iconst (x := (0 : Int32)) dX12_holds_118 rfl ?_
            refine zR_goto (tgt := 159) dX12_holds_119 (by decide) ?_
            refine zR_sub (lv' := [(0, .ref (w.1 + 88)), (1, .int x1), (2, .int x2), (3, .int x3)]) [0, 1, 2, 3] rfl ?_
            exact wX12_holds_b159 F (fX12_holds_l15 F n) ih V0 V1 V2 V3 V4 V5 V6 q10.2 x1 x2 x3 (0 : Int32) _ h
          · have h := zif_f h c20
            refine zR_icmp_eq_f (tgt := 118) dX12_holds_111 (by decide) c20 ?_
            refine zR_iconst (x := (1 : Int32)) dX12_holds_114 rfl ?_
            refine zR_goto (tgt := 159) dX12_holds_115 (by decide) ?_
            refine zR_sub (lv' := [(0, .ref (w.1 + 88)), (1, .int x1), (2, .int x2), (3, .int x3)]) [0, 1, 2, 3] rfl ?_
            exact wX12_holds_b159 F (fX12_holds_l15 F n) ih V0 V1 V2 V3 V4 V5 V6 q10.2 x1 x2 x3 (1 : Int32) _ h
        · have h := zif_f h c15
          refine zR_icmp_ne_t (tgt := 122) dX12_holds_104 (by decide) c15 ?_
          refine zR_aload_n dX12_holds_122 0 rfl ?_
          refine zG_getR dX12_holds_123 zf_X12_97 zd_88 rfl rfl ?_
          refine zR_iload_n dX12_holds_126 3 rfl ?_
          obtain ⟨g16, h⟩ := zchk_some h
          refine zG_iald dX12_holds_127 zd_115 rfl rfl g16 ?_
          refine zR_iconst (x := (2 : Int32)) dX12_holds_128 rfl ?_
          by_cases c17 : (zA q10.2 27 (x3).toNatClampNeg) = (2 : Int32)
          · have h := zif_t h c17
            refine zR_icmp_ne_f (tgt := 147) dX12_holds_129 (by decide) c17 ?_
            refine zR_iload dX12_holds_132 4 rfl ?_
            refine zR_iload dX12_holds_134 5 rfl ?_
            by_cases c19 : q10.1 ≤ q6.1
            · have h := zif_t h c19
              refine zR_icmp_ge_t (tgt := 143) dX12_holds_136 (by decide) c19 ?_
              refine zR_iconst (x := (0 : Int32)) dX12_holds_143 rfl ?_
              refine zR_goto (tgt := 159) dX12_holds_144 (by decide) ?_
              refine zR_sub (lv' := [(0, .ref (w.1 + 88)), (1, .int x1), (2, .int x2), (3, .int x3)]) [0, 1, 2, 3] rfl ?_
              exact wX12_holds_b159 F (fX12_holds_l15 F n) ih V0 V1 V2 V3 V4 V5 V6 q10.2 x1 x2 x3 (0 : Int32) _ h
            · have h := zif_f h c19
              refine zR_icmp_ge_f (tgt := 143) dX12_holds_136 (by decide) c19 ?_
              refine zR_iconst (x := (1 : Int32)) dX12_holds_139 rfl ?_
              refine zR_goto (tgt := 159) dX12_holds_140 (by decide) ?_
              refine zR_sub (lv' := [(0, .ref (w.1 + 88)), (1, .int x1), (2, .int x2), (3, .int x3)]) [0, 1, 2, 3] rfl ?_
              exact wX12_holds_b159 F (fX12_holds_l15 F n) ih V0 V1 V2 V3 V4 V5 V6 q10.2 x1 x2 x3 (1 : Int32) _ h
          · have h := zif_f h c17
            refine zR_icmp_ne_t (tgt := 147) dX12_holds_129 (by decide) c17 ?_
            refine zR_iload dX12_holds_147 4 rfl ?_
            refine zR_iload dX12_holds_149 5 rfl ?_
            by_cases c18 : q10.1 < q6.1
            · have h := zif_t h c18
              refine zR_icmp_gt_t (tgt := 158) dX12_holds_151 (by decide) c18 ?_
              refine zR_iconst (x := (0 : Int32)) dX12_holds_158 rfl ?_
              refine zR_sub (lv' := [(0, .ref (w.1 + 88)), (1, .int x1), (2, .int x2), (3, .int x3)]) [0, 1, 2, 3] rfl ?_
              exact wX12_holds_b159 F (fX12_holds_l15 F n) ih V0 V1 V2 V3 V4 V5 V6 q10.2 x1 x2 x3 (0 : Int32) _ h
            · have h := zif_f h c18
              refine zR_icmp_gt_f (tgt := 158) dX12_holds_151 (by decide) c18 ?_
              refine zR_iconst (x := (1 : Int32)) dX12_holds_154 rfl ?_
              refine zR_goto (tgt := 159) dX12_holds_155 (by decide) ?_
              refine zR_sub (lv' := [(0, .ref (w.1 + 88)), (1, .int x1), (2, .int x2), (3, .int x3)]) [0, 1, 2, 3] rfl ?_
              exact wX12_holds_b159 F (fX12_holds_l15 F n) ih V0 V1 V2 V3 V4 V5 V6 q10.2 x1 x2 x3 (1 : Int32) _ h
set_option maxRecDepth 100000 in
set_option maxHeartbeats 4000000 in
theorem mX12_holds {w : zW} (F : Nat) (V0 V1 V2 V3 V4 V5 V6 V7 : zV) (x1 : Int32) (x2 : Int32) (res : Int32 × zV) (h : fX12_holds F V7 x1 x2 = some res) : zMet w kX12_holds 1 0 0 [.ref (w.1 + 88), .int x1, .int x2] (zE zds w [V0, V1, V2, V3, V4, V5, V6, V7]) (some (.int res.1)) (zE zds w [V0, V1, V2, V3, V4, V5, V6, res.2]) := by
  refine zMet_of (by decide) (Nat.le_of_ble_eq_true rfl) (Nat.le_refl 0) fun _ => ?_
  show zR w kX12_holds 1 0 0 (some (.int res.1)) (zE zds w [V0, V1, V2, V3, V4, V5, V6, res.2]) 0 [(0, .ref (w.1 + 88)), (1, .int x1), (2, .int x2)] [] (zE zds w [V0, V1, V2, V3, V4, V5, V6, V7])
  unfold fX12_holds at h
  refine zR_aload_n dX12_holds_0 0 rfl ?_
  refine zG_getR dX12_holds_1 zf_X12_91 zd_88 rfl rfl ?_
  refine zR_bipush (x := (81 : Int32)) dX12_holds_4 rfl ?_
  refine zR_aload_n dX12_holds_6 0 rfl ?_
  refine zG_getI dX12_holds_7 zf_X12_308 zd_88 rfl rfl ?_
  refine zR_imul dX12_holds_10 ?_
  refine zR_iload_n dX12_holds_11 1 rfl ?_
  refine zR_iadd dX12_holds_12 ?_
  obtain ⟨g22, h⟩ := zchk_some h
  refine zG_iald dX12_holds_13 zd_113 rfl rfl g22 ?_
  obtain ⟨y23, e24, h⟩ := zlet_some h
  refine zR_nmI e24 ?_
  refine zR_istore_n (lv' := [(0, .ref (w.1 + 88)), (1, .int x1), (2, .int x2), (3, .int y23)]) dX12_holds_14 (Nat.le_of_ble_eq_true rfl) rfl ?_
  exact wX12_holds_l15 F F V0 V1 V2 V3 V4 V5 V6 V7 x1 x2 y23 _ h
set_option maxRecDepth 100000 in
set_option maxHeartbeats 4000000 in
theorem wX12_nextRule_l58 {w : zW} (F : Nat) : ∀ (n : Nat) (V0 V1 V2 V3 V4 V5 V6 V7 : zV) (x1 : Int32) (x2 : Int32) (res : Int32 × zV), fX12_nextRule_l58 F n V7 x1 x2 = some res → zR w kX12_nextRule 2 0 0 (some (.int res.1)) (zE zds w [V0, V1, V2, V3, V4, V5, V6, res.2]) 58 [(0, .ref (w.1 + 88)), (1, .int x1), (2, .int x2)] [] (zE zds w [V0, V1, V2, V3, V4, V5, V6, V7]) := by
  intro n
  induction n with
  | zero =>
    intro V0 V1 V2 V3 V4 V5 V6 V7 x1 x2 res h
    simp [fX12_nextRule_l58] at h
  | succ n ih =>
    intro V0 V1 V2 V3 V4 V5 V6 V7 x1 x2 res h
    rw [fX12_nextRule_l58] at h
    refine zR_aload_n dX12_nextRule_58 0 rfl ?_
    refine zG_getR dX12_nextRule_59 zf_X12_195 zd_88 rfl rfl ?_
    refine zR_iload_n dX12_nextRule_62 1 rfl ?_
    obtain ⟨g1, h⟩ := zchk_some h
    refine zG_iald dX12_nextRule_63 zd_147 rfl rfl g1 ?_
    refine zR_aload_n dX12_nextRule_64 0 rfl ?_
    refine zG_getR dX12_nextRule_65 zf_X12_85 zd_88 rfl rfl ?_
    refine zR_bipush (x := (13 : Int32)) dX12_nextRule_68 rfl ?_
    refine zR_aload_n dX12_nextRule_70 0 rfl ?_
    refine zG_getI dX12_nextRule_71 zf_X12_308 zd_88 rfl rfl ?_
    refine zR_imul dX12_nextRule_74 ?_
    refine zR_iload_n dX12_nextRule_75 2 rfl ?_
    refine zR_iadd dX12_nextRule_76 ?_
    refine zR_iconst (x := (1 : Int32)) dX12_nextRule_77 rfl ?_
    refine zR_iadd dX12_nextRule_78 ?_
    obtain ⟨g2, h⟩ := zchk_some h
    refine zG_iald dX12_nextRule_79 zd_111 rfl rfl g2 ?_
    by_cases c3 : (zA V7 23 (((((13 : Int32) * (zI V7 0 18)) + x2) + (1 : Int32))).toNatClampNeg) ≤ (zA V7 59 (x1).toNatClampNeg)
    · have h := zif_t h c3
      refine zR_icmp_ge_t (tgt := 179) dX12_nextRule_80 (by decide) c3 ?_
      refine zR_iconst (x := (0 : Int32)) dX12_nextRule_179 rfl ?_
      have h := Option.some.inj h
      subst h
      exact zR_iret (x := (0 : Int32)) dX12_nextRule_180 rfl znar0
    · have h := zif_f h c3
      refine zR_icmp_ge_f (tgt := 179) dX12_nextRule_80 (by decide) c3 ?_
      refine zR_aload_n dX12_nextRule_83 0 rfl ?_
      refine zG_getR dX12_nextRule_84 zf_X12_195 zd_88 rfl rfl ?_
      refine zR_iload_n dX12_nextRule_87 1 rfl ?_
      obtain ⟨g4, h⟩ := zchk_some h
      refine zG_iald dX12_nextRule_88 zd_147 rfl rfl g4 ?_
      obtain ⟨y5, e6, h⟩ := zlet_some h
      refine zR_nmI e6 ?_
      refine zR_istore_n (lv' := [(0, .ref (w.1 + 88)), (1, .int x1), (2, .int x2), (3, .int y5)]) dX12_nextRule_89 (Nat.le_of_ble_eq_true rfl) rfl ?_
      refine zR_aload_n dX12_nextRule_90 0 rfl ?_
      refine zG_getR dX12_nextRule_91 zf_X12_195 zd_88 rfl rfl ?_
      refine zR_iload_n dX12_nextRule_94 1 rfl ?_
      refine zR_dup2 dX12_nextRule_95 rfl rfl ?_
      obtain ⟨g7, h⟩ := zchk_some h
      refine zG_iald dX12_nextRule_96 zd_147 rfl rfl g7 ?_
      refine zR_iconst (x := (1 : Int32)) dX12_nextRule_97 rfl ?_
      refine zR_iadd dX12_nextRule_98 ?_
      obtain ⟨g8, h⟩ := zchk_some h
      obtain ⟨V7_9, e10, h⟩ := zlet_some h
      refine zG_iast zds_ok dX12_nextRule_99 zd_147 rfl rfl g8 e10 rfl ?_
      refine zR_aload_n dX12_nextRule_100 0 rfl ?_
      refine zG_getR dX12_nextRule_101 zf_X12_88 zd_88 rfl rfl ?_
      refine zR_bipush (x := (80 : Int32)) dX12_nextRule_104 rfl ?_
      refine zR_aload_n dX12_nextRule_106 0 rfl ?_
      refine zG_getI dX12_nextRule_107 zf_X12_308 zd_88 rfl rfl ?_
      refine zR_imul dX12_nextRule_110 ?_
      refine zR_iload_n dX12_nextRule_111 3 rfl ?_
      refine zR_iadd dX12_nextRule_112 ?_
      obtain ⟨g11, h⟩ := zchk_some h
      refine zG_iald dX12_nextRule_113 zd_112 rfl rfl g11 ?_
      refine zR_aload_n dX12_nextRule_114 0 rfl ?_
      refine zG_getR dX12_nextRule_115 zf_X12_192 zd_88 rfl rfl ?_
      refine zR_iload_n dX12_nextRule_118 1 rfl ?_
      obtain ⟨g12, h⟩ := zchk_some h
      refine zG_iald dX12_nextRule_119 zd_146 rfl rfl g12 ?_
      by_cases c13 : (zA V7_9 24 ((((80 : Int32) * (zI V7_9 0 18)) + y5)).toNatClampNeg) = (zA V7_9 58 (x1).toNatClampNeg)
      · have h := zif_t h c13
        refine zR_icmp_ne_f (tgt := 58) dX12_nextRule_120 (by decide) c13 ?_
        refine zR_aload_n dX12_nextRule_123 0 rfl ?_
        refine zR_iload_n dX12_nextRule_124 3 rfl ?_
        refine zR_iload_n dX12_nextRule_125 2 rfl ?_
        obtain ⟨q14, hq15, h⟩ := zbd_some h
        refine zR_cV (rest := []) (st1 := [.int q14.1]) dX12_nextRule_126 (mX12_holds F V0 V1 V2 V3 V4 V5 V6 V7_9 y5 x2 _ hq15) zc_X12_462 rfl (zE_at zd_88) ⟨_, _, rfl⟩ rfl (Nat.le_of_ble_eq_true rfl) (Nat.le_of_ble_eq_true rfl) rfl ?_
        by_cases c16 : q14.1 = 0
        · have h := zif_t h c16
          refine zR_if_ne_f (tgt := 135) dX12_nextRule_129 (by decide) c16 ?_
          refine zR_goto (tgt := 58) dX12_nextRule_132 (by decide) ?_
          refine zR_sub (lv' := [(0, .ref (w.1 + 88)), (1, .int x1), (2, .int x2)]) [0, 1, 2] rfl ?_
          exact ih V0 V1 V2 V3 V4 V5 V6 q14.2 x1 x2 _ h
        · have h := zif_f h c16
          refine zR_if_ne_t (tgt := 135) dX12_nextRule_129 (by decide) c16 ?_
          refine zR_aload_n dX12_nextRule_135 0 rfl ?_
          refine zG_getR dX12_nextRule_136 zf_X12_198 zd_88 rfl rfl ?_
          refine zR_iload_n dX12_nextRule_139 1 rfl ?_
          refine zR_aload_n dX12_nextRule_140 0 rfl ?_
          refine zG_getR dX12_nextRule_141 zf_X12_94 zd_88 rfl rfl ?_
          refine zR_bipush (x := (81 : Int32)) dX12_nextRule_144 rfl ?_
          refine zR_aload_n dX12_nextRule_146 0 rfl ?_
          refine zG_getI dX12_nextRule_147 zf_X12_308 zd_88 rfl rfl ?_
          refine zR_imul dX12_nextRule_150 ?_
          refine zR_iload_n dX12_nextRule_151 3 rfl ?_
          refine zR_iadd dX12_nextRule_152 ?_
          obtain ⟨g17, h⟩ := zchk_some h
          refine zG_iald dX12_nextRule_153 zd_114 rfl rfl g17 ?_
          obtain ⟨g18, h⟩ := zchk_some h
          obtain ⟨V7_19, e20, h⟩ := zlet_some h
          refine zG_iast zds_ok dX12_nextRule_154 zd_148 rfl rfl g18 e20 rfl ?_
          refine zR_aload_n dX12_nextRule_155 0 rfl ?_
          refine zG_getR dX12_nextRule_156 zf_X12_201 zd_88 rfl rfl ?_
          refine zR_iload_n dX12_nextRule_159 1 rfl ?_
          refine zR_aload_n dX12_nextRule_160 0 rfl ?_
          refine zG_getR dX12_nextRule_161 zf_X12_94 zd_88 rfl rfl ?_
          refine zR_bipush (x := (81 : Int32)) dX12_nextRule_164 rfl ?_
          refine zR_aload_n dX12_nextRule_166 0 rfl ?_
          refine zG_getI dX12_nextRule_167 zf_X12_308 zd_88 rfl rfl ?_
          refine zR_imul dX12_nextRule_170 ?_
          refine zR_iload_n dX12_nextRule_171 3 rfl ?_
          refine zR_iadd dX12_nextRule_172 ?_
          refine zR_iconst (x := (1 : Int32)) dX12_nextRule_173 rfl ?_
          refine zR_iadd dX12_nextRule_174 ?_
          obtain ⟨g21, h⟩ := zchk_some h
          refine zG_iald dX12_nextRule_175 zd_114 rfl rfl g21 ?_
          obtain ⟨g22, h⟩ := zchk_some h
          obtain ⟨V7_23, e24, h⟩ := zlet_some h
          refine zG_iast zds_ok dX12_nextRule_176 zd_149 rfl rfl g22 e24 rfl ?_
          refine zR_iconst (x := (1 : Int32)) dX12_nextRule_177 rfl ?_
          have h := Option.some.inj h
          subst h
          exact zR_iret (x := (1 : Int32)) dX12_nextRule_178 rfl znar1
      · have h := zif_f h c13
        refine zR_icmp_ne_t (tgt := 58) dX12_nextRule_120 (by decide) c13 ?_
        refine zR_sub (lv' := [(0, .ref (w.1 + 88)), (1, .int x1), (2, .int x2)]) [0, 1, 2] rfl ?_
        exact ih V0 V1 V2 V3 V4 V5 V6 V7_9 x1 x2 _ h
set_option maxRecDepth 100000 in
set_option maxHeartbeats 4000000 in
theorem wX12_nextRule_b30 {w : zW} (F : Nat) (V0 V1 V2 V3 V4 V5 V6 V7 : zV) (x1 : Int32) (x2 : Int32) (res : Int32 × zV) (h : fX12_nextRule_b30 F V7 x1 x2 = some res) : zR w kX12_nextRule 2 0 0 (some (.int res.1)) (zE zds w [V0, V1, V2, V3, V4, V5, V6, res.2]) 30 [(0, .ref (w.1 + 88)), (1, .int x1), (2, .int x2)] [] (zE zds w [V0, V1, V2, V3, V4, V5, V6, V7]) := by
  unfold fX12_nextRule_b30 at h
  refine zR_aload_n dX12_nextRule_30 0 rfl ?_
  refine zG_getR dX12_nextRule_31 zf_X12_192 zd_88 rfl rfl ?_
  refine zR_iload_n dX12_nextRule_34 1 rfl ?_
  obtain ⟨g25, h⟩ := zchk_some h
  refine zG_iald dX12_nextRule_35 zd_146 rfl rfl g25 ?_
  refine zR_bipush (x := (-2 : Int32)) dX12_nextRule_36 (by decide) ?_
  by_cases c26 : (zA V7 58 (x1).toNatClampNeg) = (-2 : Int32)
  · have h := zif_t h c26
    refine zR_icmp_eq_t (tgt := 58) dX12_nextRule_38 (by decide) c26 ?_
    exact wX12_nextRule_l58 F F V0 V1 V2 V3 V4 V5 V6 V7 x1 x2 _ h
  · have h := zif_f h c26
    refine zR_icmp_eq_f (tgt := 58) dX12_nextRule_38 (by decide) c26 ?_
    refine zR_aload_n dX12_nextRule_41 0 rfl ?_
    refine zG_getR dX12_nextRule_42 zf_X12_174 zd_88 rfl rfl ?_
    refine zR_iload_n dX12_nextRule_45 2 rfl ?_
    obtain ⟨g27, h⟩ := zchk_some h
    refine zG_iald dX12_nextRule_46 zd_140 rfl rfl g27 ?_
    refine zR_aload_n dX12_nextRule_47 0 rfl ?_
    refine zG_getR dX12_nextRule_48 zf_X12_204 zd_88 rfl rfl ?_
    refine zR_iload_n dX12_nextRule_51 1 rfl ?_
    obtain ⟨g28, h⟩ := zchk_some h
    refine zG_iald dX12_nextRule_52 zd_150 rfl rfl g28 ?_
    by_cases c29 : (zA V7 52 (x2).toNatClampNeg) = (zA V7 62 (x1).toNatClampNeg)
    · have h := zif_t h c29
      refine zR_icmp_eq_t (tgt := 58) dX12_nextRule_53 (by decide) c29 ?_
      exact wX12_nextRule_l58 F F V0 V1 V2 V3 V4 V5 V6 V7 x1 x2 _ h
    · have h := zif_f h c29
      refine zR_icmp_eq_f (tgt := 58) dX12_nextRule_53 (by decide) c29 ?_
      refine zR_iconst (x := (0 : Int32)) dX12_nextRule_56 rfl ?_
      have h := Option.some.inj h
      subst h
      exact zR_iret (x := (0 : Int32)) dX12_nextRule_57 rfl znar0
set_option maxRecDepth 100000 in
set_option maxHeartbeats 4000000 in
theorem mX12_nextRule {w : zW} (F : Nat) (V0 V1 V2 V3 V4 V5 V6 V7 : zV) (x1 : Int32) (res : Int32 × zV) (h : fX12_nextRule F V7 x1 = some res) : zMet w kX12_nextRule 2 0 0 [.ref (w.1 + 88), .int x1] (zE zds w [V0, V1, V2, V3, V4, V5, V6, V7]) (some (.int res.1)) (zE zds w [V0, V1, V2, V3, V4, V5, V6, res.2]) := by
  refine zMet_of (by decide) (Nat.le_of_ble_eq_true rfl) (Nat.le_refl 0) fun _ => ?_
  show zR w kX12_nextRule 2 0 0 (some (.int res.1)) (zE zds w [V0, V1, V2, V3, V4, V5, V6, res.2]) 0 [(0, .ref (w.1 + 88)), (1, .int x1)] [] (zE zds w [V0, V1, V2, V3, V4, V5, V6, V7])
  unfold fX12_nextRule at h
  refine zR_aload_n dX12_nextRule_0 0 rfl ?_
  refine zG_getR dX12_nextRule_1 zf_X12_189 zd_88 rfl rfl ?_
  refine zR_iload_n dX12_nextRule_4 1 rfl ?_
  obtain ⟨g30, h⟩ := zchk_some h
  refine zG_iald dX12_nextRule_5 zd_145 rfl rfl g30 ?_
  obtain ⟨y31, e32, h⟩ := zlet_some h
  refine zR_nmI e32 ?_
  refine zR_istore_n (lv' := [(0, .ref (w.1 + 88)), (1, .int x1), (2, .int y31)]) dX12_nextRule_6 (Nat.le_of_ble_eq_true rfl) rfl ?_
  refine zR_aload_n dX12_nextRule_7 0 rfl ?_
  refine zG_getR dX12_nextRule_8 zf_X12_192 zd_88 rfl rfl ?_
  refine zR_iload_n dX12_nextRule_11 1 rfl ?_
  obtain ⟨g33, h⟩ := zchk_some h
  refine zG_iald dX12_nextRule_12 zd_146 rfl rfl g33 ?_
  by_cases c34 : (zA V7 58 (x1).toNatClampNeg) < 0
  · have h := zif_t h c34
    refine zR_if_lt_t (tgt := 30) dX12_nextRule_13 (by decide) c34 ?_
    exact wX12_nextRule_b30 F V0 V1 V2 V3 V4 V5 V6 V7 x1 y31 _ h
  · have h := zif_f h c34
    refine zR_if_lt_f (tgt := 30) dX12_nextRule_13 (by decide) c34 ?_
    refine zR_aload_n dX12_nextRule_16 0 rfl ?_
    refine zG_getI dX12_nextRule_17 zf_X12_456 zd_88 rfl rfl ?_
    by_cases c35 : (zI V7 0 99) = 0
    · have h := zif_t h c35
      refine zR_if_eq_t (tgt := 30) dX12_nextRule_20 (by decide) c35 ?_
      exact wX12_nextRule_b30 F V0 V1 V2 V3 V4 V5 V6 V7 x1 y31 _ h
    · have h := zif_f h c35
      refine zR_if_eq_f (tgt := 30) dX12_nextRule_20 (by decide) c35 ?_
      refine zR_aload_n dX12_nextRule_23 0 rfl ?_
      refine zR_iconst (x := (1 : Int32)) dX12_nextRule_24 rfl ?_
      obtain ⟨V7_36, e37, h⟩ := zlet_some h
      refine zG_putZ zds_ok dX12_nextRule_25 zf_X12_459 zt_X12_97 zd_88 rfl rfl (Or.inr rfl) e37 rfl ?_
      refine zR_iconst (x := (0 : Int32)) dX12_nextRule_28 rfl ?_
      have h := Option.some.inj h
      subst h
      exact zR_iret (x := (0 : Int32)) dX12_nextRule_29 rfl znar0
set_option maxRecDepth 100000 in
set_option maxHeartbeats 4000000 in
theorem wX12_works_b122 {w : zW} (F : Nat) (k0 : zV → Option (zV)) (hk0 : ∀ (V0 V1 V2 V3 V4 V5 V6 V7 : zV) (res : zV), k0 V7 = some res → zR w kX12_works 4 0 0 none (zE zds w [V0, V1, V2, V3, V4, V5, V6, res]) 0 [(0, .ref (w.1 + 88))] [] (zE zds w [V0, V1, V2, V3, V4, V5, V6, V7])) (V0 V1 V2 V3 V4 V5 V6 V7 : zV) (res : zV) (h : fX12_works_b122 F k0 V7 = some res) : zR w kX12_works 4 0 0 none (zE zds w [V0, V1, V2, V3, V4, V5, V6, res]) 122 [(0, .ref (w.1 + 88))] [] (zE zds w [V0, V1, V2, V3, V4, V5, V6, V7]) := by
  unfold fX12_works_b122 at h
  refine zR_goto (tgt := 0) dX12_works_122 (by decide) ?_
  exact hk0 V0 V1 V2 V3 V4 V5 V6 V7 _ h
set_option maxRecDepth 100000 in
set_option maxHeartbeats 4000000 in
theorem wX12_works_l0 {w : zW} (F : Nat) : ∀ (n : Nat) (V0 V1 V2 V3 V4 V5 V6 V7 : zV) (res : zV), fX12_works_l0 F n V7 = some res → zR w kX12_works 4 0 0 none (zE zds w [V0, V1, V2, V3, V4, V5, V6, res]) 0 [(0, .ref (w.1 + 88))] [] (zE zds w [V0, V1, V2, V3, V4, V5, V6, V7]) := by
  intro n
  induction n with
  | zero =>
    intro V0 V1 V2 V3 V4 V5 V6 V7 res h
    simp [fX12_works_l0] at h
  | succ n ih =>
    intro V0 V1 V2 V3 V4 V5 V6 V7 res h
    rw [fX12_works_l0] at h
    refine zR_aload_n dX12_works_0 0 rfl ?_
    refine zG_getI dX12_works_1 zf_X12_425 zd_88 rfl rfl ?_
    by_cases c1 : (zI V7 0 90) ≤ 0
    · have h := zif_t h c1
      refine zR_if_le_t (tgt := 125) dX12_works_4 (by decide) c1 ?_
      have h := Option.some.inj h
      subst h
      exact zR_ret dX12_works_125 rfl
    · have h := zif_f h c1
      refine zR_if_le_f (tgt := 125) dX12_works_4 (by decide) c1 ?_
      refine zR_aload_n dX12_works_7 0 rfl ?_
      refine zG_getI dX12_works_8 zf_X12_422 zd_88 rfl rfl ?_
      by_cases c2 : (zI V7 0 89) = 0
      · have h := zif_t h c2
        refine zR_if_ne_f (tgt := 125) dX12_works_11 (by decide) c2 ?_
        refine zR_aload_n dX12_works_14 0 rfl ?_
        refine zG_getI dX12_works_15 zf_X12_425 zd_88 rfl rfl ?_
        refine zR_iconst (x := (1 : Int32)) dX12_works_18 rfl ?_
        refine zR_isub dX12_works_19 ?_
        obtain ⟨y3, e4, h⟩ := zlet_some h
        refine zR_nmI e4 ?_
        refine zR_istore_n (lv' := [(0, .ref (w.1 + 88)), (1, .int y3)]) dX12_works_20 (Nat.le_of_ble_eq_true rfl) rfl ?_
        refine zR_aload_n dX12_works_21 0 rfl ?_
        refine zG_getR dX12_works_22 zf_X12_198 zd_88 rfl rfl ?_
        refine zR_iload_n dX12_works_25 1 rfl ?_
        obtain ⟨g5, h⟩ := zchk_some h
        refine zG_iald dX12_works_26 zd_148 rfl rfl g5 ?_
        refine zR_aload_n dX12_works_27 0 rfl ?_
        refine zG_getR dX12_works_28 zf_X12_201 zd_88 rfl rfl ?_
        refine zR_iload_n dX12_works_31 1 rfl ?_
        obtain ⟨g6, h⟩ := zchk_some h
        refine zG_iald dX12_works_32 zd_149 rfl rfl g6 ?_
        by_cases c7 : (zA V7 61 (y3).toNatClampNeg) ≤ (zA V7 60 (y3).toNatClampNeg)
        · have h := zif_t h c7
          refine zR_icmp_ge_t (tgt := 104) dX12_works_33 (by decide) c7 ?_
          refine zR_aload_n dX12_works_104 0 rfl ?_
          refine zR_iload_n dX12_works_105 1 rfl ?_
          obtain ⟨q8, hq9, h⟩ := zbd_some h
          refine zR_cV (rest := []) (st1 := [.int q8.1]) dX12_works_106 (mX12_nextRule F V0 V1 V2 V3 V4 V5 V6 V7 y3 _ hq9) zc_X12_453 rfl (zE_at zd_88) ⟨_, _, rfl⟩ rfl (Nat.le_of_ble_eq_true rfl) (Nat.le_of_ble_eq_true rfl) rfl ?_
          by_cases c10 : q8.1 = 0
          · have h := zif_t h c10
            refine zR_if_ne_f (tgt := 122) dX12_works_109 (by decide) c10 ?_
            refine zR_aload_n dX12_works_112 0 rfl ?_
            refine zR_dup dX12_works_113 rfl ?_
            refine zG_getI dX12_works_114 zf_X12_425 zd_88 rfl rfl ?_
            refine zR_iconst (x := (1 : Int32)) dX12_works_117 rfl ?_
            refine zR_isub dX12_works_118 ?_
            obtain ⟨V7_11, e12, h⟩ := zlet_some h
            refine zG_putI zds_ok dX12_works_119 zf_X12_425 zt_X12_90 zd_88 rfl rfl e12 rfl ?_
            refine zR_sub (lv' := [(0, .ref (w.1 + 88))]) [0] rfl ?_
            exact wX12_works_b122 F (fX12_works_l0 F n) ih V0 V1 V2 V3 V4 V5 V6 V7_11 _ h
          · have h := zif_f h c10
            refine zR_if_ne_t (tgt := 122) dX12_works_109 (by decide) c10 ?_
            refine zR_sub (lv' := [(0, .ref (w.1 + 88))]) [0] rfl ?_
            exact wX12_works_b122 F (fX12_works_l0 F n) ih V0 V1 V2 V3 V4 V5 V6 q8.2 _ h
        · have h := zif_f h c7
          refine zR_icmp_ge_f (tgt := 104) dX12_works_33 (by decide) c7 ?_
          refine zR_aload_n dX12_works_36 0 rfl ?_
          refine zG_getI dX12_works_37 zf_X12_419 zd_88 rfl rfl ?_
          refine zR_sipush (x := (200 : Int32)) dX12_works_40 rfl ?_
          by_cases c13 : (zI V7 0 88) = (200 : Int32)
          · have h := zif_t h c13
            refine zR_icmp_ne_f (tgt := 62) dX12_works_43 (by decide) c13 ?_
            refine zR_aload_n dX12_works_46 0 rfl ?_
            refine zR_iconst (x := (1 : Int32)) dX12_works_47 rfl ?_
            obtain ⟨V7_24, e25, h⟩ := zlet_some h
            refine zG_putZ zds_ok dX12_works_48 zf_X12_422 zt_X12_89 zd_88 rfl rfl (Or.inr rfl) e25 rfl ?_
            refine zR_aload_n dX12_works_51 0 rfl ?_
            refine zR_iconst (x := (1 : Int32)) dX12_works_52 rfl ?_
            obtain ⟨V7_26, e27, h⟩ := zlet_some h
            refine zG_putZ zds_ok dX12_works_53 zf_X12_398 zt_X12_70 zd_88 rfl rfl (Or.inr rfl) e27 rfl ?_
            refine zR_aload_n dX12_works_56 0 rfl ?_
            refine zR_iconst (x := (0 : Int32)) dX12_works_57 rfl ?_
            obtain ⟨V7_28, e29, h⟩ := zlet_some h
            refine zG_putI zds_ok dX12_works_58 zf_X12_425 zt_X12_90 zd_88 rfl rfl e29 rfl ?_
            have h := Option.some.inj h
            subst h
            exact zR_ret dX12_works_61 rfl
          · have h := zif_f h c13
            refine zR_icmp_ne_t (tgt := 62) dX12_works_43 (by decide) c13 ?_
            refine zR_aload_n dX12_works_62 0 rfl ?_
            refine zR_dup dX12_works_63 rfl ?_
            refine zG_getI dX12_works_64 zf_X12_419 zd_88 rfl rfl ?_
            refine zR_iconst (x := (1 : Int32)) dX12_works_67 rfl ?_
            refine zR_iadd dX12_works_68 ?_
            obtain ⟨V7_14, e15, h⟩ := zlet_some h
            refine zG_putI zds_ok dX12_works_69 zf_X12_419 zt_X12_88 zd_88 rfl rfl e15 rfl ?_
            refine zR_aload_n dX12_works_72 0 rfl ?_
            refine zG_getR dX12_works_73 zf_X12_198 zd_88 rfl rfl ?_
            refine zR_iload_n dX12_works_76 1 rfl ?_
            refine zR_dup2 dX12_works_77 rfl rfl ?_
            obtain ⟨g16, h⟩ := zchk_some h
            refine zG_iald dX12_works_78 zd_148 rfl rfl g16 ?_
            refine zR_iconst (x := (1 : Int32)) dX12_works_79 rfl ?_
            refine zR_iadd dX12_works_80 ?_
            obtain ⟨g17, h⟩ := zchk_some h
            obtain ⟨V7_18, e19, h⟩ := zlet_some h
            refine zG_iast zds_ok dX12_works_81 zd_148 rfl rfl g17 e19 rfl ?_
            refine zR_aload_n dX12_works_82 0 rfl ?_
            refine zR_aload_n dX12_works_83 0 rfl ?_
            refine zG_getR dX12_works_84 zf_X12_198 zd_88 rfl rfl ?_
            refine zR_iload_n dX12_works_87 1 rfl ?_
            obtain ⟨g20, h⟩ := zchk_some h
            refine zG_iald dX12_works_88 zd_148 rfl rfl g20 ?_
            refine zR_iconst (x := (1 : Int32)) dX12_works_89 rfl ?_
            refine zR_isub dX12_works_90 ?_
            refine zR_aload_n dX12_works_91 0 rfl ?_
            refine zG_getR dX12_works_92 zf_X12_189 zd_88 rfl rfl ?_
            refine zR_iload_n dX12_works_95 1 rfl ?_
            obtain ⟨g21, h⟩ := zchk_some h
            refine zG_iald dX12_works_96 zd_145 rfl rfl g21 ?_
            refine zR_iload_n dX12_works_97 1 rfl ?_
            obtain ⟨q22, hq23, h⟩ := zbd_some h
            refine zR_cV (rest := []) (st1 := []) dX12_works_98 (mX12_does F V0 V1 V2 V3 V4 V5 V6 V7_18 ((zA V7_18 60 (y3).toNatClampNeg) - (1 : Int32)) (zA V7_18 57 (y3).toNatClampNeg) y3 _ hq23) zc_X12_449 rfl (zE_at zd_88) ⟨_, _, rfl⟩ rfl (Nat.le_of_ble_eq_true rfl) (Nat.le_of_ble_eq_true rfl) rfl ?_
            refine zR_goto (tgt := 122) dX12_works_101 (by decide) ?_
            refine zR_sub (lv' := [(0, .ref (w.1 + 88))]) [0] rfl ?_
            exact wX12_works_b122 F (fX12_works_l0 F n) ih V0 V1 V2 V3 V4 V5 V6 q22 _ h
      · have h := zif_f h c2
        refine zR_if_ne_t (tgt := 125) dX12_works_11 (by decide) c2 ?_
        have h := Option.some.inj h
        subst h
        exact zR_ret dX12_works_125 rfl
set_option maxRecDepth 100000 in
set_option maxHeartbeats 4000000 in
theorem mX12_works {w : zW} (F : Nat) (V0 V1 V2 V3 V4 V5 V6 V7 : zV) (res : zV) (h : fX12_works F V7 = some res) : zMet w kX12_works 4 0 0 [.ref (w.1 + 88)] (zE zds w [V0, V1, V2, V3, V4, V5, V6, V7]) none (zE zds w [V0, V1, V2, V3, V4, V5, V6, res]) := by
  refine zMet_of (by decide) (Nat.le_of_ble_eq_true rfl) (Nat.le_refl 0) fun _ => ?_
  show zR w kX12_works 4 0 0 none (zE zds w [V0, V1, V2, V3, V4, V5, V6, res]) 0 [(0, .ref (w.1 + 88))] [] (zE zds w [V0, V1, V2, V3, V4, V5, V6, V7])
  unfold fX12_works at h
  exact wX12_works_l0 F F V0 V1 V2 V3 V4 V5 V6 V7 _ h
set_option maxRecDepth 100000 in
set_option maxHeartbeats 4000000 in
theorem wX12_asksBall_b90 {w : zW} (F : Nat) (V0 V1 V2 V3 V4 V5 V6 V7 : zV) (s1 : Int32) (res : zV) (h : fX12_asksBall_b90 F V7 s1 = some res) : zR w kX12_asksBall 3 0 0 none (zE zds w [V0, V1, V2, V3, V4, V5, V6, res]) 90 [(0, .ref (w.1 + 88))] [.int s1, .ref (w.1 + 88)] (zE zds w [V0, V1, V2, V3, V4, V5, V6, V7]) := by
  unfold fX12_asksBall_b90 at h
  obtain ⟨V7_1, e2, h⟩ := zlet_some h
  refine zG_putI zds_ok dX12_asksBall_90 zf_X12_392 zt_X12_66 zd_88 rfl rfl e2 rfl ?_
  refine zR_aload_n dX12_asksBall_93 0 rfl ?_
  refine zG_getI dX12_asksBall_94 zf_X12_392 zd_88 rfl rfl ?_
  by_cases c3 : (zI V7_1 0 66) ≤ 0
  · have h := zif_t h c3
    refine zR_if_le_t (tgt := 104) dX12_asksBall_97 (by decide) c3 ?_
    have h := Option.some.inj h
    subst h
    exact zR_ret dX12_asksBall_104 rfl
  · have h := zif_f h c3
    refine zR_if_le_f (tgt := 104) dX12_asksBall_97 (by decide) c3 ?_
    refine zR_aload_n dX12_asksBall_100 0 rfl ?_
    obtain ⟨q4, hq5, h⟩ := zbd_some h
    refine zR_cV (rest := []) (st1 := []) dX12_asksBall_101 (mX12_serves F V0 V1 V2 V3 V4 V5 V6 V7_1 _ hq5) zc_X12_416 rfl (zE_at zd_88) ⟨_, _, rfl⟩ rfl (Nat.le_of_ble_eq_true rfl) (Nat.le_of_ble_eq_true rfl) rfl ?_
    have h := Option.some.inj h
    subst h
    exact zR_ret dX12_asksBall_104 rfl
set_option maxRecDepth 100000 in
set_option maxHeartbeats 4000000 in
theorem wX12_asksBall_b62 {w : zW} (F : Nat) (V0 V1 V2 V3 V4 V5 V6 V7 : zV) (res : zV) (h : fX12_asksBall_b62 F V7 = some res) : zR w kX12_asksBall 3 0 0 none (zE zds w [V0, V1, V2, V3, V4, V5, V6, res]) 62 [(0, .ref (w.1 + 88))] [] (zE zds w [V0, V1, V2, V3, V4, V5, V6, V7]) := by
  unfold fX12_asksBall_b62 at h
  refine zR_aload_n dX12_asksBall_62 0 rfl ?_
  obtain ⟨q6, hq7, h⟩ := zbd_some h
  refine zR_cV (rest := []) (st1 := []) dX12_asksBall_63 (mX12_offs F V0 V1 V2 V3 V4 V5 V6 V7 _ hq7) zc_X12_436 rfl (zE_at zd_88) ⟨_, _, rfl⟩ rfl (Nat.le_of_ble_eq_true rfl) (Nat.le_of_ble_eq_true rfl) rfl ?_
  refine zR_aload_n dX12_asksBall_66 0 rfl ?_
  refine zR_iconst (x := (0 : Int32)) dX12_asksBall_67 rfl ?_
  obtain ⟨V7_8, e9, h⟩ := zlet_some h
  refine zG_putZ zds_ok dX12_asksBall_68 zf_X12_401 zt_X12_71 zd_88 rfl rfl (Or.inl rfl) e9 rfl ?_
  refine zR_aload_n dX12_asksBall_71 0 rfl ?_
  refine zR_aload_n dX12_asksBall_72 0 rfl ?_
  refine zG_getI dX12_asksBall_73 zf_X12_392 zd_88 rfl rfl ?_
  refine zR_iconst (x := (3 : Int32)) dX12_asksBall_76 rfl ?_
  by_cases c10 : (zI V7_8 0 66) = (3 : Int32)
  · have h := zif_t h c10
    refine zR_icmp_ne_f (tgt := 84) dX12_asksBall_77 (by decide) c10 ?_
    refine zR_iconst (x := (0 : Int32)) dX12_asksBall_80 rfl ?_
    refine zR_goto (tgt := 90) dX12_asksBall_81 (by decide) ?_
    exact wX12_asksBall_b90 F V0 V1 V2 V3 V4 V5 V6 V7_8 (0 : Int32) _ h
  · have h := zif_f h c10
    refine zR_icmp_ne_t (tgt := 84) dX12_asksBall_77 (by decide) c10 ?_
    refine zR_aload_n dX12_asksBall_84 0 rfl ?_
    refine zG_getI dX12_asksBall_85 zf_X12_392 zd_88 rfl rfl ?_
    refine zR_iconst (x := (1 : Int32)) dX12_asksBall_88 rfl ?_
    refine zR_iadd dX12_asksBall_89 ?_
    exact wX12_asksBall_b90 F V0 V1 V2 V3 V4 V5 V6 V7_8 ((zI V7_8 0 66) + (1 : Int32)) _ h
set_option maxRecDepth 100000 in
set_option maxHeartbeats 4000000 in
theorem wX12_asksBall_b56 {w : zW} (F : Nat) (k25 : zV → Int32 → Option (zV)) (hk25 : ∀ (V0 V1 V2 V3 V4 V5 V6 V7 : zV) (x1 : Int32) (res : zV), k25 V7 x1 = some res → zR w kX12_asksBall 3 0 0 none (zE zds w [V0, V1, V2, V3, V4, V5, V6, res]) 25 [(0, .ref (w.1 + 88)), (1, .int x1)] [] (zE zds w [V0, V1, V2, V3, V4, V5, V6, V7])) (V0 V1 V2 V3 V4 V5 V6 V7 : zV) (x1 : Int32) (res : zV) (h : fX12_asksBall_b56 F k25 V7 x1 = some res) : zR w kX12_asksBall 3 0 0 none (zE zds w [V0, V1, V2, V3, V4, V5, V6, res]) 56 [(0, .ref (w.1 + 88)), (1, .int x1)] [] (zE zds w [V0, V1, V2, V3, V4, V5, V6, V7]) := by
  unfold fX12_asksBall_b56 at h
  refine zR_iinc (u := (x1 + 1)) (lv' := [(0, .ref (w.1 + 88)), (1, .int (x1 + 1))]) dX12_asksBall_56 1 rfl rfl (Nat.le_of_ble_eq_true rfl) rfl ?_
  refine zR_goto (tgt := 25) dX12_asksBall_59 (by decide) ?_
  exact hk25 V0 V1 V2 V3 V4 V5 V6 V7 (x1 + 1) _ h
set_option maxRecDepth 100000 in
set_option maxHeartbeats 4000000 in
theorem wX12_asksBall_l25 {w : zW} (F : Nat) : ∀ (n : Nat) (V0 V1 V2 V3 V4 V5 V6 V7 : zV) (x1 : Int32) (res : zV), fX12_asksBall_l25 F n V7 x1 = some res → zR w kX12_asksBall 3 0 0 none (zE zds w [V0, V1, V2, V3, V4, V5, V6, res]) 25 [(0, .ref (w.1 + 88)), (1, .int x1)] [] (zE zds w [V0, V1, V2, V3, V4, V5, V6, V7]) := by
  intro n
  induction n with
  | zero =>
    intro V0 V1 V2 V3 V4 V5 V6 V7 x1 res h
    simp [fX12_asksBall_l25] at h
  | succ n ih =>
    intro V0 V1 V2 V3 V4 V5 V6 V7 x1 res h
    rw [fX12_asksBall_l25] at h
    refine zR_iload_n dX12_asksBall_25 1 rfl ?_
    refine zR_aload_n dX12_asksBall_26 0 rfl ?_
    refine zR_iconst (x := (0 : Int32)) dX12_asksBall_27 rfl ?_
    obtain ⟨q11, hq12, h⟩ := zbd_some h
    refine zR_cV (rest := [.int x1]) (st1 := [.int q11, .int x1]) dX12_asksBall_28 (mX12_sort F V0 V1 V2 V3 V4 V5 V6 V7 (0 : Int32) _ hq12) zc_X12_370 rfl (zE_at zd_88) ⟨_, _, rfl⟩ rfl (Nat.le_of_ble_eq_true rfl) (Nat.le_of_ble_eq_true rfl) rfl ?_
    by_cases c13 : q11 ≤ x1
    · have h := zif_t h c13
      refine zR_icmp_ge_t (tgt := 62) dX12_asksBall_31 (by decide) c13 ?_
      refine zR_sub (lv' := [(0, .ref (w.1 + 88))]) [0] rfl ?_
      exact wX12_asksBall_b62 F V0 V1 V2 V3 V4 V5 V6 V7 _ h
    · have h := zif_f h c13
      refine zR_icmp_ge_f (tgt := 62) dX12_asksBall_31 (by decide) c13 ?_
      refine zR_aload_n dX12_asksBall_34 0 rfl ?_
      refine zG_getR dX12_asksBall_35 zf_X12_162 zd_88 rfl rfl ?_
      refine zR_iload_n dX12_asksBall_38 1 rfl ?_
      obtain ⟨g14, h⟩ := zchk_some h
      refine zG_iald dX12_asksBall_39 zd_136 rfl rfl g14 ?_
      refine zR_aload_n dX12_asksBall_40 0 rfl ?_
      refine zG_getI dX12_asksBall_41 zf_X12_392 zd_88 rfl rfl ?_
      refine zR_iconst (x := (1 : Int32)) dX12_asksBall_44 rfl ?_
      refine zR_isub dX12_asksBall_45 ?_
      by_cases c15 : ((zI V7 0 66) - (1 : Int32)) ≤ (zA V7 48 (x1).toNatClampNeg)
      · have h := zif_t h c15
        refine zR_icmp_ge_t (tgt := 56) dX12_asksBall_46 (by decide) c15 ?_
        exact wX12_asksBall_b56 F (fX12_asksBall_l25 F n) ih V0 V1 V2 V3 V4 V5 V6 V7 x1 _ h
      · have h := zif_f h c15
        refine zR_icmp_ge_f (tgt := 56) dX12_asksBall_46 (by decide) c15 ?_
        refine zR_aload_n dX12_asksBall_49 0 rfl ?_
        refine zG_getR dX12_asksBall_50 zf_X12_159 zd_88 rfl rfl ?_
        refine zR_iload_n dX12_asksBall_53 1 rfl ?_
        refine zR_iconst (x := (1 : Int32)) dX12_asksBall_54 rfl ?_
        obtain ⟨g16, h⟩ := zchk_some h
        obtain ⟨V7_17, e18, h⟩ := zlet_some h
        refine zG_zast zds_ok dX12_asksBall_55 zd_135 rfl rfl g16 e18 rfl ?_
        exact wX12_asksBall_b56 F (fX12_asksBall_l25 F n) ih V0 V1 V2 V3 V4 V5 V6 V7_17 x1 _ h
set_option maxRecDepth 100000 in
set_option maxHeartbeats 4000000 in
theorem mX12_asksBall {w : zW} (F : Nat) (V0 V1 V2 V3 V4 V5 V6 V7 : zV) (res : zV) (h : fX12_asksBall F V7 = some res) : zMet w kX12_asksBall 3 0 0 [.ref (w.1 + 88)] (zE zds w [V0, V1, V2, V3, V4, V5, V6, V7]) none (zE zds w [V0, V1, V2, V3, V4, V5, V6, res]) := by
  refine zMet_of (by decide) (Nat.le_of_ble_eq_true rfl) (Nat.le_refl 0) fun _ => ?_
  show zR w kX12_asksBall 3 0 0 none (zE zds w [V0, V1, V2, V3, V4, V5, V6, res]) 0 [(0, .ref (w.1 + 88))] [] (zE zds w [V0, V1, V2, V3, V4, V5, V6, V7])
  unfold fX12_asksBall at h
  refine zR_aload_n dX12_asksBall_0 0 rfl ?_
  refine zG_getI dX12_asksBall_1 zf_X12_392 zd_88 rfl rfl ?_
  by_cases c19 : (zI V7 0 66) = 0
  · have h := zif_t h c19
    refine zR_if_eq_t (tgt := 14) dX12_asksBall_4 (by decide) c19 ?_
    have h := Option.some.inj h
    subst h
    exact zR_ret dX12_asksBall_14 rfl
  · have h := zif_f h c19
    refine zR_if_eq_f (tgt := 14) dX12_asksBall_4 (by decide) c19 ?_
    refine zR_aload_n dX12_asksBall_7 0 rfl ?_
    refine zG_getI dX12_asksBall_8 zf_X12_382 zd_88 rfl rfl ?_
    by_cases c20 : (zI V7 0 67) ≤ 0
    · have h := zif_t h c20
      refine zR_if_le_t (tgt := 15) dX12_asksBall_11 (by decide) c20 ?_
      refine zR_aload_n dX12_asksBall_15 0 rfl ?_
      refine zG_getI dX12_asksBall_16 zf_X12_392 zd_88 rfl rfl ?_
      refine zR_iconst (x := (1 : Int32)) dX12_asksBall_19 rfl ?_
      by_cases c21 : (zI V7 0 66) ≤ (1 : Int32)
      · have h := zif_t h c21
        refine zR_icmp_le_t (tgt := 62) dX12_asksBall_20 (by decide) c21 ?_
        exact wX12_asksBall_b62 F V0 V1 V2 V3 V4 V5 V6 V7 _ h
      · have h := zif_f h c21
        refine zR_icmp_le_f (tgt := 62) dX12_asksBall_20 (by decide) c21 ?_
        refine zR_iconst (x := (0 : Int32)) dX12_asksBall_23 rfl ?_
        refine zR_istore_n (lv' := [(0, .ref (w.1 + 88)), (1, .int (0 : Int32))]) dX12_asksBall_24 (Nat.le_of_ble_eq_true rfl) rfl ?_
        exact wX12_asksBall_l25 F F V0 V1 V2 V3 V4 V5 V6 V7 (0 : Int32) _ h
    · have h := zif_f h c20
      refine zR_if_le_f (tgt := 15) dX12_asksBall_11 (by decide) c20 ?_
      have h := Option.some.inj h
      subst h
      exact zR_ret dX12_asksBall_14 rfl
set_option maxRecDepth 100000 in
set_option maxHeartbeats 4000000 in
theorem wX12_begin_b257 {w : zW} (F : Nat) (V0 V1 V2 V3 V4 V5 V6 V7 : zV) (res : Int32 × zV) (h : fX12_begin_b257 F V7 = some res) : zR w kX12_begin 5 0 0 (some (.int res.1)) (zE zds w [V0, V1, V2, V3, V4, V5, V6, res.2]) 257 [(0, .ref (w.1 + 88))] [] (zE zds w [V0, V1, V2, V3, V4, V5, V6, V7]) := by
  unfold fX12_begin_b257 at h
  refine zR_aload_n dX12_begin_257 0 rfl ?_
  obtain ⟨q1, hq2, h⟩ := zbd_some h
  refine zR_cV (rest := []) (st1 := []) dX12_begin_258 (mX12_asksBall F V0 V1 V2 V3 V4 V5 V6 V7 _ hq2) zc_X12_433 rfl (zE_at zd_88) ⟨_, _, rfl⟩ rfl (Nat.le_of_ble_eq_true rfl) (Nat.le_of_ble_eq_true rfl) rfl ?_
  refine zR_iconst (x := (1 : Int32)) dX12_begin_261 rfl ?_
  have h := Option.some.inj h
  subst h
  exact zR_iret (x := (1 : Int32)) dX12_begin_262 rfl znar1
set_option maxRecDepth 100000 in
set_option maxHeartbeats 4000000 in
theorem wX12_begin_l186 {w : zW} (F : Nat) : ∀ (n : Nat) (V0 V1 V2 V3 V4 V5 V6 V7 : zV) (x1 : Int32) (res : Int32 × zV), fX12_begin_l186 F n V7 x1 = some res → zR w kX12_begin 5 0 0 (some (.int res.1)) (zE zds w [V0, V1, V2, V3, V4, V5, V6, res.2]) 186 [(0, .ref (w.1 + 88)), (1, .int x1)] [] (zE zds w [V0, V1, V2, V3, V4, V5, V6, V7]) := by
  intro n
  induction n with
  | zero =>
    intro V0 V1 V2 V3 V4 V5 V6 V7 x1 res h
    simp [fX12_begin_l186] at h
  | succ n ih =>
    intro V0 V1 V2 V3 V4 V5 V6 V7 x1 res h
    rw [fX12_begin_l186] at h
    refine zR_iload_n dX12_begin_186 1 rfl ?_
    refine zR_bipush (x := (8 : Int32)) dX12_begin_187 rfl ?_
    by_cases c3 : (8 : Int32) ≤ x1
    · have h := zif_t h c3
      refine zR_icmp_ge_t (tgt := 212) dX12_begin_189 (by decide) c3 ?_
      refine zR_aload_n dX12_begin_212 0 rfl ?_
      obtain ⟨q4, hq5, h⟩ := zbd_some h
      refine zR_cV (rest := []) (st1 := []) dX12_begin_213 (mX12_orders F V0 V1 V2 V3 V4 V5 V6 V7 _ hq5) zc_X12_410 rfl (zE_at zd_88) ⟨_, _, rfl⟩ rfl (Nat.le_of_ble_eq_true rfl) (Nat.le_of_ble_eq_true rfl) rfl ?_
      refine zR_aload_n dX12_begin_216 0 rfl ?_
      obtain ⟨q6, hq7, h⟩ := zbd_some h
      refine zR_cV (rest := []) (st1 := []) dX12_begin_217 (mX12_noBalls F V0 V1 V2 V3 V4 V5 V6 q4 _ hq7) zc_X12_413 rfl (zE_at zd_88) ⟨_, _, rfl⟩ rfl (Nat.le_of_ble_eq_true rfl) (Nat.le_of_ble_eq_true rfl) rfl ?_
      refine zR_aload_n dX12_begin_220 0 rfl ?_
      obtain ⟨q8, hq9, h⟩ := zbd_some h
      refine zR_cV (rest := []) (st1 := []) dX12_begin_221 (mX12_serves F V0 V1 V2 V3 V4 V5 V6 q6 _ hq9) zc_X12_416 rfl (zE_at zd_88) ⟨_, _, rfl⟩ rfl (Nat.le_of_ble_eq_true rfl) (Nat.le_of_ble_eq_true rfl) rfl ?_
      refine zR_aload_n dX12_begin_224 0 rfl ?_
      refine zR_iconst (x := (0 : Int32)) dX12_begin_225 rfl ?_
      obtain ⟨V7_10, e11, h⟩ := zlet_some h
      refine zG_putI zds_ok dX12_begin_226 zf_X12_419 zt_X12_88 zd_88 rfl rfl e11 rfl ?_
      refine zR_aload_n dX12_begin_229 0 rfl ?_
      refine zR_iconst (x := (0 : Int32)) dX12_begin_230 rfl ?_
      obtain ⟨V7_12, e13, h⟩ := zlet_some h
      refine zG_putZ zds_ok dX12_begin_231 zf_X12_422 zt_X12_89 zd_88 rfl rfl (Or.inl rfl) e13 rfl ?_
      refine zR_aload_n dX12_begin_234 0 rfl ?_
      refine zR_iconst (x := (0 : Int32)) dX12_begin_235 rfl ?_
      obtain ⟨V7_14, e15, h⟩ := zlet_some h
      refine zG_putI zds_ok dX12_begin_236 zf_X12_425 zt_X12_90 zd_88 rfl rfl e15 rfl ?_
      refine zR_aload_n dX12_begin_239 0 rfl ?_
      refine zR_bipush (x := (7 : Int32)) dX12_begin_240 rfl ?_
      obtain ⟨q16, hq17, h⟩ := zbd_some h
      refine zR_cV (rest := []) (st1 := [.int q16]) dX12_begin_242 (mX12_sort F V0 V1 V2 V3 V4 V5 V6 V7_14 (7 : Int32) _ hq17) zc_X12_370 rfl (zE_at zd_88) ⟨_, _, rfl⟩ rfl (Nat.le_of_ble_eq_true rfl) (Nat.le_of_ble_eq_true rfl) rfl ?_
      by_cases c18 : q16 ≤ 0
      · have h := zif_t h c18
        refine zR_if_le_t (tgt := 257) dX12_begin_245 (by decide) c18 ?_
        refine zR_sub (lv' := [(0, .ref (w.1 + 88))]) [0] rfl ?_
        exact wX12_begin_b257 F V0 V1 V2 V3 V4 V5 V6 V7_14 _ h
      · have h := zif_f h c18
        refine zR_if_le_f (tgt := 257) dX12_begin_245 (by decide) c18 ?_
        refine zR_aload_n dX12_begin_248 0 rfl ?_
        refine zR_iconst (x := (0 : Int32)) dX12_begin_249 rfl ?_
        obtain ⟨q19, hq20, h⟩ := zbd_some h
        refine zR_cV (rest := []) (st1 := []) dX12_begin_250 (mX12_starts F V0 V1 V2 V3 V4 V5 V6 V7_14 (0 : Int32) _ hq20) zc_X12_428 rfl (zE_at zd_88) ⟨_, _, rfl⟩ rfl (Nat.le_of_ble_eq_true rfl) (Nat.le_of_ble_eq_true rfl) rfl ?_
        refine zR_aload_n dX12_begin_253 0 rfl ?_
        obtain ⟨q21, hq22, h⟩ := zbd_some h
        refine zR_cV (rest := []) (st1 := []) dX12_begin_254 (mX12_works F V0 V1 V2 V3 V4 V5 V6 q19 _ hq22) zc_X12_430 rfl (zE_at zd_88) ⟨_, _, rfl⟩ rfl (Nat.le_of_ble_eq_true rfl) (Nat.le_of_ble_eq_true rfl) rfl ?_
        refine zR_sub (lv' := [(0, .ref (w.1 + 88))]) [0] rfl ?_
        exact wX12_begin_b257 F V0 V1 V2 V3 V4 V5 V6 q21 _ h
    · have h := zif_f h c3
      refine zR_icmp_ge_f (tgt := 212) dX12_begin_189 (by decide) c3 ?_
      refine zR_aload_n dX12_begin_192 0 rfl ?_
      refine zG_getR dX12_begin_193 zf_X12_177 zd_88 rfl rfl ?_
      refine zR_iload_n dX12_begin_196 1 rfl ?_
      refine zR_iconst (x := (0 : Int32)) dX12_begin_197 rfl ?_
      obtain ⟨g23, h⟩ := zchk_some h
      obtain ⟨V7_24, e25, h⟩ := zlet_some h
      refine zG_iast zds_ok dX12_begin_198 zd_141 rfl rfl g23 e25 rfl ?_
      refine zR_aload_n dX12_begin_199 0 rfl ?_
      refine zG_getR dX12_begin_200 zf_X12_180 zd_88 rfl rfl ?_
      refine zR_iload_n dX12_begin_203 1 rfl ?_
      refine zR_iconst (x := (-1 : Int32)) dX12_begin_204 (by decide) ?_
      obtain ⟨g26, h⟩ := zchk_some h
      obtain ⟨V7_27, e28, h⟩ := zlet_some h
      refine zG_iast zds_ok dX12_begin_205 zd_142 rfl rfl g26 e28 rfl ?_
      refine zR_iinc (u := (x1 + 1)) (lv' := [(0, .ref (w.1 + 88)), (1, .int (x1 + 1))]) dX12_begin_206 1 rfl rfl (Nat.le_of_ble_eq_true rfl) rfl ?_
      refine zR_goto (tgt := 186) dX12_begin_209 (by decide) ?_
      exact ih V0 V1 V2 V3 V4 V5 V6 V7_27 (x1 + 1) _ h
set_option maxRecDepth 100000 in
set_option maxHeartbeats 4000000 in
theorem wX12_begin_l144 {w : zW} (F : Nat) : ∀ (n : Nat) (V0 V1 V2 V3 V4 V5 V6 V7 : zV) (x1 : Int32) (res : Int32 × zV), fX12_begin_l144 F n V7 x1 = some res → zR w kX12_begin 5 0 0 (some (.int res.1)) (zE zds w [V0, V1, V2, V3, V4, V5, V6, res.2]) 144 [(0, .ref (w.1 + 88)), (1, .int x1)] [] (zE zds w [V0, V1, V2, V3, V4, V5, V6, V7]) := by
  intro n
  induction n with
  | zero =>
    intro V0 V1 V2 V3 V4 V5 V6 V7 x1 res h
    simp [fX12_begin_l144] at h
  | succ n ih =>
    intro V0 V1 V2 V3 V4 V5 V6 V7 x1 res h
    rw [fX12_begin_l144] at h
    refine zR_iload_n dX12_begin_144 1 rfl ?_
    refine zR_bipush (x := (12 : Int32)) dX12_begin_145 rfl ?_
    by_cases c29 : (12 : Int32) ≤ x1
    · have h := zif_t h c29
      refine zR_icmp_ge_t (tgt := 184) dX12_begin_147 (by decide) c29 ?_
      refine zR_iconst (x := (0 : Int32)) dX12_begin_184 rfl ?_
      refine zR_istore_n (lv' := [(0, .ref (w.1 + 88)), (1, .int (0 : Int32))]) dX12_begin_185 (Nat.le_of_ble_eq_true rfl) rfl ?_
      exact wX12_begin_l186 F F V0 V1 V2 V3 V4 V5 V6 V7 (0 : Int32) _ h
    · have h := zif_f h c29
      refine zR_icmp_ge_f (tgt := 184) dX12_begin_147 (by decide) c29 ?_
      refine zR_aload_n dX12_begin_150 0 rfl ?_
      refine zG_getR dX12_begin_151 zf_X12_165 zd_88 rfl rfl ?_
      refine zR_iload_n dX12_begin_154 1 rfl ?_
      refine zR_iconst (x := (0 : Int32)) dX12_begin_155 rfl ?_
      obtain ⟨g30, h⟩ := zchk_some h
      obtain ⟨V7_31, e32, h⟩ := zlet_some h
      refine zG_zast zds_ok dX12_begin_156 zd_137 rfl rfl g30 e32 rfl ?_
      refine zR_aload_n dX12_begin_157 0 rfl ?_
      refine zG_getR dX12_begin_158 zf_X12_168 zd_88 rfl rfl ?_
      refine zR_iload_n dX12_begin_161 1 rfl ?_
      refine zR_iconst (x := (0 : Int32)) dX12_begin_162 rfl ?_
      obtain ⟨g33, h⟩ := zchk_some h
      obtain ⟨V7_34, e35, h⟩ := zlet_some h
      refine zG_iast zds_ok dX12_begin_163 zd_138 rfl rfl g33 e35 rfl ?_
      refine zR_aload_n dX12_begin_164 0 rfl ?_
      refine zG_getR dX12_begin_165 zf_X12_171 zd_88 rfl rfl ?_
      refine zR_iload_n dX12_begin_168 1 rfl ?_
      refine zR_iconst (x := (0 : Int32)) dX12_begin_169 rfl ?_
      obtain ⟨g36, h⟩ := zchk_some h
      obtain ⟨V7_37, e38, h⟩ := zlet_some h
      refine zG_iast zds_ok dX12_begin_170 zd_139 rfl rfl g36 e38 rfl ?_
      refine zR_aload_n dX12_begin_171 0 rfl ?_
      refine zG_getR dX12_begin_172 zf_X12_174 zd_88 rfl rfl ?_
      refine zR_iload_n dX12_begin_175 1 rfl ?_
      refine zR_iconst (x := (0 : Int32)) dX12_begin_176 rfl ?_
      obtain ⟨g39, h⟩ := zchk_some h
      obtain ⟨V7_40, e41, h⟩ := zlet_some h
      refine zG_iast zds_ok dX12_begin_177 zd_140 rfl rfl g39 e41 rfl ?_
      refine zR_iinc (u := (x1 + 1)) (lv' := [(0, .ref (w.1 + 88)), (1, .int (x1 + 1))]) dX12_begin_178 1 rfl rfl (Nat.le_of_ble_eq_true rfl) rfl ?_
      refine zR_goto (tgt := 144) dX12_begin_181 (by decide) ?_
      exact ih V0 V1 V2 V3 V4 V5 V6 V7_40 (x1 + 1) _ h
set_option maxRecDepth 100000 in
set_option maxHeartbeats 4000000 in
theorem wX12_begin_l95 {w : zW} (F : Nat) : ∀ (n : Nat) (V0 V1 V2 V3 V4 V5 V6 V7 : zV) (x1 : Int32) (res : Int32 × zV), fX12_begin_l95 F n V7 x1 = some res → zR w kX12_begin 5 0 0 (some (.int res.1)) (zE zds w [V0, V1, V2, V3, V4, V5, V6, res.2]) 95 [(0, .ref (w.1 + 88)), (1, .int x1)] [] (zE zds w [V0, V1, V2, V3, V4, V5, V6, V7]) := by
  intro n
  induction n with
  | zero =>
    intro V0 V1 V2 V3 V4 V5 V6 V7 x1 res h
    simp [fX12_begin_l95] at h
  | succ n ih =>
    intro V0 V1 V2 V3 V4 V5 V6 V7 x1 res h
    rw [fX12_begin_l95] at h
    refine zR_iload_n dX12_begin_95 1 rfl ?_
    refine zR_bipush (x := (16 : Int32)) dX12_begin_96 rfl ?_
    by_cases c42 : (16 : Int32) ≤ x1
    · have h := zif_t h c42
      refine zR_icmp_ge_t (tgt := 142) dX12_begin_98 (by decide) c42 ?_
      refine zR_iconst (x := (0 : Int32)) dX12_begin_142 rfl ?_
      refine zR_istore_n (lv' := [(0, .ref (w.1 + 88)), (1, .int (0 : Int32))]) dX12_begin_143 (Nat.le_of_ble_eq_true rfl) rfl ?_
      exact wX12_begin_l144 F F V0 V1 V2 V3 V4 V5 V6 V7 (0 : Int32) _ h
    · have h := zif_f h c42
      refine zR_icmp_ge_f (tgt := 142) dX12_begin_98 (by decide) c42 ?_
      refine zR_aload_n dX12_begin_101 0 rfl ?_
      refine zG_getR dX12_begin_102 zf_X12_150 zd_88 rfl rfl ?_
      refine zR_iload_n dX12_begin_105 1 rfl ?_
      refine zR_iconst (x := (0 : Int32)) dX12_begin_106 rfl ?_
      obtain ⟨g43, h⟩ := zchk_some h
      obtain ⟨V7_44, e45, h⟩ := zlet_some h
      refine zG_iast zds_ok dX12_begin_107 zd_132 rfl rfl g43 e45 rfl ?_
      refine zR_aload_n dX12_begin_108 0 rfl ?_
      refine zG_getR dX12_begin_109 zf_X12_153 zd_88 rfl rfl ?_
      refine zR_iload_n dX12_begin_112 1 rfl ?_
      refine zR_iconst (x := (0 : Int32)) dX12_begin_113 rfl ?_
      obtain ⟨g46, h⟩ := zchk_some h
      obtain ⟨V7_47, e48, h⟩ := zlet_some h
      refine zG_iast zds_ok dX12_begin_114 zd_133 rfl rfl g46 e48 rfl ?_
      refine zR_aload_n dX12_begin_115 0 rfl ?_
      refine zG_getR dX12_begin_116 zf_X12_156 zd_88 rfl rfl ?_
      refine zR_iload_n dX12_begin_119 1 rfl ?_
      refine zR_iconst (x := (-1 : Int32)) dX12_begin_120 (by decide) ?_
      obtain ⟨g49, h⟩ := zchk_some h
      obtain ⟨V7_50, e51, h⟩ := zlet_some h
      refine zG_iast zds_ok dX12_begin_121 zd_134 rfl rfl g49 e51 rfl ?_
      refine zR_aload_n dX12_begin_122 0 rfl ?_
      refine zG_getR dX12_begin_123 zf_X12_159 zd_88 rfl rfl ?_
      refine zR_iload_n dX12_begin_126 1 rfl ?_
      refine zR_iconst (x := (0 : Int32)) dX12_begin_127 rfl ?_
      obtain ⟨g52, h⟩ := zchk_some h
      obtain ⟨V7_53, e54, h⟩ := zlet_some h
      refine zG_zast zds_ok dX12_begin_128 zd_135 rfl rfl g52 e54 rfl ?_
      refine zR_aload_n dX12_begin_129 0 rfl ?_
      refine zG_getR dX12_begin_130 zf_X12_162 zd_88 rfl rfl ?_
      refine zR_iload_n dX12_begin_133 1 rfl ?_
      refine zR_iconst (x := (0 : Int32)) dX12_begin_134 rfl ?_
      obtain ⟨g55, h⟩ := zchk_some h
      obtain ⟨V7_56, e57, h⟩ := zlet_some h
      refine zG_iast zds_ok dX12_begin_135 zd_136 rfl rfl g55 e57 rfl ?_
      refine zR_iinc (u := (x1 + 1)) (lv' := [(0, .ref (w.1 + 88)), (1, .int (x1 + 1))]) dX12_begin_136 1 rfl rfl (Nat.le_of_ble_eq_true rfl) rfl ?_
      refine zR_goto (tgt := 95) dX12_begin_139 (by decide) ?_
      exact ih V0 V1 V2 V3 V4 V5 V6 V7_56 (x1 + 1) _ h
set_option maxRecDepth 100000 in
set_option maxHeartbeats 4000000 in
theorem wX12_begin_l61 {w : zW} (F : Nat) : ∀ (n : Nat) (V0 V1 V2 V3 V4 V5 V6 V7 : zV) (x1 : Int32) (res : Int32 × zV), fX12_begin_l61 F n V7 x1 = some res → zR w kX12_begin 5 0 0 (some (.int res.1)) (zE zds w [V0, V1, V2, V3, V4, V5, V6, res.2]) 61 [(0, .ref (w.1 + 88)), (1, .int x1)] [] (zE zds w [V0, V1, V2, V3, V4, V5, V6, V7]) := by
  intro n
  induction n with
  | zero =>
    intro V0 V1 V2 V3 V4 V5 V6 V7 x1 res h
    simp [fX12_begin_l61] at h
  | succ n ih =>
    intro V0 V1 V2 V3 V4 V5 V6 V7 x1 res h
    rw [fX12_begin_l61] at h
    refine zR_iload_n dX12_begin_61 1 rfl ?_
    refine zR_bipush (x := (16 : Int32)) dX12_begin_62 rfl ?_
    by_cases c58 : (16 : Int32) ≤ x1
    · have h := zif_t h c58
      refine zR_icmp_ge_t (tgt := 93) dX12_begin_64 (by decide) c58 ?_
      refine zR_iconst (x := (0 : Int32)) dX12_begin_93 rfl ?_
      refine zR_istore_n (lv' := [(0, .ref (w.1 + 88)), (1, .int (0 : Int32))]) dX12_begin_94 (Nat.le_of_ble_eq_true rfl) rfl ?_
      exact wX12_begin_l95 F F V0 V1 V2 V3 V4 V5 V6 V7 (0 : Int32) _ h
    · have h := zif_f h c58
      refine zR_icmp_ge_f (tgt := 93) dX12_begin_64 (by decide) c58 ?_
      refine zR_aload_n dX12_begin_67 0 rfl ?_
      refine zG_getR dX12_begin_68 zf_X12_147 zd_88 rfl rfl ?_
      refine zR_iload_n dX12_begin_71 1 rfl ?_
      refine zR_aload_n dX12_begin_72 0 rfl ?_
      refine zG_getR dX12_begin_73 zf_X12_76 zd_88 rfl rfl ?_
      refine zR_bipush (x := (16 : Int32)) dX12_begin_76 rfl ?_
      refine zR_aload_n dX12_begin_78 0 rfl ?_
      refine zG_getI dX12_begin_79 zf_X12_308 zd_88 rfl rfl ?_
      refine zR_imul dX12_begin_82 ?_
      refine zR_iload_n dX12_begin_83 1 rfl ?_
      refine zR_iadd dX12_begin_84 ?_
      obtain ⟨g59, h⟩ := zchk_some h
      refine zG_iald dX12_begin_85 zd_108 rfl rfl g59 ?_
      obtain ⟨g60, h⟩ := zchk_some h
      obtain ⟨V7_61, e62, h⟩ := zlet_some h
      refine zG_iast zds_ok dX12_begin_86 zd_131 rfl rfl g60 e62 rfl ?_
      refine zR_iinc (u := (x1 + 1)) (lv' := [(0, .ref (w.1 + 88)), (1, .int (x1 + 1))]) dX12_begin_87 1 rfl rfl (Nat.le_of_ble_eq_true rfl) rfl ?_
      refine zR_goto (tgt := 61) dX12_begin_90 (by decide) ?_
      exact ih V0 V1 V2 V3 V4 V5 V6 V7_61 (x1 + 1) _ h
set_option maxRecDepth 100000 in
set_option maxHeartbeats 4000000 in
theorem mX12_begin {w : zW} (F : Nat) (V0 V1 V2 V3 V4 V5 V6 V7 : zV) (res : Int32 × zV) (h : fX12_begin F V7 = some res) : zMet w kX12_begin 5 0 0 [.ref (w.1 + 88)] (zE zds w [V0, V1, V2, V3, V4, V5, V6, V7]) (some (.int res.1)) (zE zds w [V0, V1, V2, V3, V4, V5, V6, res.2]) := by
  refine zMet_of (by decide) (Nat.le_of_ble_eq_true rfl) (Nat.le_refl 0) fun _ => ?_
  show zR w kX12_begin 5 0 0 (some (.int res.1)) (zE zds w [V0, V1, V2, V3, V4, V5, V6, res.2]) 0 [(0, .ref (w.1 + 88))] [] (zE zds w [V0, V1, V2, V3, V4, V5, V6, V7])
  unfold fX12_begin at h
  refine zR_aload_n dX12_begin_0 0 rfl ?_
  refine zG_getI dX12_begin_1 zf_X12_329 zd_88 rfl rfl ?_
  by_cases c63 : (zI V7 0 20) = 0
  · have h := zif_t h c63
    refine zR_if_ne_f (tgt := 9) dX12_begin_4 (by decide) c63 ?_
    refine zR_iconst (x := (0 : Int32)) dX12_begin_7 rfl ?_
    have h := Option.some.inj h
    subst h
    exact zR_iret (x := (0 : Int32)) dX12_begin_8 rfl znar0
  · have h := zif_f h c63
    refine zR_if_ne_t (tgt := 9) dX12_begin_4 (by decide) c63 ?_
    refine zR_aload_n dX12_begin_9 0 rfl ?_
    refine zR_iconst (x := (1 : Int32)) dX12_begin_10 rfl ?_
    obtain ⟨V7_64, e65, h⟩ := zlet_some h
    refine zG_putZ zds_ok dX12_begin_11 zf_X12_333 zt_X12_64 zd_88 rfl rfl (Or.inr rfl) e65 rfl ?_
    refine zR_aload_n dX12_begin_14 0 rfl ?_
    refine zR_lconst (x := (0 : Int64)) dX12_begin_15 rfl ?_
    obtain ⟨V7_66, e67, h⟩ := zlet_some h
    refine zG_putL zds_ok dX12_begin_16 zf_X12_388 zt_X12_65 zd_88 rfl rfl e67 rfl ?_
    refine zR_aload_n dX12_begin_19 0 rfl ?_
    refine zR_iconst (x := (1 : Int32)) dX12_begin_20 rfl ?_
    obtain ⟨V7_68, e69, h⟩ := zlet_some h
    refine zG_putI zds_ok dX12_begin_21 zf_X12_392 zt_X12_66 zd_88 rfl rfl e69 rfl ?_
    refine zR_aload_n dX12_begin_24 0 rfl ?_
    refine zR_iconst (x := (0 : Int32)) dX12_begin_25 rfl ?_
    obtain ⟨V7_70, e71, h⟩ := zlet_some h
    refine zG_putI zds_ok dX12_begin_26 zf_X12_382 zt_X12_67 zd_88 rfl rfl e71 rfl ?_
    refine zR_aload_n dX12_begin_29 0 rfl ?_
    refine zR_iconst (x := (0 : Int32)) dX12_begin_30 rfl ?_
    obtain ⟨V7_72, e73, h⟩ := zlet_some h
    refine zG_putI zds_ok dX12_begin_31 zf_X12_395 zt_X12_68 zd_88 rfl rfl e73 rfl ?_
    refine zR_aload_n dX12_begin_34 0 rfl ?_
    refine zR_iconst (x := (0 : Int32)) dX12_begin_35 rfl ?_
    obtain ⟨V7_74, e75, h⟩ := zlet_some h
    refine zG_putI zds_ok dX12_begin_36 zf_X12_385 zt_X12_69 zd_88 rfl rfl e75 rfl ?_
    refine zR_aload_n dX12_begin_39 0 rfl ?_
    refine zR_iconst (x := (0 : Int32)) dX12_begin_40 rfl ?_
    obtain ⟨V7_76, e77, h⟩ := zlet_some h
    refine zG_putZ zds_ok dX12_begin_41 zf_X12_398 zt_X12_70 zd_88 rfl rfl (Or.inl rfl) e77 rfl ?_
    refine zR_aload_n dX12_begin_44 0 rfl ?_
    refine zR_iconst (x := (0 : Int32)) dX12_begin_45 rfl ?_
    obtain ⟨V7_78, e79, h⟩ := zlet_some h
    refine zG_putZ zds_ok dX12_begin_46 zf_X12_401 zt_X12_71 zd_88 rfl rfl (Or.inl rfl) e79 rfl ?_
    refine zR_aload_n dX12_begin_49 0 rfl ?_
    refine zR_iconst (x := (0 : Int32)) dX12_begin_50 rfl ?_
    obtain ⟨V7_80, e81, h⟩ := zlet_some h
    refine zG_putI zds_ok dX12_begin_51 zf_X12_404 zt_X12_72 zd_88 rfl rfl e81 rfl ?_
    refine zR_aload_n dX12_begin_54 0 rfl ?_
    refine zR_iconst (x := (0 : Int32)) dX12_begin_55 rfl ?_
    obtain ⟨V7_82, e83, h⟩ := zlet_some h
    refine zG_putI zds_ok dX12_begin_56 zf_X12_407 zt_X12_85 zd_88 rfl rfl e83 rfl ?_
    refine zR_iconst (x := (0 : Int32)) dX12_begin_59 rfl ?_
    refine zR_istore_n (lv' := [(0, .ref (w.1 + 88)), (1, .int (0 : Int32))]) dX12_begin_60 (Nat.le_of_ble_eq_true rfl) rfl ?_
    exact wX12_begin_l61 F F V0 V1 V2 V3 V4 V5 V6 V7_82 (0 : Int32) _ h
set_option maxRecDepth 100000 in
set_option maxHeartbeats 4000000 in
theorem wX12_passes_b292 {w : zW} (F : Nat) (V0 V1 V2 V3 V4 V5 V6 V7 : zV) (res : zV) (h : fX12_passes_b292 F V7 = some res) : zR w kX12_passes 2 0 0 none (zE zds w [V0, V1, V2, V3, V4, V5, V6, res]) 292 [(0, .ref (w.1 + 88))] [] (zE zds w [V0, V1, V2, V3, V4, V5, V6, V7]) := by
  unfold fX12_passes_b292 at h
  refine zR_aload_n dX12_passes_292 0 rfl ?_
  obtain ⟨q1, hq2, h⟩ := zbd_some h
  refine zR_cV (rest := []) (st1 := []) dX12_passes_293 (mX12_knows F V0 V1 V2 V3 V4 V5 V6 V7 _ hq2) zc_X12_379 rfl (zE_at zd_88) ⟨_, _, rfl⟩ rfl (Nat.le_of_ble_eq_true rfl) (Nat.le_of_ble_eq_true rfl) rfl ?_
  have h := Option.some.inj h
  subst h
  exact zR_ret dX12_passes_296 rfl
set_option maxRecDepth 100000 in
set_option maxHeartbeats 4000000 in
theorem wX12_passes_b274 {w : zW} (F : Nat) (k179 : zV → Int32 → Int32 → Int32 → Option (zV)) (hk179 : ∀ (V0 V1 V2 V3 V4 V5 V6 V7 : zV) (x3 : Int32) (x4 : Int32) (x5 : Int32) (res : zV), k179 V7 x3 x4 x5 = some res → zR w kX12_passes 2 0 0 none (zE zds w [V0, V1, V2, V3, V4, V5, V6, res]) 179 [(0, .ref (w.1 + 88)), (3, .int x3), (4, .int x4), (5, .int x5)] [] (zE zds w [V0, V1, V2, V3, V4, V5, V6, V7])) (V0 V1 V2 V3 V4 V5 V6 V7 : zV) (x3 : Int32) (x4 : Int32) (x5 : Int32) (res : zV) (h : fX12_passes_b274 F k179 V7 x3 x4 x5 = some res) : zR w kX12_passes 2 0 0 none (zE zds w [V0, V1, V2, V3, V4, V5, V6, res]) 274 [(0, .ref (w.1 + 88)), (3, .int x3), (4, .int x4), (5, .int x5)] [] (zE zds w [V0, V1, V2, V3, V4, V5, V6, V7]) := by
  unfold fX12_passes_b274 at h
  refine zR_iinc (u := (x5 + 1)) (lv' := [(0, .ref (w.1 + 88)), (3, .int x3), (4, .int x4), (5, .int (x5 + 1))]) dX12_passes_274 3 rfl rfl (Nat.le_of_ble_eq_true rfl) rfl ?_
  refine zR_goto (tgt := 179) dX12_passes_277 (by decide) ?_
  exact hk179 V0 V1 V2 V3 V4 V5 V6 V7 x3 x4 (x5 + 1) _ h
set_option maxRecDepth 100000 in
set_option maxHeartbeats 4000000 in
theorem wX12_passes_l179 {w : zW} (F : Nat) (k165 : zV → Int32 → Int32 → Option (zV)) (hk165 : ∀ (V0 V1 V2 V3 V4 V5 V6 V7 : zV) (x3 : Int32) (x4 : Int32) (res : zV), k165 V7 x3 x4 = some res → zR w kX12_passes 2 0 0 none (zE zds w [V0, V1, V2, V3, V4, V5, V6, res]) 165 [(0, .ref (w.1 + 88)), (3, .int x3), (4, .int x4)] [] (zE zds w [V0, V1, V2, V3, V4, V5, V6, V7])) : ∀ (n : Nat) (V0 V1 V2 V3 V4 V5 V6 V7 : zV) (x3 : Int32) (x4 : Int32) (x5 : Int32) (res : zV), fX12_passes_l179 F k165 n V7 x3 x4 x5 = some res → zR w kX12_passes 2 0 0 none (zE zds w [V0, V1, V2, V3, V4, V5, V6, res]) 179 [(0, .ref (w.1 + 88)), (3, .int x3), (4, .int x4), (5, .int x5)] [] (zE zds w [V0, V1, V2, V3, V4, V5, V6, V7]) := by
  intro n
  induction n with
  | zero =>
    intro V0 V1 V2 V3 V4 V5 V6 V7 x3 x4 x5 res h
    simp [fX12_passes_l179] at h
  | succ n ih =>
    intro V0 V1 V2 V3 V4 V5 V6 V7 x3 x4 x5 res h
    rw [fX12_passes_l179] at h
    refine zR_iload dX12_passes_179 3 rfl ?_
    refine zR_aload_n dX12_passes_181 0 rfl ?_
    refine zR_iconst (x := (4 : Int32)) dX12_passes_182 rfl ?_
    obtain ⟨q3, hq4, h⟩ := zbd_some h
    refine zR_cV (rest := [.int x5]) (st1 := [.int q3, .int x5]) dX12_passes_183 (mX12_sort F V0 V1 V2 V3 V4 V5 V6 V7 (4 : Int32) _ hq4) zc_X12_370 rfl (zE_at zd_88) ⟨_, _, rfl⟩ rfl (Nat.le_of_ble_eq_true rfl) (Nat.le_of_ble_eq_true rfl) rfl ?_
    by_cases c5 : q3 ≤ x5
    · have h := zif_t h c5
      refine zR_icmp_ge_t (tgt := 280) dX12_passes_186 (by decide) c5 ?_
      refine zR_iinc (u := (x4 + 1)) (lv' := [(0, .ref (w.1 + 88)), (3, .int x3), (4, .int (x4 + 1)), (5, .int x5)]) dX12_passes_280 2 rfl rfl (Nat.le_of_ble_eq_true rfl) rfl ?_
      refine zR_goto (tgt := 165) dX12_passes_283 (by decide) ?_
      refine zR_sub (lv' := [(0, .ref (w.1 + 88)), (3, .int x3), (4, .int (x4 + 1))]) [0, 1, 2] rfl ?_
      exact hk165 V0 V1 V2 V3 V4 V5 V6 V7 x3 (x4 + 1) _ h
    · have h := zif_f h c5
      refine zR_icmp_ge_f (tgt := 280) dX12_passes_186 (by decide) c5 ?_
      refine zR_aload_n dX12_passes_189 0 rfl ?_
      refine zG_getI dX12_passes_190 zf_X12_382 zd_88 rfl rfl ?_
      by_cases c6 : (zI V7 0 67) = 0
      · have h := zif_t h c6
        refine zR_if_ne_f (tgt := 204) dX12_passes_193 (by decide) c6 ?_
        refine zR_aload_n dX12_passes_196 0 rfl ?_
        refine zR_iconst (x := (0 : Int32)) dX12_passes_197 rfl ?_
        obtain ⟨q15, hq16, h⟩ := zbd_some h
        refine zR_cV (rest := []) (st1 := []) dX12_passes_198 (mX12_comes F V0 V1 V2 V3 V4 V5 V6 V7 (0 : Int32) _ hq16) zc_X12_373 rfl (zE_at zd_88) ⟨_, _, rfl⟩ rfl (Nat.le_of_ble_eq_true rfl) (Nat.le_of_ble_eq_true rfl) rfl ?_
        refine zR_goto (tgt := 274) dX12_passes_201 (by decide) ?_
        exact wX12_passes_b274 F (fX12_passes_l179 F k165 n) ih V0 V1 V2 V3 V4 V5 V6 q15 x3 x4 x5 _ h
      · have h := zif_f h c6
        refine zR_if_ne_t (tgt := 204) dX12_passes_193 (by decide) c6 ?_
        refine zR_aload_n dX12_passes_204 0 rfl ?_
        refine zG_getI dX12_passes_205 zf_X12_382 zd_88 rfl rfl ?_
        refine zR_iconst (x := (1 : Int32)) dX12_passes_208 rfl ?_
        by_cases c7 : (zI V7 0 67) = (1 : Int32)
        · have h := zif_t h c7
          refine zR_icmp_ne_f (tgt := 224) dX12_passes_209 (by decide) c7 ?_
          refine zR_aload_n dX12_passes_212 0 rfl ?_
          refine zR_iconst (x := (1 : Int32)) dX12_passes_213 rfl ?_
          refine zR_iconst (x := (2 : Int32)) dX12_passes_214 rfl ?_
          refine zR_iload_n dX12_passes_215 1 rfl ?_
          refine zR_imul dX12_passes_216 ?_
          refine zR_ishl dX12_passes_217 ?_
          obtain ⟨q13, hq14, h⟩ := zbd_some h
          refine zR_cV (rest := []) (st1 := []) dX12_passes_218 (mX12_comes F V0 V1 V2 V3 V4 V5 V6 V7 ((1 : Int32) <<< (((2 : Int32) * x3) &&& 31)) _ hq14) zc_X12_373 rfl (zE_at zd_88) ⟨_, _, rfl⟩ rfl (Nat.le_of_ble_eq_true rfl) (Nat.le_of_ble_eq_true rfl) rfl ?_
          refine zR_goto (tgt := 274) dX12_passes_221 (by decide) ?_
          exact wX12_passes_b274 F (fX12_passes_l179 F k165 n) ih V0 V1 V2 V3 V4 V5 V6 q13 x3 x4 x5 _ h
        · have h := zif_f h c7
          refine zR_icmp_ne_t (tgt := 224) dX12_passes_209 (by decide) c7 ?_
          refine zR_aload_n dX12_passes_224 0 rfl ?_
          refine zG_getI dX12_passes_225 zf_X12_382 zd_88 rfl rfl ?_
          refine zR_iconst (x := (2 : Int32)) dX12_passes_228 rfl ?_
          by_cases c8 : (zI V7 0 67) = (2 : Int32)
          · have h := zif_t h c8
            refine zR_icmp_ne_f (tgt := 251) dX12_passes_229 (by decide) c8 ?_
            refine zR_aload_n dX12_passes_232 0 rfl ?_
            refine zR_iconst (x := (1 : Int32)) dX12_passes_233 rfl ?_
            refine zR_iconst (x := (2 : Int32)) dX12_passes_234 rfl ?_
            refine zR_iload_n dX12_passes_235 1 rfl ?_
            refine zR_imul dX12_passes_236 ?_
            refine zR_ishl dX12_passes_237 ?_
            refine zR_iconst (x := (1 : Int32)) dX12_passes_238 rfl ?_
            refine zR_iconst (x := (2 : Int32)) dX12_passes_239 rfl ?_
            refine zR_iload dX12_passes_240 2 rfl ?_
            refine zR_imul dX12_passes_242 ?_
            refine zR_ishl dX12_passes_243 ?_
            refine zR_iadd dX12_passes_244 ?_
            obtain ⟨q11, hq12, h⟩ := zbd_some h
            refine zR_cV (rest := []) (st1 := []) dX12_passes_245 (mX12_comes F V0 V1 V2 V3 V4 V5 V6 V7 (((1 : Int32) <<< (((2 : Int32) * x3) &&& 31)) + ((1 : Int32) <<< (((2 : Int32) * x4) &&& 31))) _ hq12) zc_X12_373 rfl (zE_at zd_88) ⟨_, _, rfl⟩ rfl (Nat.le_of_ble_eq_true rfl) (Nat.le_of_ble_eq_true rfl) rfl ?_
            refine zR_goto (tgt := 274) dX12_passes_248 (by decide) ?_
            exact wX12_passes_b274 F (fX12_passes_l179 F k165 n) ih V0 V1 V2 V3 V4 V5 V6 q11 x3 x4 x5 _ h
          · have h := zif_f h c8
            refine zR_icmp_ne_t (tgt := 251) dX12_passes_229 (by decide) c8 ?_
            refine zR_aload_n dX12_passes_251 0 rfl ?_
            refine zR_iconst (x := (1 : Int32)) dX12_passes_252 rfl ?_
            refine zR_iconst (x := (2 : Int32)) dX12_passes_253 rfl ?_
            refine zR_iload_n dX12_passes_254 1 rfl ?_
            refine zR_imul dX12_passes_255 ?_
            refine zR_ishl dX12_passes_256 ?_
            refine zR_iconst (x := (1 : Int32)) dX12_passes_257 rfl ?_
            refine zR_iconst (x := (2 : Int32)) dX12_passes_258 rfl ?_
            refine zR_iload dX12_passes_259 2 rfl ?_
            refine zR_imul dX12_passes_261 ?_
            refine zR_ishl dX12_passes_262 ?_
            refine zR_iadd dX12_passes_263 ?_
            refine zR_iconst (x := (1 : Int32)) dX12_passes_264 rfl ?_
            refine zR_iconst (x := (2 : Int32)) dX12_passes_265 rfl ?_
            refine zR_iload dX12_passes_266 3 rfl ?_
            refine zR_imul dX12_passes_268 ?_
            refine zR_ishl dX12_passes_269 ?_
            refine zR_iadd dX12_passes_270 ?_
            obtain ⟨q9, hq10, h⟩ := zbd_some h
            refine zR_cV (rest := []) (st1 := []) dX12_passes_271 (mX12_comes F V0 V1 V2 V3 V4 V5 V6 V7 ((((1 : Int32) <<< (((2 : Int32) * x3) &&& 31)) + ((1 : Int32) <<< (((2 : Int32) * x4) &&& 31))) + ((1 : Int32) <<< (((2 : Int32) * x5) &&& 31))) _ hq10) zc_X12_373 rfl (zE_at zd_88) ⟨_, _, rfl⟩ rfl (Nat.le_of_ble_eq_true rfl) (Nat.le_of_ble_eq_true rfl) rfl ?_
            exact wX12_passes_b274 F (fX12_passes_l179 F k165 n) ih V0 V1 V2 V3 V4 V5 V6 q9 x3 x4 x5 _ h
set_option maxRecDepth 100000 in
set_option maxHeartbeats 4000000 in
theorem wX12_passes_l165 {w : zW} (F : Nat) (k153 : zV → Int32 → Option (zV)) (hk153 : ∀ (V0 V1 V2 V3 V4 V5 V6 V7 : zV) (x3 : Int32) (res : zV), k153 V7 x3 = some res → zR w kX12_passes 2 0 0 none (zE zds w [V0, V1, V2, V3, V4, V5, V6, res]) 153 [(0, .ref (w.1 + 88)), (3, .int x3)] [] (zE zds w [V0, V1, V2, V3, V4, V5, V6, V7])) : ∀ (n : Nat) (V0 V1 V2 V3 V4 V5 V6 V7 : zV) (x3 : Int32) (x4 : Int32) (res : zV), fX12_passes_l165 F k153 n V7 x3 x4 = some res → zR w kX12_passes 2 0 0 none (zE zds w [V0, V1, V2, V3, V4, V5, V6, res]) 165 [(0, .ref (w.1 + 88)), (3, .int x3), (4, .int x4)] [] (zE zds w [V0, V1, V2, V3, V4, V5, V6, V7]) := by
  intro n
  induction n with
  | zero =>
    intro V0 V1 V2 V3 V4 V5 V6 V7 x3 x4 res h
    simp [fX12_passes_l165] at h
  | succ n ih =>
    intro V0 V1 V2 V3 V4 V5 V6 V7 x3 x4 res h
    rw [fX12_passes_l165] at h
    refine zR_iload dX12_passes_165 2 rfl ?_
    refine zR_aload_n dX12_passes_167 0 rfl ?_
    refine zR_iconst (x := (4 : Int32)) dX12_passes_168 rfl ?_
    obtain ⟨q17, hq18, h⟩ := zbd_some h
    refine zR_cV (rest := [.int x4]) (st1 := [.int q17, .int x4]) dX12_passes_169 (mX12_sort F V0 V1 V2 V3 V4 V5 V6 V7 (4 : Int32) _ hq18) zc_X12_370 rfl (zE_at zd_88) ⟨_, _, rfl⟩ rfl (Nat.le_of_ble_eq_true rfl) (Nat.le_of_ble_eq_true rfl) rfl ?_
    by_cases c19 : q17 ≤ x4
    · have h := zif_t h c19
      refine zR_icmp_ge_t (tgt := 286) dX12_passes_172 (by decide) c19 ?_
      refine zR_iinc (u := (x3 + 1)) (lv' := [(0, .ref (w.1 + 88)), (3, .int (x3 + 1)), (4, .int x4)]) dX12_passes_286 1 rfl rfl (Nat.le_of_ble_eq_true rfl) rfl ?_
      refine zR_goto (tgt := 153) dX12_passes_289 (by decide) ?_
      refine zR_sub (lv' := [(0, .ref (w.1 + 88)), (3, .int (x3 + 1))]) [0, 1] rfl ?_
      exact hk153 V0 V1 V2 V3 V4 V5 V6 V7 (x3 + 1) _ h
    · have h := zif_f h c19
      refine zR_icmp_ge_f (tgt := 286) dX12_passes_172 (by decide) c19 ?_
      refine zR_iload dX12_passes_175 2 rfl ?_
      refine zR_istore (lv' := [(0, .ref (w.1 + 88)), (3, .int x3), (4, .int x4), (5, .int x4)]) dX12_passes_177 (Nat.le_of_ble_eq_true rfl) rfl ?_
      exact wX12_passes_l179 F (fX12_passes_l165 F k153 n) ih F V0 V1 V2 V3 V4 V5 V6 V7 x3 x4 x4 _ h
set_option maxRecDepth 100000 in
set_option maxHeartbeats 4000000 in
theorem wX12_passes_l153 {w : zW} (F : Nat) : ∀ (n : Nat) (V0 V1 V2 V3 V4 V5 V6 V7 : zV) (x3 : Int32) (res : zV), fX12_passes_l153 F n V7 x3 = some res → zR w kX12_passes 2 0 0 none (zE zds w [V0, V1, V2, V3, V4, V5, V6, res]) 153 [(0, .ref (w.1 + 88)), (3, .int x3)] [] (zE zds w [V0, V1, V2, V3, V4, V5, V6, V7]) := by
  intro n
  induction n with
  | zero =>
    intro V0 V1 V2 V3 V4 V5 V6 V7 x3 res h
    simp [fX12_passes_l153] at h
  | succ n ih =>
    intro V0 V1 V2 V3 V4 V5 V6 V7 x3 res h
    rw [fX12_passes_l153] at h
    refine zR_iload_n dX12_passes_153 1 rfl ?_
    refine zR_aload_n dX12_passes_154 0 rfl ?_
    refine zR_iconst (x := (4 : Int32)) dX12_passes_155 rfl ?_
    obtain ⟨q20, hq21, h⟩ := zbd_some h
    refine zR_cV (rest := [.int x3]) (st1 := [.int q20, .int x3]) dX12_passes_156 (mX12_sort F V0 V1 V2 V3 V4 V5 V6 V7 (4 : Int32) _ hq21) zc_X12_370 rfl (zE_at zd_88) ⟨_, _, rfl⟩ rfl (Nat.le_of_ble_eq_true rfl) (Nat.le_of_ble_eq_true rfl) rfl ?_
    by_cases c22 : q20 ≤ x3
    · have h := zif_t h c22
      refine zR_icmp_ge_t (tgt := 292) dX12_passes_159 (by decide) c22 ?_
      refine zR_sub (lv' := [(0, .ref (w.1 + 88))]) [0] rfl ?_
      exact wX12_passes_b292 F V0 V1 V2 V3 V4 V5 V6 V7 _ h
    · have h := zif_f h c22
      refine zR_icmp_ge_f (tgt := 292) dX12_passes_159 (by decide) c22 ?_
      refine zR_iload_n dX12_passes_162 1 rfl ?_
      refine zR_istore (lv' := [(0, .ref (w.1 + 88)), (3, .int x3), (4, .int x3)]) dX12_passes_163 (Nat.le_of_ble_eq_true rfl) rfl ?_
      exact wX12_passes_l165 F (fX12_passes_l153 F n) ih F V0 V1 V2 V3 V4 V5 V6 V7 x3 x3 _ h
set_option maxRecDepth 100000 in
set_option maxHeartbeats 4000000 in
theorem wX12_passes_b123 {w : zW} (F : Nat) (k19 : zV → Int32 → Int32 → Int32 → Option (zV)) (hk19 : ∀ (V0 V1 V2 V3 V4 V5 V6 V7 : zV) (x1 : Int32) (x2 : Int32) (x3 : Int32) (res : zV), k19 V7 x1 x2 x3 = some res → zR w kX12_passes 2 0 0 none (zE zds w [V0, V1, V2, V3, V4, V5, V6, res]) 19 [(0, .ref (w.1 + 88)), (1, .int x1), (2, .int x2), (3, .int x3)] [] (zE zds w [V0, V1, V2, V3, V4, V5, V6, V7])) (V0 V1 V2 V3 V4 V5 V6 V7 : zV) (x1 : Int32) (x2 : Int32) (x3 : Int32) (res : zV) (h : fX12_passes_b123 F k19 V7 x1 x2 x3 = some res) : zR w kX12_passes 2 0 0 none (zE zds w [V0, V1, V2, V3, V4, V5, V6, res]) 123 [(0, .ref (w.1 + 88)), (1, .int x1), (2, .int x2), (3, .int x3)] [] (zE zds w [V0, V1, V2, V3, V4, V5, V6, V7]) := by
  unfold fX12_passes_b123 at h
  refine zR_iinc (u := (x3 + 1)) (lv' := [(0, .ref (w.1 + 88)), (1, .int x1), (2, .int x2), (3, .int (x3 + 1))]) dX12_passes_123 3 rfl rfl (Nat.le_of_ble_eq_true rfl) rfl ?_
  refine zR_goto (tgt := 19) dX12_passes_126 (by decide) ?_
  exact hk19 V0 V1 V2 V3 V4 V5 V6 V7 x1 x2 (x3 + 1) _ h
set_option maxRecDepth 100000 in
set_option maxHeartbeats 4000000 in
theorem wX12_passes_b117 {w : zW} (F : Nat) (k54 : zV → Int32 → Int32 → Int32 → Int32 → Option (zV)) (hk54 : ∀ (V0 V1 V2 V3 V4 V5 V6 V7 : zV) (x1 : Int32) (x2 : Int32) (x3 : Int32) (x4 : Int32) (res : zV), k54 V7 x1 x2 x3 x4 = some res → zR w kX12_passes 2 0 0 none (zE zds w [V0, V1, V2, V3, V4, V5, V6, res]) 54 [(0, .ref (w.1 + 88)), (1, .int x1), (2, .int x2), (3, .int x3), (4, .int x4)] [] (zE zds w [V0, V1, V2, V3, V4, V5, V6, V7])) (V0 V1 V2 V3 V4 V5 V6 V7 : zV) (x1 : Int32) (x2 : Int32) (x3 : Int32) (x4 : Int32) (res : zV) (h : fX12_passes_b117 F k54 V7 x1 x2 x3 x4 = some res) : zR w kX12_passes 2 0 0 none (zE zds w [V0, V1, V2, V3, V4, V5, V6, res]) 117 [(0, .ref (w.1 + 88)), (1, .int x1), (2, .int x2), (3, .int x3), (4, .int x4)] [] (zE zds w [V0, V1, V2, V3, V4, V5, V6, V7]) := by
  unfold fX12_passes_b117 at h
  refine zR_iinc (u := (x4 + 1)) (lv' := [(0, .ref (w.1 + 88)), (1, .int x1), (2, .int x2), (3, .int x3), (4, .int (x4 + 1))]) dX12_passes_117 4 rfl rfl (Nat.le_of_ble_eq_true rfl) rfl ?_
  refine zR_goto (tgt := 54) dX12_passes_120 (by decide) ?_
  exact hk54 V0 V1 V2 V3 V4 V5 V6 V7 x1 x2 x3 (x4 + 1) _ h
set_option maxRecDepth 100000 in
set_option maxHeartbeats 4000000 in
theorem wX12_passes_l54 {w : zW} (F : Nat) (k19 : zV → Int32 → Int32 → Int32 → Option (zV)) (hk19 : ∀ (V0 V1 V2 V3 V4 V5 V6 V7 : zV) (x1 : Int32) (x2 : Int32) (x3 : Int32) (res : zV), k19 V7 x1 x2 x3 = some res → zR w kX12_passes 2 0 0 none (zE zds w [V0, V1, V2, V3, V4, V5, V6, res]) 19 [(0, .ref (w.1 + 88)), (1, .int x1), (2, .int x2), (3, .int x3)] [] (zE zds w [V0, V1, V2, V3, V4, V5, V6, V7])) : ∀ (n : Nat) (V0 V1 V2 V3 V4 V5 V6 V7 : zV) (x1 : Int32) (x2 : Int32) (x3 : Int32) (x4 : Int32) (res : zV), fX12_passes_l54 F k19 n V7 x1 x2 x3 x4 = some res → zR w kX12_passes 2 0 0 none (zE zds w [V0, V1, V2, V3, V4, V5, V6, res]) 54 [(0, .ref (w.1 + 88)), (1, .int x1), (2, .int x2), (3, .int x3), (4, .int x4)] [] (zE zds w [V0, V1, V2, V3, V4, V5, V6, V7]) := by
  intro n
  induction n with
  | zero =>
    intro V0 V1 V2 V3 V4 V5 V6 V7 x1 x2 x3 x4 res h
    simp [fX12_passes_l54] at h
  | succ n ih =>
    intro V0 V1 V2 V3 V4 V5 V6 V7 x1 x2 x3 x4 res h
    rw [fX12_passes_l54] at h
    refine zR_iload dX12_passes_54 4 rfl ?_
    refine zR_aload_n dX12_passes_56 0 rfl ?_
    refine zG_getI dX12_passes_57 zf_X12_376 zd_88 rfl rfl ?_
    by_cases c23 : (zI V7 0 59) ≤ x4
    · have h := zif_t h c23
      refine zR_icmp_ge_t (tgt := 123) dX12_passes_60 (by decide) c23 ?_
      refine zR_sub (lv' := [(0, .ref (w.1 + 88)), (1, .int x1), (2, .int x2), (3, .int x3)]) [0, 1, 2, 3] rfl ?_
      exact wX12_passes_b123 F k19 hk19 V0 V1 V2 V3 V4 V5 V6 V7 x1 x2 x3 _ h
    · have h := zif_f h c23
      refine zR_icmp_ge_f (tgt := 123) dX12_passes_60 (by decide) c23 ?_
      refine zR_aload_n dX12_passes_63 0 rfl ?_
      refine zG_getR dX12_passes_64 zf_X12_136 zd_88 rfl rfl ?_
      refine zR_iload dX12_passes_67 4 rfl ?_
      obtain ⟨g24, h⟩ := zchk_some h
      refine zG_iald dX12_passes_69 zd_128 rfl rfl g24 ?_
      refine zR_iconst (x := (2 : Int32)) dX12_passes_70 rfl ?_
      refine zR_aload_n dX12_passes_71 0 rfl ?_
      refine zG_getR dX12_passes_72 zf_X12_67 zd_88 rfl rfl ?_
      refine zR_iload_n dX12_passes_75 3 rfl ?_
      obtain ⟨g25, h⟩ := zchk_some h
      refine zG_iald dX12_passes_76 zd_105 rfl rfl g25 ?_
      refine zR_imul dX12_passes_77 ?_
      refine zR_ishr dX12_passes_78 ?_
      refine zR_iconst (x := (3 : Int32)) dX12_passes_79 rfl ?_
      refine zR_iand dX12_passes_80 ?_
      by_cases c26 : (((zA V7 40 (x4).toNatClampNeg) >>> (((2 : Int32) * (zA V7 17 (x3).toNatClampNeg)) &&& 31)) &&& (3 : Int32)) ≤ 0
      · have h := zif_t h c26
        refine zR_if_le_t (tgt := 117) dX12_passes_81 (by decide) c26 ?_
        exact wX12_passes_b117 F (fX12_passes_l54 F k19 n) ih V0 V1 V2 V3 V4 V5 V6 V7 x1 x2 x3 x4 _ h
      · have h := zif_f h c26
        refine zR_if_le_f (tgt := 117) dX12_passes_81 (by decide) c26 ?_
        refine zR_aload_n dX12_passes_84 0 rfl ?_
        refine zR_aload_n dX12_passes_85 0 rfl ?_
        refine zG_getR dX12_passes_86 zf_X12_136 zd_88 rfl rfl ?_
        refine zR_iload dX12_passes_89 4 rfl ?_
        obtain ⟨g27, h⟩ := zchk_some h
        refine zG_iald dX12_passes_91 zd_128 rfl rfl g27 ?_
        refine zR_iconst (x := (1 : Int32)) dX12_passes_92 rfl ?_
        refine zR_iconst (x := (2 : Int32)) dX12_passes_93 rfl ?_
        refine zR_aload_n dX12_passes_94 0 rfl ?_
        refine zG_getR dX12_passes_95 zf_X12_67 zd_88 rfl rfl ?_
        refine zR_iload_n dX12_passes_98 3 rfl ?_
        obtain ⟨g28, h⟩ := zchk_some h
        refine zG_iald dX12_passes_99 zd_105 rfl rfl g28 ?_
        refine zR_imul dX12_passes_100 ?_
        refine zR_ishl dX12_passes_101 ?_
        refine zR_isub dX12_passes_102 ?_
        refine zR_iconst (x := (1 : Int32)) dX12_passes_103 rfl ?_
        refine zR_iconst (x := (2 : Int32)) dX12_passes_104 rfl ?_
        refine zR_aload_n dX12_passes_105 0 rfl ?_
        refine zG_getR dX12_passes_106 zf_X12_70 zd_88 rfl rfl ?_
        refine zR_iload_n dX12_passes_109 3 rfl ?_
        obtain ⟨g29, h⟩ := zchk_some h
        refine zG_iald dX12_passes_110 zd_106 rfl rfl g29 ?_
        refine zR_imul dX12_passes_111 ?_
        refine zR_ishl dX12_passes_112 ?_
        refine zR_iadd dX12_passes_113 ?_
        obtain ⟨q30, hq31, h⟩ := zbd_some h
        refine zR_cV (rest := []) (st1 := []) dX12_passes_114 (mX12_comes F V0 V1 V2 V3 V4 V5 V6 V7 (((zA V7 40 (x4).toNatClampNeg) - ((1 : Int32) <<< (((2 : Int32) * (zA V7 17 (x3).toNatClampNeg)) &&& 31))) + ((1 : Int32) <<< (((2 : Int32) * (zA V7 18 (x3).toNatClampNeg)) &&& 31))) _ hq31) zc_X12_373 rfl (zE_at zd_88) ⟨_, _, rfl⟩ rfl (Nat.le_of_ble_eq_true rfl) (Nat.le_of_ble_eq_true rfl) rfl ?_
        exact wX12_passes_b117 F (fX12_passes_l54 F k19 n) ih V0 V1 V2 V3 V4 V5 V6 q30 x1 x2 x3 x4 _ h
set_option maxRecDepth 100000 in
set_option maxHeartbeats 4000000 in
theorem wX12_passes_l19 {w : zW} (F : Nat) : ∀ (n : Nat) (V0 V1 V2 V3 V4 V5 V6 V7 : zV) (x1 : Int32) (x2 : Int32) (x3 : Int32) (res : zV), fX12_passes_l19 F n V7 x1 x2 x3 = some res → zR w kX12_passes 2 0 0 none (zE zds w [V0, V1, V2, V3, V4, V5, V6, res]) 19 [(0, .ref (w.1 + 88)), (1, .int x1), (2, .int x2), (3, .int x3)] [] (zE zds w [V0, V1, V2, V3, V4, V5, V6, V7]) := by
  intro n
  induction n with
  | zero =>
    intro V0 V1 V2 V3 V4 V5 V6 V7 x1 x2 x3 res h
    simp [fX12_passes_l19] at h
  | succ n ih =>
    intro V0 V1 V2 V3 V4 V5 V6 V7 x1 x2 x3 res h
    rw [fX12_passes_l19] at h
    refine zR_iload_n dX12_passes_19 3 rfl ?_
    refine zR_bipush (x := (24 : Int32)) dX12_passes_20 rfl ?_
    refine zR_aload_n dX12_passes_22 0 rfl ?_
    refine zG_getI dX12_passes_23 zf_X12_308 zd_88 rfl rfl ?_
    refine zR_imul dX12_passes_26 ?_
    refine zR_aload_n dX12_passes_27 0 rfl ?_
    refine zR_iconst (x := (5 : Int32)) dX12_passes_28 rfl ?_
    obtain ⟨q32, hq33, h⟩ := zbd_some h
    refine zR_cV (rest := [.int ((24 : Int32) * (zI V7 0 18)), .int x3]) (st1 := [.int q32, .int ((24 : Int32) * (zI V7 0 18)), .int x3]) dX12_passes_29 (mX12_sort F V0 V1 V2 V3 V4 V5 V6 V7 (5 : Int32) _ hq33) zc_X12_370 rfl (zE_at zd_88) ⟨_, _, rfl⟩ rfl (Nat.le_of_ble_eq_true rfl) (Nat.le_of_ble_eq_true rfl) rfl ?_
    refine zR_iadd dX12_passes_32 ?_
    by_cases c34 : (((24 : Int32) * (zI V7 0 18)) + q32) ≤ x3
    · have h := zif_t h c34
      refine zR_icmp_ge_t (tgt := 129) dX12_passes_33 (by decide) c34 ?_
      refine zR_iload_n dX12_passes_129 2 rfl ?_
      by_cases c35 : x2 = 0
      · have h := zif_t h c35
        refine zR_if_ne_f (tgt := 134) dX12_passes_130 (by decide) c35 ?_
        have h := Option.some.inj h
        subst h
        exact zR_ret dX12_passes_133 rfl
      · have h := zif_f h c35
        refine zR_if_ne_t (tgt := 134) dX12_passes_130 (by decide) c35 ?_
        refine zR_aload_n dX12_passes_134 0 rfl ?_
        refine zG_getI dX12_passes_135 zf_X12_367 zd_88 rfl rfl ?_
        by_cases c36 : (zI V7 0 61) = 0
        · have h := zif_t h c36
          refine zR_if_ne_f (tgt := 292) dX12_passes_138 (by decide) c36 ?_
          refine zR_aload_n dX12_passes_141 0 rfl ?_
          refine zR_dup dX12_passes_142 rfl ?_
          refine zG_getI dX12_passes_143 zf_X12_385 zd_88 rfl rfl ?_
          refine zR_iconst (x := (1 : Int32)) dX12_passes_146 rfl ?_
          refine zR_iadd dX12_passes_147 ?_
          obtain ⟨V7_37, e38, h⟩ := zlet_some h
          refine zG_putI zds_ok dX12_passes_148 zf_X12_385 zt_X12_69 zd_88 rfl rfl e38 rfl ?_
          refine zR_iconst (x := (0 : Int32)) dX12_passes_151 rfl ?_
          refine zR_istore_n (lv' := [(0, .ref (w.1 + 88)), (1, .int x1), (2, .int x2), (3, .int (0 : Int32))]) dX12_passes_152 (Nat.le_of_ble_eq_true rfl) rfl ?_
          refine zR_sub (lv' := [(0, .ref (w.1 + 88)), (3, .int (0 : Int32))]) [0, 3] rfl ?_
          exact wX12_passes_l153 F F V0 V1 V2 V3 V4 V5 V6 V7_37 (0 : Int32) _ h
        · have h := zif_f h c36
          refine zR_if_ne_t (tgt := 292) dX12_passes_138 (by decide) c36 ?_
          refine zR_sub (lv' := [(0, .ref (w.1 + 88))]) [0] rfl ?_
          exact wX12_passes_b292 F V0 V1 V2 V3 V4 V5 V6 V7 _ h
    · have h := zif_f h c34
      refine zR_icmp_ge_f (tgt := 129) dX12_passes_33 (by decide) c34 ?_
      refine zR_aload_n dX12_passes_36 0 rfl ?_
      refine zG_getR dX12_passes_37 zf_X12_73 zd_88 rfl rfl ?_
      refine zR_iload_n dX12_passes_40 3 rfl ?_
      obtain ⟨g39, h⟩ := zchk_some h
      refine zG_iald dX12_passes_41 zd_107 rfl rfl g39 ?_
      refine zR_iload_n dX12_passes_42 1 rfl ?_
      by_cases c40 : (zA V7 19 (x3).toNatClampNeg) = x1
      · have h := zif_t h c40
        refine zR_icmp_eq_t (tgt := 49) dX12_passes_43 (by decide) c40 ?_
        refine zR_iconst (x := (1 : Int32)) dX12_passes_49 rfl ?_
        refine zR_istore_n (lv' := [(0, .ref (w.1 + 88)), (1, .int x1), (2, .int (1 : Int32)), (3, .int x3)]) dX12_passes_50 (Nat.le_of_ble_eq_true rfl) rfl ?_
        refine zR_iconst (x := (0 : Int32)) dX12_passes_51 rfl ?_
        refine zR_istore (lv' := [(0, .ref (w.1 + 88)), (1, .int x1), (2, .int (1 : Int32)), (3, .int x3), (4, .int (0 : Int32))]) dX12_passes_52 (Nat.le_of_ble_eq_true rfl) rfl ?_
        exact wX12_passes_l54 F (fX12_passes_l19 F n) ih F V0 V1 V2 V3 V4 V5 V6 V7 x1 (1 : Int32) x3 (0 : Int32) _ h
      · have h := zif_f h c40
        refine zR_icmp_eq_f (tgt := 49) dX12_passes_43 (by decide) c40 ?_
        refine zR_goto (tgt := 123) dX12_passes_46 (by decide) ?_
        exact wX12_passes_b123 F (fX12_passes_l19 F n) ih V0 V1 V2 V3 V4 V5 V6 V7 x1 x2 x3 _ h
set_option maxRecDepth 100000 in
set_option maxHeartbeats 4000000 in
theorem mX12_passes {w : zW} (F : Nat) (V0 V1 V2 V3 V4 V5 V6 V7 : zV) (x1 : Int32) (res : zV) (h : fX12_passes F V7 x1 = some res) : zMet w kX12_passes 2 0 0 [.ref (w.1 + 88), .int x1] (zE zds w [V0, V1, V2, V3, V4, V5, V6, V7]) none (zE zds w [V0, V1, V2, V3, V4, V5, V6, res]) := by
  refine zMet_of (by decide) (Nat.le_of_ble_eq_true rfl) (Nat.le_refl 0) fun _ => ?_
  show zR w kX12_passes 2 0 0 none (zE zds w [V0, V1, V2, V3, V4, V5, V6, res]) 0 [(0, .ref (w.1 + 88)), (1, .int x1)] [] (zE zds w [V0, V1, V2, V3, V4, V5, V6, V7])
  unfold fX12_passes at h
  refine zR_iconst (x := (0 : Int32)) dX12_passes_0 rfl ?_
  refine zR_istore_n (lv' := [(0, .ref (w.1 + 88)), (1, .int x1), (2, .int (0 : Int32))]) dX12_passes_1 (Nat.le_of_ble_eq_true rfl) rfl ?_
  refine zR_aload_n dX12_passes_2 0 rfl ?_
  refine zR_iconst (x := (4 : Int32)) dX12_passes_3 rfl ?_
  obtain ⟨q41, hq42, h⟩ := zbd_some h
  refine zR_cV (rest := []) (st1 := [.int q41]) dX12_passes_4 (mX12_sort F V0 V1 V2 V3 V4 V5 V6 V7 (4 : Int32) _ hq42) zc_X12_370 rfl (zE_at zd_88) ⟨_, _, rfl⟩ rfl (Nat.le_of_ble_eq_true rfl) (Nat.le_of_ble_eq_true rfl) rfl ?_
  by_cases c43 : q41 = 0
  · have h := zif_t h c43
    refine zR_if_ne_f (tgt := 11) dX12_passes_7 (by decide) c43 ?_
    have h := Option.some.inj h
    subst h
    exact zR_ret dX12_passes_10 rfl
  · have h := zif_f h c43
    refine zR_if_ne_t (tgt := 11) dX12_passes_7 (by decide) c43 ?_
    refine zR_bipush (x := (24 : Int32)) dX12_passes_11 rfl ?_
    refine zR_aload_n dX12_passes_13 0 rfl ?_
    refine zG_getI dX12_passes_14 zf_X12_308 zd_88 rfl rfl ?_
    refine zR_imul dX12_passes_17 ?_
    obtain ⟨y44, e45, h⟩ := zlet_some h
    refine zR_nmI e45 ?_
    refine zR_istore_n (lv' := [(0, .ref (w.1 + 88)), (1, .int x1), (2, .int (0 : Int32)), (3, .int y44)]) dX12_passes_18 (Nat.le_of_ble_eq_true rfl) rfl ?_
    exact wX12_passes_l19 F F V0 V1 V2 V3 V4 V5 V6 V7 x1 (0 : Int32) y44 _ h
set_option maxRecDepth 100000 in
set_option maxHeartbeats 4000000 in
theorem wX12_remembers_l2 {w : zW} (F : Nat) : ∀ (n : Nat) (V0 V1 V2 V3 V4 V5 V6 V7 : zV) (x1 : Int32) (res : zV), fX12_remembers_l2 F n V7 x1 = some res → zR w kX12_remembers 0 0 0 none (zE zds w [V0, V1, V2, V3, V4, V5, V6, res]) 2 [(0, .ref (w.1 + 88)), (1, .int x1)] [] (zE zds w [V0, V1, V2, V3, V4, V5, V6, V7]) := by
  intro n
  induction n with
  | zero =>
    intro V0 V1 V2 V3 V4 V5 V6 V7 x1 res h
    simp [fX12_remembers_l2] at h
  | succ n ih =>
    intro V0 V1 V2 V3 V4 V5 V6 V7 x1 res h
    rw [fX12_remembers_l2] at h
    refine zR_iload_n dX12_remembers_2 1 rfl ?_
    refine zR_bipush (x := (12 : Int32)) dX12_remembers_3 rfl ?_
    by_cases c1 : (12 : Int32) ≤ x1
    · have h := zif_t h c1
      refine zR_icmp_ge_t (tgt := 38) dX12_remembers_5 (by decide) c1 ?_
      refine zR_aload_n dX12_remembers_38 0 rfl ?_
      refine zR_iconst (x := (0 : Int32)) dX12_remembers_39 rfl ?_
      obtain ⟨V7_2, e3, h⟩ := zlet_some h
      refine zG_putI zds_ok dX12_remembers_40 zf_X12_419 zt_X12_88 zd_88 rfl rfl e3 rfl ?_
      refine zR_aload_n dX12_remembers_43 0 rfl ?_
      refine zR_iconst (x := (0 : Int32)) dX12_remembers_44 rfl ?_
      obtain ⟨V7_4, e5, h⟩ := zlet_some h
      refine zG_putZ zds_ok dX12_remembers_45 zf_X12_422 zt_X12_89 zd_88 rfl rfl (Or.inl rfl) e5 rfl ?_
      refine zR_aload_n dX12_remembers_48 0 rfl ?_
      refine zR_iconst (x := (0 : Int32)) dX12_remembers_49 rfl ?_
      obtain ⟨V7_6, e7, h⟩ := zlet_some h
      refine zG_putZ zds_ok dX12_remembers_50 zf_X12_459 zt_X12_97 zd_88 rfl rfl (Or.inl rfl) e7 rfl ?_
      refine zR_aload_n dX12_remembers_53 0 rfl ?_
      refine zR_iconst (x := (0 : Int32)) dX12_remembers_54 rfl ?_
      obtain ⟨V7_8, e9, h⟩ := zlet_some h
      refine zG_putI zds_ok dX12_remembers_55 zf_X12_425 zt_X12_90 zd_88 rfl rfl e9 rfl ?_
      have h := Option.some.inj h
      subst h
      exact zR_ret dX12_remembers_58 rfl
    · have h := zif_f h c1
      refine zR_icmp_ge_f (tgt := 38) dX12_remembers_5 (by decide) c1 ?_
      refine zR_aload_n dX12_remembers_8 0 rfl ?_
      refine zG_getR dX12_remembers_9 zf_X12_210 zd_88 rfl rfl ?_
      refine zR_iload_n dX12_remembers_12 1 rfl ?_
      refine zR_aload_n dX12_remembers_13 0 rfl ?_
      refine zG_getR dX12_remembers_14 zf_X12_165 zd_88 rfl rfl ?_
      refine zR_iload_n dX12_remembers_17 1 rfl ?_
      obtain ⟨g10, h⟩ := zchk_some h
      refine zG_zald dX12_remembers_18 zd_137 rfl rfl g10 ?_
      obtain ⟨g11, h⟩ := zchk_some h
      obtain ⟨V7_12, e13, h⟩ := zlet_some h
      refine zG_zast zds_ok dX12_remembers_19 zd_152 rfl rfl g11 e13 rfl ?_
      refine zR_aload_n dX12_remembers_20 0 rfl ?_
      refine zG_getR dX12_remembers_21 zf_X12_213 zd_88 rfl rfl ?_
      refine zR_iload_n dX12_remembers_24 1 rfl ?_
      refine zR_aload_n dX12_remembers_25 0 rfl ?_
      refine zG_getR dX12_remembers_26 zf_X12_174 zd_88 rfl rfl ?_
      refine zR_iload_n dX12_remembers_29 1 rfl ?_
      obtain ⟨g14, h⟩ := zchk_some h
      refine zG_iald dX12_remembers_30 zd_140 rfl rfl g14 ?_
      obtain ⟨g15, h⟩ := zchk_some h
      obtain ⟨V7_16, e17, h⟩ := zlet_some h
      refine zG_iast zds_ok dX12_remembers_31 zd_153 rfl rfl g15 e17 rfl ?_
      refine zR_iinc (u := (x1 + 1)) (lv' := [(0, .ref (w.1 + 88)), (1, .int (x1 + 1))]) dX12_remembers_32 1 rfl rfl (Nat.le_of_ble_eq_true rfl) rfl ?_
      refine zR_goto (tgt := 2) dX12_remembers_35 (by decide) ?_
      exact ih V0 V1 V2 V3 V4 V5 V6 V7_16 (x1 + 1) _ h
set_option maxRecDepth 100000 in
set_option maxHeartbeats 4000000 in
theorem mX12_remembers {w : zW} (F : Nat) (V0 V1 V2 V3 V4 V5 V6 V7 : zV) (res : zV) (h : fX12_remembers F V7 = some res) : zMet w kX12_remembers 0 0 0 [.ref (w.1 + 88)] (zE zds w [V0, V1, V2, V3, V4, V5, V6, V7]) none (zE zds w [V0, V1, V2, V3, V4, V5, V6, res]) := by
  refine zMet_of (by decide) (Nat.le_of_ble_eq_true rfl) (Nat.le_refl 0) fun _ => ?_
  show zR w kX12_remembers 0 0 0 none (zE zds w [V0, V1, V2, V3, V4, V5, V6, res]) 0 [(0, .ref (w.1 + 88))] [] (zE zds w [V0, V1, V2, V3, V4, V5, V6, V7])
  unfold fX12_remembers at h
  refine zR_iconst (x := (0 : Int32)) dX12_remembers_0 rfl ?_
  refine zR_istore_n (lv' := [(0, .ref (w.1 + 88)), (1, .int (0 : Int32))]) dX12_remembers_1 (Nat.le_of_ble_eq_true rfl) rfl ?_
  exact wX12_remembers_l2 F F V0 V1 V2 V3 V4 V5 V6 V7 (0 : Int32) _ h
set_option maxRecDepth 100000 in
set_option maxHeartbeats 4000000 in
theorem wX12_press_b226 {w : zW} (F : Nat) (V0 V1 V2 V3 V4 V5 V6 V7 : zV) (res : Int32 × zV) (h : fX12_press_b226 F V7 = some res) : zR w kX12_press 5 0 0 (some (.int res.1)) (zE zds w [V0, V1, V2, V3, V4, V5, V6, res.2]) 226 [(0, .ref (w.1 + 88))] [] (zE zds w [V0, V1, V2, V3, V4, V5, V6, V7]) := by
  unfold fX12_press_b226 at h
  refine zR_aload_n dX12_press_226 0 rfl ?_
  obtain ⟨q1, hq2, h⟩ := zbd_some h
  refine zR_cV (rest := []) (st1 := []) dX12_press_227 (mX12_asksBall F V0 V1 V2 V3 V4 V5 V6 V7 _ hq2) zc_X12_433 rfl (zE_at zd_88) ⟨_, _, rfl⟩ rfl (Nat.le_of_ble_eq_true rfl) (Nat.le_of_ble_eq_true rfl) rfl ?_
  refine zR_iconst (x := (1 : Int32)) dX12_press_230 rfl ?_
  have h := Option.some.inj h
  subst h
  exact zR_iret (x := (1 : Int32)) dX12_press_231 rfl rfl
set_option maxRecDepth 100000 in
set_option maxHeartbeats 4000000 in
theorem wX12_press_b220 {w : zW} (F : Nat) (k147 : zV → Int32 → Int32 → Option (Int32 × zV)) (hk147 : ∀ (V0 V1 V2 V3 V4 V5 V6 V7 : zV) (x1 : Int32) (x2 : Int32) (res : Int32 × zV), k147 V7 x1 x2 = some res → zR w kX12_press 5 0 0 (some (.int res.1)) (zE zds w [V0, V1, V2, V3, V4, V5, V6, res.2]) 147 [(0, .ref (w.1 + 88)), (1, .int x1), (2, .int x2)] [] (zE zds w [V0, V1, V2, V3, V4, V5, V6, V7])) (V0 V1 V2 V3 V4 V5 V6 V7 : zV) (x1 : Int32) (x2 : Int32) (res : Int32 × zV) (h : fX12_press_b220 F k147 V7 x1 x2 = some res) : zR w kX12_press 5 0 0 (some (.int res.1)) (zE zds w [V0, V1, V2, V3, V4, V5, V6, res.2]) 220 [(0, .ref (w.1 + 88)), (1, .int x1), (2, .int x2)] [] (zE zds w [V0, V1, V2, V3, V4, V5, V6, V7]) := by
  unfold fX12_press_b220 at h
  refine zR_iinc (u := (x2 + 1)) (lv' := [(0, .ref (w.1 + 88)), (1, .int x1), (2, .int (x2 + 1))]) dX12_press_220 2 rfl rfl (Nat.le_of_ble_eq_true rfl) rfl ?_
  refine zR_goto (tgt := 147) dX12_press_223 (by decide) ?_
  exact hk147 V0 V1 V2 V3 V4 V5 V6 V7 x1 (x2 + 1) _ h
set_option maxRecDepth 100000 in
set_option maxHeartbeats 4000000 in
theorem wX12_press_l147 {w : zW} (F : Nat) : ∀ (n : Nat) (V0 V1 V2 V3 V4 V5 V6 V7 : zV) (x1 : Int32) (x2 : Int32) (res : Int32 × zV), fX12_press_l147 F n V7 x1 x2 = some res → zR w kX12_press 5 0 0 (some (.int res.1)) (zE zds w [V0, V1, V2, V3, V4, V5, V6, res.2]) 147 [(0, .ref (w.1 + 88)), (1, .int x1), (2, .int x2)] [] (zE zds w [V0, V1, V2, V3, V4, V5, V6, V7]) := by
  intro n
  induction n with
  | zero =>
    intro V0 V1 V2 V3 V4 V5 V6 V7 x1 x2 res h
    simp [fX12_press_l147] at h
  | succ n ih =>
    intro V0 V1 V2 V3 V4 V5 V6 V7 x1 x2 res h
    rw [fX12_press_l147] at h
    refine zR_iload_n dX12_press_147 2 rfl ?_
    refine zR_aload_n dX12_press_148 0 rfl ?_
    refine zR_bipush (x := (7 : Int32)) dX12_press_149 rfl ?_
    obtain ⟨q3, hq4, h⟩ := zbd_some h
    refine zR_cV (rest := [.int x2]) (st1 := [.int q3, .int x2]) dX12_press_151 (mX12_sort F V0 V1 V2 V3 V4 V5 V6 V7 (7 : Int32) _ hq4) zc_X12_370 rfl (zE_at zd_88) ⟨_, _, rfl⟩ rfl (Nat.le_of_ble_eq_true rfl) (Nat.le_of_ble_eq_true rfl) rfl ?_
    by_cases c5 : q3 ≤ x2
    · have h := zif_t h c5
      refine zR_icmp_ge_t (tgt := 226) dX12_press_154 (by decide) c5 ?_
      refine zR_sub (lv' := [(0, .ref (w.1 + 88))]) [0] rfl ?_
      exact wX12_press_b226 F V0 V1 V2 V3 V4 V5 V6 V7 _ h
    · have h := zif_f h c5
      refine zR_icmp_ge_f (tgt := 226) dX12_press_154 (by decide) c5 ?_
      refine zR_aload_n dX12_press_157 0 rfl ?_
      refine zG_getI dX12_press_158 zf_X12_459 zd_88 rfl rfl ?_
      by_cases c6 : (zI V7 0 97) = 0
      · have h := zif_t h c6
        refine zR_if_ne_f (tgt := 226) dX12_press_161 (by decide) c6 ?_
        refine zR_aload_n dX12_press_164 0 rfl ?_
        refine zG_getI dX12_press_165 zf_X12_422 zd_88 rfl rfl ?_
        by_cases c7 : (zI V7 0 89) = 0
        · have h := zif_t h c7
          refine zR_if_ne_f (tgt := 226) dX12_press_168 (by decide) c7 ?_
          refine zR_aload_n dX12_press_171 0 rfl ?_
          refine zG_getR dX12_press_172 zf_X12_186 zd_88 rfl rfl ?_
          refine zR_iload_n dX12_press_175 2 rfl ?_
          obtain ⟨g8, h⟩ := zchk_some h
          refine zG_iald dX12_press_176 zd_144 rfl rfl g8 ?_
          obtain ⟨y9, e10, h⟩ := zlet_some h
          refine zR_nmI e10 ?_
          refine zR_istore_n (lv' := [(0, .ref (w.1 + 88)), (1, .int x1), (2, .int x2), (3, .int y9)]) dX12_press_177 (Nat.le_of_ble_eq_true rfl) rfl ?_
          refine zR_aload_n dX12_press_178 0 rfl ?_
          refine zG_getR dX12_press_179 zf_X12_210 zd_88 rfl rfl ?_
          refine zR_iload_n dX12_press_182 3 rfl ?_
          obtain ⟨g11, h⟩ := zchk_some h
          refine zG_zald dX12_press_183 zd_152 rfl rfl g11 ?_
          by_cases c12 : (zA V7 64 (y9).toNatClampNeg) = 0
          · have h := zif_t h c12
            refine zR_if_eq_t (tgt := 220) dX12_press_184 (by decide) c12 ?_
            refine zR_sub (lv' := [(0, .ref (w.1 + 88)), (1, .int x1), (2, .int x2)]) [0, 1, 2] rfl ?_
            exact wX12_press_b220 F (fX12_press_l147 F n) ih V0 V1 V2 V3 V4 V5 V6 V7 x1 x2 _ h
          · have h := zif_f h c12
            refine zR_if_eq_f (tgt := 220) dX12_press_184 (by decide) c12 ?_
            refine zR_aload_n dX12_press_187 0 rfl ?_
            refine zG_getR dX12_press_188 zf_X12_174 zd_88 rfl rfl ?_
            refine zR_iload_n dX12_press_191 3 rfl ?_
            obtain ⟨g13, h⟩ := zchk_some h
            refine zG_iald dX12_press_192 zd_140 rfl rfl g13 ?_
            refine zR_aload_n dX12_press_193 0 rfl ?_
            refine zG_getR dX12_press_194 zf_X12_213 zd_88 rfl rfl ?_
            refine zR_iload_n dX12_press_197 3 rfl ?_
            obtain ⟨g14, h⟩ := zchk_some h
            refine zG_iald dX12_press_198 zd_153 rfl rfl g14 ?_
            by_cases c15 : (zA V7 52 (y9).toNatClampNeg) = (zA V7 65 (y9).toNatClampNeg)
            · have h := zif_t h c15
              refine zR_icmp_eq_t (tgt := 205) dX12_press_199 (by decide) c15 ?_
              refine zR_aload_n dX12_press_205 0 rfl ?_
              refine zR_iconst (x := (0 : Int32)) dX12_press_206 rfl ?_
              obtain ⟨V7_16, e17, h⟩ := zlet_some h
              refine zG_putZ zds_ok dX12_press_207 zf_X12_456 zt_X12_99 zd_88 rfl rfl (Or.inl rfl) e17 rfl ?_
              refine zR_aload_n dX12_press_210 0 rfl ?_
              refine zR_iload_n dX12_press_211 3 rfl ?_
              refine zR_iload_n dX12_press_212 1 rfl ?_
              obtain ⟨q18, hq19, h⟩ := zbd_some h
              refine zR_cV (rest := []) (st1 := []) dX12_press_213 (mX12_frame F V0 V1 V2 V3 V4 V5 V6 V7_16 y9 x1 _ hq19) zc_X12_443 rfl (zE_at zd_88) ⟨_, _, rfl⟩ rfl (Nat.le_of_ble_eq_true rfl) (Nat.le_of_ble_eq_true rfl) rfl ?_
              refine zR_aload_n dX12_press_216 0 rfl ?_
              obtain ⟨q20, hq21, h⟩ := zbd_some h
              refine zR_cV (rest := []) (st1 := []) dX12_press_217 (mX12_works F V0 V1 V2 V3 V4 V5 V6 q18 _ hq21) zc_X12_430 rfl (zE_at zd_88) ⟨_, _, rfl⟩ rfl (Nat.le_of_ble_eq_true rfl) (Nat.le_of_ble_eq_true rfl) rfl ?_
              refine zR_sub (lv' := [(0, .ref (w.1 + 88)), (1, .int x1), (2, .int x2)]) [0, 1, 2] rfl ?_
              exact wX12_press_b220 F (fX12_press_l147 F n) ih V0 V1 V2 V3 V4 V5 V6 q20 x1 x2 _ h
            · have h := zif_f h c15
              refine zR_icmp_eq_f (tgt := 205) dX12_press_199 (by decide) c15 ?_
              refine zR_goto (tgt := 220) dX12_press_202 (by decide) ?_
              refine zR_sub (lv' := [(0, .ref (w.1 + 88)), (1, .int x1), (2, .int x2)]) [0, 1, 2] rfl ?_
              exact wX12_press_b220 F (fX12_press_l147 F n) ih V0 V1 V2 V3 V4 V5 V6 V7 x1 x2 _ h
        · have h := zif_f h c7
          refine zR_if_ne_t (tgt := 226) dX12_press_168 (by decide) c7 ?_
          refine zR_sub (lv' := [(0, .ref (w.1 + 88))]) [0] rfl ?_
          exact wX12_press_b226 F V0 V1 V2 V3 V4 V5 V6 V7 _ h
      · have h := zif_f h c6
        refine zR_if_ne_t (tgt := 226) dX12_press_161 (by decide) c6 ?_
        refine zR_sub (lv' := [(0, .ref (w.1 + 88))]) [0] rfl ?_
        exact wX12_press_b226 F V0 V1 V2 V3 V4 V5 V6 V7 _ h
set_option maxRecDepth 100000 in
set_option maxHeartbeats 4000000 in
theorem wX12_press_b99 {w : zW} (F : Nat) (V0 V1 V2 V3 V4 V5 V6 V7 : zV) (x1 : Int32) (res : Int32 × zV) (h : fX12_press_b99 F V7 x1 = some res) : zR w kX12_press 5 0 0 (some (.int res.1)) (zE zds w [V0, V1, V2, V3, V4, V5, V6, res.2]) 99 [(0, .ref (w.1 + 88)), (1, .int x1)] [] (zE zds w [V0, V1, V2, V3, V4, V5, V6, V7]) := by
  unfold fX12_press_b99 at h
  refine zR_aload_n dX12_press_99 0 rfl ?_
  refine zG_getR dX12_press_100 zf_X12_150 zd_88 rfl rfl ?_
  refine zR_iload_n dX12_press_103 1 rfl ?_
  refine zR_dup2 dX12_press_104 rfl rfl ?_
  obtain ⟨g22, h⟩ := zchk_some h
  refine zG_iald dX12_press_105 zd_132 rfl rfl g22 ?_
  refine zR_iconst (x := (1 : Int32)) dX12_press_106 rfl ?_
  refine zR_iadd dX12_press_107 ?_
  obtain ⟨g23, h⟩ := zchk_some h
  obtain ⟨V7_24, e25, h⟩ := zlet_some h
  refine zG_iast zds_ok dX12_press_108 zd_132 rfl rfl g23 e25 rfl ?_
  refine zR_aload_n dX12_press_109 0 rfl ?_
  refine zG_getR dX12_press_110 zf_X12_156 zd_88 rfl rfl ?_
  refine zR_iload_n dX12_press_113 1 rfl ?_
  refine zR_aload_n dX12_press_114 0 rfl ?_
  refine zG_getI dX12_press_115 zf_X12_395 zd_88 rfl rfl ?_
  obtain ⟨g26, h⟩ := zchk_some h
  obtain ⟨V7_27, e28, h⟩ := zlet_some h
  refine zG_iast zds_ok dX12_press_118 zd_134 rfl rfl g26 e28 rfl ?_
  refine zR_aload_n dX12_press_119 0 rfl ?_
  refine zG_getR dX12_press_120 zf_X12_162 zd_88 rfl rfl ?_
  refine zR_iload_n dX12_press_123 1 rfl ?_
  refine zR_aload_n dX12_press_124 0 rfl ?_
  refine zG_getI dX12_press_125 zf_X12_392 zd_88 rfl rfl ?_
  obtain ⟨g29, h⟩ := zchk_some h
  obtain ⟨V7_30, e31, h⟩ := zlet_some h
  refine zG_iast zds_ok dX12_press_128 zd_136 rfl rfl g29 e31 rfl ?_
  refine zR_aload_n dX12_press_129 0 rfl ?_
  refine zG_getR dX12_press_130 zf_X12_159 zd_88 rfl rfl ?_
  refine zR_iload_n dX12_press_133 1 rfl ?_
  refine zR_iconst (x := (0 : Int32)) dX12_press_134 rfl ?_
  obtain ⟨g32, h⟩ := zchk_some h
  obtain ⟨V7_33, e34, h⟩ := zlet_some h
  refine zG_zast zds_ok dX12_press_135 zd_135 rfl rfl g32 e34 rfl ?_
  refine zR_aload_n dX12_press_136 0 rfl ?_
  refine zR_iload_n dX12_press_137 1 rfl ?_
  obtain ⟨q35, hq36, h⟩ := zbd_some h
  refine zR_cV (rest := []) (st1 := []) dX12_press_138 (mX12_passes F V0 V1 V2 V3 V4 V5 V6 V7_33 x1 _ hq36) zc_X12_472 rfl (zE_at zd_88) ⟨_, _, rfl⟩ rfl (Nat.le_of_ble_eq_true rfl) (Nat.le_of_ble_eq_true rfl) rfl ?_
  refine zR_aload_n dX12_press_141 0 rfl ?_
  obtain ⟨q37, hq38, h⟩ := zbd_some h
  refine zR_cV (rest := []) (st1 := []) dX12_press_142 (mX12_remembers F V0 V1 V2 V3 V4 V5 V6 q35 _ hq38) zc_X12_475 rfl (zE_at zd_88) ⟨_, _, rfl⟩ rfl (Nat.le_of_ble_eq_true rfl) (Nat.le_of_ble_eq_true rfl) rfl ?_
  refine zR_iconst (x := (0 : Int32)) dX12_press_145 rfl ?_
  refine zR_istore_n (lv' := [(0, .ref (w.1 + 88)), (1, .int x1), (2, .int (0 : Int32))]) dX12_press_146 (Nat.le_of_ble_eq_true rfl) rfl ?_
  exact wX12_press_l147 F F V0 V1 V2 V3 V4 V5 V6 q37 x1 (0 : Int32) _ h
set_option maxRecDepth 100000 in
set_option maxHeartbeats 4000000 in
theorem mX12_press {w : zW} (F : Nat) (V0 V1 V2 V3 V4 V5 V6 V7 : zV) (x1 : Int32) (res : Int32 × zV) (h : fX12_press F V7 x1 = some res) : zMet w kX12_press 5 0 0 [.ref (w.1 + 88), .int x1] (zE zds w [V0, V1, V2, V3, V4, V5, V6, V7]) (some (.int res.1)) (zE zds w [V0, V1, V2, V3, V4, V5, V6, res.2]) := by
  refine zMet_of (by decide) (Nat.le_of_ble_eq_true rfl) (Nat.le_refl 0) fun _ => ?_
  show zR w kX12_press 5 0 0 (some (.int res.1)) (zE zds w [V0, V1, V2, V3, V4, V5, V6, res.2]) 0 [(0, .ref (w.1 + 88)), (1, .int x1)] [] (zE zds w [V0, V1, V2, V3, V4, V5, V6, V7])
  unfold fX12_press at h
  refine zR_iload_n dX12_press_0 1 rfl ?_
  by_cases c39 : x1 < 0
  · have h := zif_t h c39
    refine zR_if_lt_t (tgt := 30) dX12_press_1 (by decide) c39 ?_
    refine zR_iconst (x := (-1 : Int32)) dX12_press_30 (by decide) ?_
    have h := Option.some.inj h
    subst h
    exact zR_iret (x := (-1 : Int32)) dX12_press_31 rfl rfl
  · have h := zif_f h c39
    refine zR_if_lt_f (tgt := 30) dX12_press_1 (by decide) c39 ?_
    refine zR_aload_n dX12_press_4 0 rfl ?_
    refine zG_getI dX12_press_5 zf_X12_333 zd_88 rfl rfl ?_
    by_cases c40 : (zI V7 0 64) = 0
    · have h := zif_t h c40
      refine zR_if_eq_t (tgt := 30) dX12_press_8 (by decide) c40 ?_
      refine zR_iconst (x := (-1 : Int32)) dX12_press_30 (by decide) ?_
      have h := Option.some.inj h
      subst h
      exact zR_iret (x := (-1 : Int32)) dX12_press_31 rfl rfl
    · have h := zif_f h c40
      refine zR_if_eq_f (tgt := 30) dX12_press_8 (by decide) c40 ?_
      refine zR_iload_n dX12_press_11 1 rfl ?_
      refine zR_aload_n dX12_press_12 0 rfl ?_
      refine zR_iconst (x := (0 : Int32)) dX12_press_13 rfl ?_
      obtain ⟨q41, hq42, h⟩ := zbd_some h
      refine zR_cV (rest := [.int x1]) (st1 := [.int q41, .int x1]) dX12_press_14 (mX12_sort F V0 V1 V2 V3 V4 V5 V6 V7 (0 : Int32) _ hq42) zc_X12_370 rfl (zE_at zd_88) ⟨_, _, rfl⟩ rfl (Nat.le_of_ble_eq_true rfl) (Nat.le_of_ble_eq_true rfl) rfl ?_
      by_cases c43 : q41 ≤ x1
      · have h := zif_t h c43
        refine zR_icmp_ge_t (tgt := 30) dX12_press_17 (by decide) c43 ?_
        refine zR_iconst (x := (-1 : Int32)) dX12_press_30 (by decide) ?_
        have h := Option.some.inj h
        subst h
        exact zR_iret (x := (-1 : Int32)) dX12_press_31 rfl rfl
      · have h := zif_f h c43
        refine zR_icmp_ge_f (tgt := 30) dX12_press_17 (by decide) c43 ?_
        refine zR_aload_n dX12_press_20 0 rfl ?_
        refine zG_getI dX12_press_21 zf_X12_404 zd_88 rfl rfl ?_
        refine zR_sipush (x := (600 : Int32)) dX12_press_24 rfl ?_
        by_cases c44 : (zI V7 0 72) = (600 : Int32)
        · have h := zif_t h c44
          refine zR_icmp_ne_f (tgt := 32) dX12_press_27 (by decide) c44 ?_
          refine zR_iconst (x := (-1 : Int32)) dX12_press_30 (by decide) ?_
          have h := Option.some.inj h
          subst h
          exact zR_iret (x := (-1 : Int32)) dX12_press_31 rfl rfl
        · have h := zif_f h c44
          refine zR_icmp_ne_t (tgt := 32) dX12_press_27 (by decide) c44 ?_
          refine zR_aload_n dX12_press_32 0 rfl ?_
          refine zR_dup dX12_press_33 rfl ?_
          refine zG_getI dX12_press_34 zf_X12_404 zd_88 rfl rfl ?_
          refine zR_iconst (x := (1 : Int32)) dX12_press_37 rfl ?_
          refine zR_iadd dX12_press_38 ?_
          obtain ⟨V7_45, e46, h⟩ := zlet_some h
          refine zG_putI zds_ok dX12_press_39 zf_X12_404 zt_X12_72 zd_88 rfl rfl e46 rfl ?_
          refine zR_aload_n dX12_press_42 0 rfl ?_
          refine zG_getR dX12_press_43 zf_X12_153 zd_88 rfl rfl ?_
          refine zR_iload_n dX12_press_46 1 rfl ?_
          refine zR_dup2 dX12_press_47 rfl rfl ?_
          obtain ⟨g47, h⟩ := zchk_some h
          refine zG_iald dX12_press_48 zd_133 rfl rfl g47 ?_
          refine zR_iconst (x := (1 : Int32)) dX12_press_49 rfl ?_
          refine zR_iadd dX12_press_50 ?_
          obtain ⟨g48, h⟩ := zchk_some h
          obtain ⟨V7_49, e50, h⟩ := zlet_some h
          refine zG_iast zds_ok dX12_press_51 zd_133 rfl rfl g48 e50 rfl ?_
          refine zR_aload_n dX12_press_52 0 rfl ?_
          refine zG_getI dX12_press_53 zf_X12_392 zd_88 rfl rfl ?_
          by_cases c51 : (zI V7_49 0 66) = 0
          · have h := zif_t h c51
            refine zR_if_eq_t (tgt := 97) dX12_press_56 (by decide) c51 ?_
            refine zR_iconst (x := (0 : Int32)) dX12_press_97 rfl ?_
            have h := Option.some.inj h
            subst h
            exact zR_iret (x := (0 : Int32)) dX12_press_98 rfl rfl
          · have h := zif_f h c51
            refine zR_if_eq_f (tgt := 97) dX12_press_56 (by decide) c51 ?_
            refine zR_aload_n dX12_press_59 0 rfl ?_
            refine zG_getR dX12_press_60 zf_X12_156 zd_88 rfl rfl ?_
            refine zR_iload_n dX12_press_63 1 rfl ?_
            obtain ⟨g52, h⟩ := zchk_some h
            refine zG_iald dX12_press_64 zd_134 rfl rfl g52 ?_
            refine zR_iconst (x := (-1 : Int32)) dX12_press_65 (by decide) ?_
            by_cases c53 : (zA V7_49 46 (x1).toNatClampNeg) = (-1 : Int32)
            · have h := zif_t h c53
              refine zR_icmp_eq_t (tgt := 99) dX12_press_66 (by decide) c53 ?_
              exact wX12_press_b99 F V0 V1 V2 V3 V4 V5 V6 V7_49 x1 _ h
            · have h := zif_f h c53
              refine zR_icmp_eq_f (tgt := 99) dX12_press_66 (by decide) c53 ?_
              refine zR_aload_n dX12_press_69 0 rfl ?_
              refine zG_getI dX12_press_70 zf_X12_395 zd_88 rfl rfl ?_
              refine zR_aload_n dX12_press_73 0 rfl ?_
              refine zG_getR dX12_press_74 zf_X12_156 zd_88 rfl rfl ?_
              refine zR_iload_n dX12_press_77 1 rfl ?_
              obtain ⟨g54, h⟩ := zchk_some h
              refine zG_iald dX12_press_78 zd_134 rfl rfl g54 ?_
              refine zR_isub dX12_press_79 ?_
              refine zR_aload_n dX12_press_80 0 rfl ?_
              refine zG_getR dX12_press_81 zf_X12_52 zd_88 rfl rfl ?_
              refine zR_bipush (x := (16 : Int32)) dX12_press_84 rfl ?_
              refine zR_aload_n dX12_press_86 0 rfl ?_
              refine zG_getI dX12_press_87 zf_X12_308 zd_88 rfl rfl ?_
              refine zR_imul dX12_press_90 ?_
              refine zR_iload_n dX12_press_91 1 rfl ?_
              refine zR_iadd dX12_press_92 ?_
              obtain ⟨g55, h⟩ := zchk_some h
              refine zG_iald dX12_press_93 zd_100 rfl rfl g55 ?_
              by_cases c56 : (zA V7_49 12 ((((16 : Int32) * (zI V7_49 0 18)) + x1)).toNatClampNeg) ≤ ((zI V7_49 0 68) - (zA V7_49 46 (x1).toNatClampNeg))
              · have h := zif_t h c56
                refine zR_icmp_ge_t (tgt := 99) dX12_press_94 (by decide) c56 ?_
                exact wX12_press_b99 F V0 V1 V2 V3 V4 V5 V6 V7_49 x1 _ h
              · have h := zif_f h c56
                refine zR_icmp_ge_f (tgt := 99) dX12_press_94 (by decide) c56 ?_
                refine zR_iconst (x := (0 : Int32)) dX12_press_97 rfl ?_
                have h := Option.some.inj h
                subst h
                exact zR_iret (x := (0 : Int32)) dX12_press_98 rfl rfl
