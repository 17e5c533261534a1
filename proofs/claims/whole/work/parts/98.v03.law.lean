abbrev kL_law : zM := (⟨RL, "law", "([I)Z"⟩, code, 4, (some .boolean))
theorem zc_L_13 : zCV RL 13 kX11_feed 5 := ⟨⟨zT_of 508 (by decide +kernel) (by decide +kernel), zq_X11_feed.1, zq_X11_feed.2, ⟨by decide +kernel, by decide +kernel, by decide +kernel⟩, by decide⟩, zT_of 509 (by decide +kernel) (by decide +kernel), zT_of 510 (by decide +kernel) (by decide +kernel)⟩
theorem zc_L_17 : zCV RL 17 kX12_feed 5 := ⟨⟨zT_of 1362 (by decide +kernel) (by decide +kernel), zq_X12_feed.1, zq_X12_feed.2, ⟨by decide +kernel, by decide +kernel, by decide +kernel⟩, by decide⟩, zT_of 1363 (by decide +kernel) (by decide +kernel), zT_of 1364 (by decide +kernel) (by decide +kernel)⟩
theorem zc_L_18 : zCV RL 18 kX11_back 1 := ⟨⟨zT_of 516 (by decide +kernel) (by decide +kernel), zq_X11_back.1, zq_X11_back.2, ⟨by decide +kernel, by decide +kernel, by decide +kernel⟩, by decide⟩, zT_of 517 (by decide +kernel) (by decide +kernel), zT_of 518 (by decide +kernel) (by decide +kernel)⟩
theorem zc_L_22 : zCV RL 22 kX12_back 1 := ⟨⟨zT_of 1370 (by decide +kernel) (by decide +kernel), zq_X12_back.1, zq_X12_back.2, ⟨by decide +kernel, by decide +kernel, by decide +kernel⟩, by decide⟩, zT_of 1371 (by decide +kernel) (by decide +kernel), zT_of 1372 (by decide +kernel) (by decide +kernel)⟩
theorem zc_L_23 : zCV RL 23 kX11_read 0 := ⟨⟨zT_of 520 (by decide +kernel) (by decide +kernel), zq_X11_read.1, zq_X11_read.2, ⟨by decide +kernel, by decide +kernel, by decide +kernel⟩, by decide⟩, zT_of 521 (by decide +kernel) (by decide +kernel), zT_of 522 (by decide +kernel) (by decide +kernel)⟩
theorem zc_L_27 : zCV RL 27 kX12_read 0 := ⟨⟨zT_of 1374 (by decide +kernel) (by decide +kernel), zq_X12_read.1, zq_X12_read.2, ⟨by decide +kernel, by decide +kernel, by decide +kernel⟩, by decide⟩, zT_of 1375 (by decide +kernel) (by decide +kernel), zT_of 1376 (by decide +kernel) (by decide +kernel)⟩
theorem zc_L_28 : zCV RL 28 kX11_place 0 := ⟨⟨zT_of 729 (by decide +kernel) (by decide +kernel), zq_X11_place.1, zq_X11_place.2, ⟨by decide +kernel, by decide +kernel, by decide +kernel⟩, by decide⟩, zT_of 730 (by decide +kernel) (by decide +kernel), zT_of 731 (by decide +kernel) (by decide +kernel)⟩
theorem zc_L_31 : zCV RL 31 kX12_place 0 := ⟨⟨zT_of 1465 (by decide +kernel) (by decide +kernel), zq_X12_place.1, zq_X12_place.2, ⟨by decide +kernel, by decide +kernel, by decide +kernel⟩, by decide⟩, zT_of 1466 (by decide +kernel) (by decide +kernel), zT_of 1467 (by decide +kernel) (by decide +kernel)⟩
theorem zc_L_32 : zCV RL 32 kX11_begin 0 := ⟨⟨zT_of 733 (by decide +kernel) (by decide +kernel), zq_X11_begin.1, zq_X11_begin.2, ⟨by decide +kernel, by decide +kernel, by decide +kernel⟩, by decide⟩, zT_of 734 (by decide +kernel) (by decide +kernel), zT_of 735 (by decide +kernel) (by decide +kernel)⟩
theorem zc_L_36 : zCV RL 36 kX12_begin 0 := ⟨⟨zT_of 1469 (by decide +kernel) (by decide +kernel), zq_X12_begin.1, zq_X12_begin.2, ⟨by decide +kernel, by decide +kernel, by decide +kernel⟩, by decide⟩, zT_of 1470 (by decide +kernel) (by decide +kernel), zT_of 1471 (by decide +kernel) (by decide +kernel)⟩
theorem zc_L_37 : zCV RL 37 kX11_press 1 := ⟨⟨zT_of 905 (by decide +kernel) (by decide +kernel), zq_X11_press.1, zq_X11_press.2, ⟨by decide +kernel, by decide +kernel, by decide +kernel⟩, by decide⟩, zT_of 906 (by decide +kernel) (by decide +kernel), zT_of 907 (by decide +kernel) (by decide +kernel)⟩
theorem zc_L_40 : zCV RL 40 kX12_press 1 := ⟨⟨zT_of 1545 (by decide +kernel) (by decide +kernel), zq_X12_press.1, zq_X12_press.2, ⟨by decide +kernel, by decide +kernel, by decide +kernel⟩, by decide⟩, zT_of 1546 (by decide +kernel) (by decide +kernel), zT_of 1547 (by decide +kernel) (by decide +kernel)⟩
theorem zc_L_41 : zCV RL 41 kX11_ticks 1 := ⟨⟨zT_of 935 (by decide +kernel) (by decide +kernel), zq_X11_ticks.1, zq_X11_ticks.2, ⟨by decide +kernel, by decide +kernel, by decide +kernel⟩, by decide⟩, zT_of 936 (by decide +kernel) (by decide +kernel), zT_of 937 (by decide +kernel) (by decide +kernel)⟩
theorem zc_L_44 : zCV RL 44 kX12_ticks 1 := ⟨⟨zT_of 1557 (by decide +kernel) (by decide +kernel), zq_X12_ticks.1, zq_X12_ticks.2, ⟨by decide +kernel, by decide +kernel, by decide +kernel⟩, by decide⟩, zT_of 1558 (by decide +kernel) (by decide +kernel), zT_of 1559 (by decide +kernel) (by decide +kernel)⟩
theorem zc_L_45 : zCV RL 45 kX11_score 0 := ⟨⟨zT_of 958 (by decide +kernel) (by decide +kernel), zq_X11_score.1, zq_X11_score.2, ⟨by decide +kernel, by decide +kernel, by decide +kernel⟩, by decide⟩, zT_of 959 (by decide +kernel) (by decide +kernel), zT_of 960 (by decide +kernel) (by decide +kernel)⟩
theorem zc_L_49 : zCV RL 49 kX12_score 0 := ⟨⟨zT_of 1569 (by decide +kernel) (by decide +kernel), zq_X12_score.1, zq_X12_score.2, ⟨by decide +kernel, by decide +kernel, by decide +kernel⟩, by decide⟩, zT_of 1570 (by decide +kernel) (by decide +kernel), zT_of 1571 (by decide +kernel) (by decide +kernel)⟩
theorem zc_L_50 : zCV RL 50 kX11_told 2 := ⟨⟨zT_of 963 (by decide +kernel) (by decide +kernel), zq_X11_told.1, zq_X11_told.2, ⟨by decide +kernel, by decide +kernel, by decide +kernel⟩, by decide⟩, zT_of 964 (by decide +kernel) (by decide +kernel), zT_of 965 (by decide +kernel) (by decide +kernel)⟩
theorem zc_L_54 : zCV RL 54 kX12_told 2 := ⟨⟨zT_of 1574 (by decide +kernel) (by decide +kernel), zq_X12_told.1, zq_X12_told.2, ⟨by decide +kernel, by decide +kernel, by decide +kernel⟩, by decide⟩, zT_of 1575 (by decide +kernel) (by decide +kernel), zT_of 1576 (by decide +kernel) (by decide +kernel)⟩
theorem zc_L_55 : zCV RL 55 kX11_coil 2 := ⟨⟨zT_of 975 (by decide +kernel) (by decide +kernel), zq_X11_coil.1, zq_X11_coil.2, ⟨by decide +kernel, by decide +kernel, by decide +kernel⟩, by decide⟩, zT_of 976 (by decide +kernel) (by decide +kernel), zT_of 977 (by decide +kernel) (by decide +kernel)⟩
theorem zc_L_58 : zCV RL 58 kX12_coil 2 := ⟨⟨zT_of 1578 (by decide +kernel) (by decide +kernel), zq_X12_coil.1, zq_X12_coil.2, ⟨by decide +kernel, by decide +kernel, by decide +kernel⟩, by decide⟩, zT_of 1579 (by decide +kernel) (by decide +kernel), zT_of 1580 (by decide +kernel) (by decide +kernel)⟩
theorem zc_L_59 : zCV RL 59 kX11_lamp 1 := ⟨⟨zT_of 980 (by decide +kernel) (by decide +kernel), zq_X11_lamp.1, zq_X11_lamp.2, ⟨by decide +kernel, by decide +kernel, by decide +kernel⟩, by decide⟩, zT_of 981 (by decide +kernel) (by decide +kernel), zT_of 982 (by decide +kernel) (by decide +kernel)⟩
theorem zc_L_62 : zCV RL 62 kX12_lamp 1 := ⟨⟨zT_of 1582 (by decide +kernel) (by decide +kernel), zq_X12_lamp.1, zq_X12_lamp.2, ⟨by decide +kernel, by decide +kernel, by decide +kernel⟩, by decide⟩, zT_of 1583 (by decide +kernel) (by decide +kernel), zT_of 1584 (by decide +kernel) (by decide +kernel)⟩
theorem zc_L_63 : zCV RL 63 kX11_value 1 := ⟨⟨zT_of 997 (by decide +kernel) (by decide +kernel), zq_X11_value.1, zq_X11_value.2, ⟨by decide +kernel, by decide +kernel, by decide +kernel⟩, by decide⟩, zT_of 998 (by decide +kernel) (by decide +kernel), zT_of 999 (by decide +kernel) (by decide +kernel)⟩
theorem zc_L_66 : zCV RL 66 kX12_value 1 := ⟨⟨zT_of 1586 (by decide +kernel) (by decide +kernel), zq_X12_value.1, zq_X12_value.2, ⟨by decide +kernel, by decide +kernel, by decide +kernel⟩, by decide⟩, zT_of 1587 (by decide +kernel) (by decide +kernel), zT_of 1588 (by decide +kernel) (by decide +kernel)⟩
theorem zc_L_67 : zCV RL 67 kX11_mode 2 := ⟨⟨zT_of 1001 (by decide +kernel) (by decide +kernel), zq_X11_mode.1, zq_X11_mode.2, ⟨by decide +kernel, by decide +kernel, by decide +kernel⟩, by decide⟩, zT_of 1002 (by decide +kernel) (by decide +kernel), zT_of 1003 (by decide +kernel) (by decide +kernel)⟩
theorem zc_L_70 : zCV RL 70 kX12_mode 2 := ⟨⟨zT_of 1590 (by decide +kernel) (by decide +kernel), zq_X12_mode.1, zq_X12_mode.2, ⟨by decide +kernel, by decide +kernel, by decide +kernel⟩, by decide⟩, zT_of 1591 (by decide +kernel) (by decide +kernel), zT_of 1592 (by decide +kernel) (by decide +kernel)⟩
theorem zc_L_71 : zCV RL 71 kX11_balls 2 := ⟨⟨zT_of 1005 (by decide +kernel) (by decide +kernel), zq_X11_balls.1, zq_X11_balls.2, ⟨by decide +kernel, by decide +kernel, by decide +kernel⟩, by decide⟩, zT_of 1006 (by decide +kernel) (by decide +kernel), zT_of 1007 (by decide +kernel) (by decide +kernel)⟩
theorem zc_L_75 : zCV RL 75 kX12_balls 2 := ⟨⟨zT_of 1594 (by decide +kernel) (by decide +kernel), zq_X12_balls.1, zq_X12_balls.2, ⟨by decide +kernel, by decide +kernel, by decide +kernel⟩, by decide⟩, zT_of 1595 (by decide +kernel) (by decide +kernel), zT_of 1596 (by decide +kernel) (by decide +kernel)⟩
theorem zc_L_76 : zCV RL 76 kX11_again 0 := ⟨⟨zT_of 1020 (by decide +kernel) (by decide +kernel), zq_X11_again.1, zq_X11_again.2, ⟨by decide +kernel, by decide +kernel, by decide +kernel⟩, by decide⟩, zT_of 1021 (by decide +kernel) (by decide +kernel), zT_of 1022 (by decide +kernel) (by decide +kernel)⟩
theorem zc_L_79 : zCV RL 79 kX12_again 0 := ⟨⟨zT_of 1598 (by decide +kernel) (by decide +kernel), zq_X12_again.1, zq_X12_again.2, ⟨by decide +kernel, by decide +kernel, by decide +kernel⟩, by decide⟩, zT_of 1599 (by decide +kernel) (by decide +kernel), zT_of 1600 (by decide +kernel) (by decide +kernel)⟩
theorem zc_L_80 : zCV RL 80 kX11_ring 0 := ⟨⟨zT_of 1024 (by decide +kernel) (by decide +kernel), zq_X11_ring.1, zq_X11_ring.2, ⟨by decide +kernel, by decide +kernel, by decide +kernel⟩, by decide⟩, zT_of 1025 (by decide +kernel) (by decide +kernel), zT_of 1026 (by decide +kernel) (by decide +kernel)⟩
theorem zc_L_83 : zCV RL 83 kX12_ring 0 := ⟨⟨zT_of 1602 (by decide +kernel) (by decide +kernel), zq_X12_ring.1, zq_X12_ring.2, ⟨by decide +kernel, by decide +kernel, by decide +kernel⟩, by decide⟩, zT_of 1603 (by decide +kernel) (by decide +kernel), zT_of 1604 (by decide +kernel) (by decide +kernel)⟩
theorem zc_L_84 : zCV RL 84 kX11_count 1 := ⟨⟨zT_of 1028 (by decide +kernel) (by decide +kernel), zq_X11_count.1, zq_X11_count.2, ⟨by decide +kernel, by decide +kernel, by decide +kernel⟩, by decide⟩, zT_of 1029 (by decide +kernel) (by decide +kernel), zT_of 1030 (by decide +kernel) (by decide +kernel)⟩
theorem zc_L_87 : zCV RL 87 kX12_count 1 := ⟨⟨zT_of 1614 (by decide +kernel) (by decide +kernel), zq_X12_count.1, zq_X12_count.2, ⟨by decide +kernel, by decide +kernel, by decide +kernel⟩, by decide⟩, zT_of 1615 (by decide +kernel) (by decide +kernel), zT_of 1616 (by decide +kernel) (by decide +kernel)⟩
set_option maxRecDepth 100000 in
set_option maxHeartbeats 4000000 in
theorem wL_law_b545 {w : zW} (F : Nat) (k18 : zV → zV → zV → zV → zV → zV → zV → zV → Int32 → Option (Int32 × zV × zV × zV × zV × zV × zV × zV × zV)) (hk18 : ∀ (V0 V1 V2 V3 V4 V5 V6 V7 : zV) (x3 : Int32) (res : Int32 × zV × zV × zV × zV × zV × zV × zV × zV), k18 V0 V1 V2 V3 V4 V5 V6 V7 x3 = some res → zR w kL_law 27 0 0 (some (.int res.1)) (zE zds w [res.2.1, res.2.2.1, res.2.2.2.1, res.2.2.2.2.1, res.2.2.2.2.2.1, res.2.2.2.2.2.2.1, res.2.2.2.2.2.2.2.1, res.2.2.2.2.2.2.2.2]) 18 [(0, .ref w.2.2.2.1), (1, .ref (w.1 + 0)), (2, .ref (w.1 + 88)), (3, .int x3)] [] (zE zds w [V0, V1, V2, V3, V4, V5, V6, V7])) (V0 V1 V2 V3 V4 V5 V6 V7 : zV) (x3 : Int32) (res : Int32 × zV × zV × zV × zV × zV × zV × zV × zV) (h : fL_law_b545 F w.2.2.2.2.1 w.2.2.2.2.2 k18 V0 V1 V2 V3 V4 V5 V6 V7 x3 = some res) : zR w kL_law 27 0 0 (some (.int res.1)) (zE zds w [res.2.1, res.2.2.1, res.2.2.2.1, res.2.2.2.2.1, res.2.2.2.2.2.1, res.2.2.2.2.2.2.1, res.2.2.2.2.2.2.2.1, res.2.2.2.2.2.2.2.2]) 545 [(0, .ref w.2.2.2.1), (1, .ref (w.1 + 0)), (2, .ref (w.1 + 88)), (3, .int x3)] [] (zE zds w [V0, V1, V2, V3, V4, V5, V6, V7]) := by
  unfold fL_law_b545 at h
  refine zR_iinc (u := (x3 + 6)) (lv' := [(0, .ref w.2.2.2.1), (1, .ref (w.1 + 0)), (2, .ref (w.1 + 88)), (3, .int (x3 + 6))]) dL_law_545 3 rfl rfl (Nat.le_of_ble_eq_true rfl) rfl ?_
  refine zR_goto (tgt := 18) dL_law_548 (by decide) ?_
  exact hk18 V0 V1 V2 V3 V4 V5 V6 V7 (x3 + 6) _ h
set_option maxRecDepth 100000 in
set_option maxHeartbeats 4000000 in
theorem wL_law_b487 {w : zW} (F : Nat) (k18 : zV → zV → zV → zV → zV → zV → zV → zV → Int32 → Option (Int32 × zV × zV × zV × zV × zV × zV × zV × zV)) (hk18 : ∀ (V0 V1 V2 V3 V4 V5 V6 V7 : zV) (x3 : Int32) (res : Int32 × zV × zV × zV × zV × zV × zV × zV × zV), k18 V0 V1 V2 V3 V4 V5 V6 V7 x3 = some res → zR w kL_law 27 0 0 (some (.int res.1)) (zE zds w [res.2.1, res.2.2.1, res.2.2.2.1, res.2.2.2.2.1, res.2.2.2.2.2.1, res.2.2.2.2.2.2.1, res.2.2.2.2.2.2.2.1, res.2.2.2.2.2.2.2.2]) 18 [(0, .ref w.2.2.2.1), (1, .ref (w.1 + 0)), (2, .ref (w.1 + 88)), (3, .int x3)] [] (zE zds w [V0, V1, V2, V3, V4, V5, V6, V7])) (V0 V1 V2 V3 V4 V5 V6 V7 : zV) (x3 : Int32) (s0 : Int32) (s2 : Int32) (s3 : Int32) (res : Int32 × zV × zV × zV × zV × zV × zV × zV × zV) (h : fL_law_b487 F w.2.2.2.2.1 w.2.2.2.2.2 k18 V0 V1 V2 V3 V4 V5 V6 V7 x3 s0 s2 s3 = some res) : zR w kL_law 27 0 0 (some (.int res.1)) (zE zds w [res.2.1, res.2.2.1, res.2.2.2.1, res.2.2.2.2.1, res.2.2.2.2.2.1, res.2.2.2.2.2.2.1, res.2.2.2.2.2.2.2.1, res.2.2.2.2.2.2.2.2]) 487 [(0, .ref w.2.2.2.1), (1, .ref (w.1 + 0)), (2, .ref (w.1 + 88)), (3, .int x3)] [.int s3, .int s2, .ref (w.1 + 88), .int s0] (zE zds w [V0, V1, V2, V3, V4, V5, V6, V7]) := by
  unfold fL_law_b487 at h
  obtain ⟨q1, hq2, h⟩ := zbd_some h
  refine zR_cV (rest := [.int s0]) (st1 := [.int q1, .int s0]) dL_law_487 (mX12_balls F V0 V1 V2 V3 V4 V5 V6 V7 s2 s3 _ hq2) zc_L_75 rfl (zE_at zd_88) ⟨_, _, rfl⟩ rfl (Nat.le_of_ble_eq_true rfl) (Nat.le_of_ble_eq_true rfl) rfl ?_
  by_cases c3 : s0 = q1
  · have h := zif_t h c3
    refine zR_icmp_eq_t (tgt := 545) dL_law_490 (by decide) c3 ?_
    exact wL_law_b545 F k18 hk18 V0 V1 V2 V3 V4 V5 V6 V7 x3 _ h
  · have h := zif_f h c3
    refine zR_icmp_eq_f (tgt := 545) dL_law_490 (by decide) c3 ?_
    refine zR_iconst (x := (0 : Int32)) dL_law_493 rfl ?_
    have h := Option.some.inj h
    subst h
    exact zR_iret (x := (0 : Int32)) dL_law_494 rfl znar0
set_option maxRecDepth 100000 in
set_option maxHeartbeats 4000000 in
theorem wL_law_b465 {w : zW} (F : Nat) (k18 : zV → zV → zV → zV → zV → zV → zV → zV → Int32 → Option (Int32 × zV × zV × zV × zV × zV × zV × zV × zV)) (hk18 : ∀ (V0 V1 V2 V3 V4 V5 V6 V7 : zV) (x3 : Int32) (res : Int32 × zV × zV × zV × zV × zV × zV × zV × zV), k18 V0 V1 V2 V3 V4 V5 V6 V7 x3 = some res → zR w kL_law 27 0 0 (some (.int res.1)) (zE zds w [res.2.1, res.2.2.1, res.2.2.2.1, res.2.2.2.2.1, res.2.2.2.2.2.1, res.2.2.2.2.2.2.1, res.2.2.2.2.2.2.2.1, res.2.2.2.2.2.2.2.2]) 18 [(0, .ref w.2.2.2.1), (1, .ref (w.1 + 0)), (2, .ref (w.1 + 88)), (3, .int x3)] [] (zE zds w [V0, V1, V2, V3, V4, V5, V6, V7])) (V0 V1 V2 V3 V4 V5 V6 V7 : zV) (x3 : Int32) (s1 : Int32) (s2 : Int32) (res : Int32 × zV × zV × zV × zV × zV × zV × zV × zV) (h : fL_law_b465 F w.2.2.2.2.1 w.2.2.2.2.2 k18 V0 V1 V2 V3 V4 V5 V6 V7 x3 s1 s2 = some res) : zR w kL_law 27 0 0 (some (.int res.1)) (zE zds w [res.2.1, res.2.2.1, res.2.2.2.1, res.2.2.2.2.1, res.2.2.2.2.2.1, res.2.2.2.2.2.2.1, res.2.2.2.2.2.2.2.1, res.2.2.2.2.2.2.2.2]) 465 [(0, .ref w.2.2.2.1), (1, .ref (w.1 + 0)), (2, .ref (w.1 + 88)), (3, .int x3)] [.int s2, .int s1, .ref (w.1 + 0)] (zE zds w [V0, V1, V2, V3, V4, V5, V6, V7]) := by
  unfold fL_law_b465 at h
  obtain ⟨q4, hq5, h⟩ := zbd_some h
  refine zR_cV (rest := []) (st1 := [.int q4]) dL_law_465 (mX11_balls F V0 V1 V2 V3 V4 V5 V6 V7 s1 s2 _ hq5) zc_L_71 rfl (zE_at zd_0) ⟨_, _, rfl⟩ rfl (Nat.le_of_ble_eq_true rfl) (Nat.le_of_ble_eq_true rfl) rfl ?_
  refine zR_aload_n dL_law_468 2 rfl ?_
  refine zR_aload_n dL_law_469 0 rfl ?_
  refine zR_iload_n dL_law_470 3 rfl ?_
  refine zR_iconst (x := (1 : Int32)) dL_law_471 rfl ?_
  refine zR_iadd dL_law_472 ?_
  obtain ⟨g6, h⟩ := zchk_some h
  refine zR_sld dL_law_473 g6 ?_
  refine zR_aload_n dL_law_474 0 rfl ?_
  refine zR_iload_n dL_law_475 3 rfl ?_
  refine zR_iconst (x := (2 : Int32)) dL_law_476 rfl ?_
  refine zR_iadd dL_law_477 ?_
  obtain ⟨g7, h⟩ := zchk_some h
  refine zR_sld dL_law_478 g7 ?_
  by_cases c8 : (w.2.2.2.2.2 ((x3 + (2 : Int32))).toNatClampNeg) = 0
  · have h := zif_t h c8
    refine zR_if_eq_t (tgt := 486) dL_law_479 (by decide) c8 ?_
    refine zR_iconst (x := (0 : Int32)) dL_law_486 rfl ?_
    exact wL_law_b487 F k18 hk18 V0 V1 V2 V3 V4 V5 V6 V7 x3 q4 (w.2.2.2.2.2 ((x3 + (1 : Int32))).toNatClampNeg) (0 : Int32) _ h
  · have h := zif_f h c8
    refine zR_if_eq_f (tgt := 486) dL_law_479 (by decide) c8 ?_
    refine zR_iconst (x := (1 : Int32)) dL_law_482 rfl ?_
    refine zR_goto (tgt := 487) dL_law_483 (by decide) ?_
    exact wL_law_b487 F k18 hk18 V0 V1 V2 V3 V4 V5 V6 V7 x3 q4 (w.2.2.2.2.2 ((x3 + (1 : Int32))).toNatClampNeg) (1 : Int32) _ h
set_option maxRecDepth 100000 in
set_option maxHeartbeats 4000000 in
theorem wL_law_l18 {w : zW} (F : Nat) : ∀ (n : Nat) (V0 V1 V2 V3 V4 V5 V6 V7 : zV) (x3 : Int32) (res : Int32 × zV × zV × zV × zV × zV × zV × zV × zV), fL_law_l18 F w.2.2.2.2.1 w.2.2.2.2.2 n V0 V1 V2 V3 V4 V5 V6 V7 x3 = some res → zR w kL_law 27 0 0 (some (.int res.1)) (zE zds w [res.2.1, res.2.2.1, res.2.2.2.1, res.2.2.2.2.1, res.2.2.2.2.2.1, res.2.2.2.2.2.2.1, res.2.2.2.2.2.2.2.1, res.2.2.2.2.2.2.2.2]) 18 [(0, .ref w.2.2.2.1), (1, .ref (w.1 + 0)), (2, .ref (w.1 + 88)), (3, .int x3)] [] (zE zds w [V0, V1, V2, V3, V4, V5, V6, V7]) := by
  intro n
  induction n with
  | zero =>
    intro V0 V1 V2 V3 V4 V5 V6 V7 x3 res h
    simp [fL_law_l18] at h
  | succ n ih =>
    intro V0 V1 V2 V3 V4 V5 V6 V7 x3 res h
    rw [fL_law_l18] at h
    refine zR_iload_n dL_law_18 3 rfl ?_
    refine zR_aload_n dL_law_19 0 rfl ?_
    refine zR_slen (u := nI w.2.2.2.2.1) dL_law_20 rfl ?_
    refine zR_bipush (x := (6 : Int32)) dL_law_21 rfl ?_
    refine zR_isub dL_law_23 ?_
    by_cases c9 : ((nI w.2.2.2.2.1) - (6 : Int32)) < x3
    · have h := zif_t h c9
      refine zR_icmp_gt_t (tgt := 551) dL_law_24 (by decide) c9 ?_
      refine zR_iconst (x := (1 : Int32)) dL_law_551 rfl ?_
      have h := Option.some.inj h
      subst h
      exact zR_iret (x := (1 : Int32)) dL_law_552 rfl znar1
    · have h := zif_f h c9
      refine zR_icmp_gt_f (tgt := 551) dL_law_24 (by decide) c9 ?_
      refine zR_aload_n dL_law_27 0 rfl ?_
      refine zR_iload_n dL_law_28 3 rfl ?_
      obtain ⟨g10, h⟩ := zchk_some h
      refine zR_sld dL_law_29 g10 ?_
      refine zR_bipush (x := (31 : Int32)) dL_law_30 rfl ?_
      refine zR_iand dL_law_32 ?_
      by_cases c11 : ((w.2.2.2.2.2 (x3).toNatClampNeg) &&& (31 : Int32)) = (0 : Int32)
      · have h := zif_t h c11
        refine zR_tabc (tgt := 116) dL_law_33 c11 rfl (by decide) ?_
        refine zR_aload_n dL_law_116 1 rfl ?_
        refine zR_aload_n dL_law_117 0 rfl ?_
        refine zR_iload_n dL_law_118 3 rfl ?_
        refine zR_iconst (x := (1 : Int32)) dL_law_119 rfl ?_
        refine zR_iadd dL_law_120 ?_
        obtain ⟨g12, h⟩ := zchk_some h
        refine zR_sld dL_law_121 g12 ?_
        refine zR_aload_n dL_law_122 0 rfl ?_
        refine zR_iload_n dL_law_123 3 rfl ?_
        refine zR_iconst (x := (2 : Int32)) dL_law_124 rfl ?_
        refine zR_iadd dL_law_125 ?_
        obtain ⟨g13, h⟩ := zchk_some h
        refine zR_sld dL_law_126 g13 ?_
        refine zR_aload_n dL_law_127 0 rfl ?_
        refine zR_iload_n dL_law_128 3 rfl ?_
        refine zR_iconst (x := (3 : Int32)) dL_law_129 rfl ?_
        refine zR_iadd dL_law_130 ?_
        obtain ⟨g14, h⟩ := zchk_some h
        refine zR_sld dL_law_131 g14 ?_
        refine zR_aload_n dL_law_132 0 rfl ?_
        refine zR_iload_n dL_law_133 3 rfl ?_
        refine zR_iconst (x := (4 : Int32)) dL_law_134 rfl ?_
        refine zR_iadd dL_law_135 ?_
        obtain ⟨g15, h⟩ := zchk_some h
        refine zR_sld dL_law_136 g15 ?_
        refine zR_aload_n dL_law_137 0 rfl ?_
        refine zR_iload_n dL_law_138 3 rfl ?_
        refine zR_iconst (x := (5 : Int32)) dL_law_139 rfl ?_
        refine zR_iadd dL_law_140 ?_
        obtain ⟨g16, h⟩ := zchk_some h
        refine zR_sld dL_law_141 g16 ?_
        obtain ⟨q17, hq18, h⟩ := zbd_some h
        refine zR_cV (rest := []) (st1 := [.int q17.1]) dL_law_142 (mX11_feed F V0 V1 V2 V3 V4 V5 V6 V7 (w.2.2.2.2.2 ((x3 + (1 : Int32))).toNatClampNeg) (w.2.2.2.2.2 ((x3 + (2 : Int32))).toNatClampNeg) (w.2.2.2.2.2 ((x3 + (3 : Int32))).toNatClampNeg) (w.2.2.2.2.2 ((x3 + (4 : Int32))).toNatClampNeg) (w.2.2.2.2.2 ((x3 + (5 : Int32))).toNatClampNeg) _ hq18) zc_L_13 rfl (zE_at zd_0) ⟨_, _, rfl⟩ rfl (Nat.le_of_ble_eq_true rfl) (Nat.le_of_ble_eq_true rfl) rfl ?_
        refine zR_aload_n dL_law_145 2 rfl ?_
        refine zR_aload_n dL_law_146 0 rfl ?_
        refine zR_iload_n dL_law_147 3 rfl ?_
        refine zR_iconst (x := (1 : Int32)) dL_law_148 rfl ?_
        refine zR_iadd dL_law_149 ?_
        obtain ⟨g19, h⟩ := zchk_some h
        refine zR_sld dL_law_150 g19 ?_
        refine zR_aload_n dL_law_151 0 rfl ?_
        refine zR_iload_n dL_law_152 3 rfl ?_
        refine zR_iconst (x := (2 : Int32)) dL_law_153 rfl ?_
        refine zR_iadd dL_law_154 ?_
        obtain ⟨g20, h⟩ := zchk_some h
        refine zR_sld dL_law_155 g20 ?_
        refine zR_aload_n dL_law_156 0 rfl ?_
        refine zR_iload_n dL_law_157 3 rfl ?_
        refine zR_iconst (x := (3 : Int32)) dL_law_158 rfl ?_
        refine zR_iadd dL_law_159 ?_
        obtain ⟨g21, h⟩ := zchk_some h
        refine zR_sld dL_law_160 g21 ?_
        refine zR_aload_n dL_law_161 0 rfl ?_
        refine zR_iload_n dL_law_162 3 rfl ?_
        refine zR_iconst (x := (4 : Int32)) dL_law_163 rfl ?_
        refine zR_iadd dL_law_164 ?_
        obtain ⟨g22, h⟩ := zchk_some h
        refine zR_sld dL_law_165 g22 ?_
        refine zR_aload_n dL_law_166 0 rfl ?_
        refine zR_iload_n dL_law_167 3 rfl ?_
        refine zR_iconst (x := (5 : Int32)) dL_law_168 rfl ?_
        refine zR_iadd dL_law_169 ?_
        obtain ⟨g23, h⟩ := zchk_some h
        refine zR_sld dL_law_170 g23 ?_
        obtain ⟨q24, hq25, h⟩ := zbd_some h
        refine zR_cV (rest := [.int q17.1]) (st1 := [.int q24.1, .int q17.1]) dL_law_171 (mX12_feed F q17.2 V1 V2 V3 V4 V5 V6 V7 (w.2.2.2.2.2 ((x3 + (1 : Int32))).toNatClampNeg) (w.2.2.2.2.2 ((x3 + (2 : Int32))).toNatClampNeg) (w.2.2.2.2.2 ((x3 + (3 : Int32))).toNatClampNeg) (w.2.2.2.2.2 ((x3 + (4 : Int32))).toNatClampNeg) (w.2.2.2.2.2 ((x3 + (5 : Int32))).toNatClampNeg) _ hq25) zc_L_17 rfl (zE_at zd_88) ⟨_, _, rfl⟩ rfl (Nat.le_of_ble_eq_true rfl) (Nat.le_of_ble_eq_true rfl) rfl ?_
        by_cases c26 : q17.1 = q24.1
        · have h := zif_t h c26
          refine zR_icmp_eq_t (tgt := 545) dL_law_174 (by decide) c26 ?_
          exact wL_law_b545 F (fL_law_l18 F w.2.2.2.2.1 w.2.2.2.2.2 n) ih q17.2 V1 V2 V3 V4 V5 V6 q24.2 x3 _ h
        · have h := zif_f h c26
          refine zR_icmp_eq_f (tgt := 545) dL_law_174 (by decide) c26 ?_
          refine zR_iconst (x := (0 : Int32)) dL_law_177 rfl ?_
          have h := Option.some.inj h
          subst h
          exact zR_iret (x := (0 : Int32)) dL_law_178 rfl znar0
      · have h := zif_f h c11
        by_cases c27 : ((w.2.2.2.2.2 (x3).toNatClampNeg) &&& (31 : Int32)) = (1 : Int32)
        · have h := zif_t h c27
          refine zR_tabc (tgt := 179) dL_law_33 c27 rfl (by decide) ?_
          refine zR_aload_n dL_law_179 1 rfl ?_
          refine zR_aload_n dL_law_180 0 rfl ?_
          refine zR_iload_n dL_law_181 3 rfl ?_
          refine zR_iconst (x := (1 : Int32)) dL_law_182 rfl ?_
          refine zR_iadd dL_law_183 ?_
          obtain ⟨g28, h⟩ := zchk_some h
          refine zR_sld dL_law_184 g28 ?_
          obtain ⟨q29, hq30, h⟩ := zbd_some h
          refine zR_cV (rest := []) (st1 := [.int q29.1]) dL_law_185 (mX11_back F V0 V1 V2 V3 V4 V5 V6 V7 (w.2.2.2.2.2 ((x3 + (1 : Int32))).toNatClampNeg) _ hq30) zc_L_18 rfl (zE_at zd_0) ⟨_, _, rfl⟩ rfl (Nat.le_of_ble_eq_true rfl) (Nat.le_of_ble_eq_true rfl) rfl ?_
          refine zR_aload_n dL_law_188 2 rfl ?_
          refine zR_aload_n dL_law_189 0 rfl ?_
          refine zR_iload_n dL_law_190 3 rfl ?_
          refine zR_iconst (x := (1 : Int32)) dL_law_191 rfl ?_
          refine zR_iadd dL_law_192 ?_
          obtain ⟨g31, h⟩ := zchk_some h
          refine zR_sld dL_law_193 g31 ?_
          obtain ⟨q32, hq33, h⟩ := zbd_some h
          refine zR_cV (rest := [.int q29.1]) (st1 := [.int q32.1, .int q29.1]) dL_law_194 (mX12_back F q29.2 V1 V2 V3 V4 V5 V6 V7 (w.2.2.2.2.2 ((x3 + (1 : Int32))).toNatClampNeg) _ hq33) zc_L_22 rfl (zE_at zd_88) ⟨_, _, rfl⟩ rfl (Nat.le_of_ble_eq_true rfl) (Nat.le_of_ble_eq_true rfl) rfl ?_
          by_cases c34 : q29.1 = q32.1
          · have h := zif_t h c34
            refine zR_icmp_eq_t (tgt := 545) dL_law_197 (by decide) c34 ?_
            exact wL_law_b545 F (fL_law_l18 F w.2.2.2.2.1 w.2.2.2.2.2 n) ih q29.2 V1 V2 V3 V4 V5 V6 q32.2 x3 _ h
          · have h := zif_f h c34
            refine zR_icmp_eq_f (tgt := 545) dL_law_197 (by decide) c34 ?_
            refine zR_iconst (x := (0 : Int32)) dL_law_200 rfl ?_
            have h := Option.some.inj h
            subst h
            exact zR_iret (x := (0 : Int32)) dL_law_201 rfl znar0
        · have h := zif_f h c27
          by_cases c35 : ((w.2.2.2.2.2 (x3).toNatClampNeg) &&& (31 : Int32)) = (2 : Int32)
          · have h := zif_t h c35
            refine zR_tabc (tgt := 202) dL_law_33 c35 rfl (by decide) ?_
            refine zR_aload_n dL_law_202 1 rfl ?_
            obtain ⟨q36, hq37, h⟩ := zbd_some h
            refine zR_cV (rest := []) (st1 := [.int q36.1]) dL_law_203 (mX11_read F V0 V1 V2 V3 V4 V5 V6 V7 _ hq37) zc_L_23 rfl (zE_at zd_0) ⟨_, _, rfl⟩ rfl (Nat.le_of_ble_eq_true rfl) (Nat.le_of_ble_eq_true rfl) rfl ?_
            refine zR_aload_n dL_law_206 2 rfl ?_
            obtain ⟨q38, hq39, h⟩ := zbd_some h
            refine zR_cV (rest := [.int q36.1]) (st1 := [.int q38.1, .int q36.1]) dL_law_207 (mX12_read F q36.2.1 q36.2.2.1 q36.2.2.2.1 q36.2.2.2.2.1 q36.2.2.2.2.2 V5 V6 V7 _ hq39) zc_L_27 rfl (zE_at zd_88) ⟨_, _, rfl⟩ rfl (Nat.le_of_ble_eq_true rfl) (Nat.le_of_ble_eq_true rfl) rfl ?_
            by_cases c40 : q36.1 = q38.1
            · have h := zif_t h c40
              refine zR_icmp_eq_t (tgt := 545) dL_law_210 (by decide) c40 ?_
              exact wL_law_b545 F (fL_law_l18 F w.2.2.2.2.1 w.2.2.2.2.2 n) ih q36.2.1 q36.2.2.1 q36.2.2.2.1 q36.2.2.2.2.1 q36.2.2.2.2.2 V5 V6 q38.2 x3 _ h
            · have h := zif_f h c40
              refine zR_icmp_eq_f (tgt := 545) dL_law_210 (by decide) c40 ?_
              refine zR_iconst (x := (0 : Int32)) dL_law_213 rfl ?_
              have h := Option.some.inj h
              subst h
              exact zR_iret (x := (0 : Int32)) dL_law_214 rfl znar0
          · have h := zif_f h c35
            by_cases c41 : ((w.2.2.2.2.2 (x3).toNatClampNeg) &&& (31 : Int32)) = (3 : Int32)
            · have h := zif_t h c41
              refine zR_tabc (tgt := 215) dL_law_33 c41 rfl (by decide) ?_
              refine zR_aload_n dL_law_215 1 rfl ?_
              obtain ⟨q42, hq43, h⟩ := zbd_some h
              refine zR_cV (rest := []) (st1 := [.int q42]) dL_law_216 (mX11_place F V0 V1 V2 V3 V4 V5 V6 V7 _ hq43) zc_L_28 rfl (zE_at zd_0) ⟨_, _, rfl⟩ rfl (Nat.le_of_ble_eq_true rfl) (Nat.le_of_ble_eq_true rfl) rfl ?_
              refine zR_aload_n dL_law_219 2 rfl ?_
              obtain ⟨q44, hq45, h⟩ := zbd_some h
              refine zR_cV (rest := [.int q42]) (st1 := [.int q44, .int q42]) dL_law_220 (mX12_place F V0 V1 V2 V3 V4 V5 V6 V7 _ hq45) zc_L_31 rfl (zE_at zd_88) ⟨_, _, rfl⟩ rfl (Nat.le_of_ble_eq_true rfl) (Nat.le_of_ble_eq_true rfl) rfl ?_
              by_cases c46 : q42 = q44
              · have h := zif_t h c46
                refine zR_icmp_eq_t (tgt := 545) dL_law_223 (by decide) c46 ?_
                exact wL_law_b545 F (fL_law_l18 F w.2.2.2.2.1 w.2.2.2.2.2 n) ih V0 V1 V2 V3 V4 V5 V6 V7 x3 _ h
              · have h := zif_f h c46
                refine zR_icmp_eq_f (tgt := 545) dL_law_223 (by decide) c46 ?_
                refine zR_iconst (x := (0 : Int32)) dL_law_226 rfl ?_
                have h := Option.some.inj h
                subst h
                exact zR_iret (x := (0 : Int32)) dL_law_227 rfl znar0
            · have h := zif_f h c41
              by_cases c47 : ((w.2.2.2.2.2 (x3).toNatClampNeg) &&& (31 : Int32)) = (4 : Int32)
              · have h := zif_t h c47
                refine zR_tabc (tgt := 228) dL_law_33 c47 rfl (by decide) ?_
                refine zR_aload_n dL_law_228 1 rfl ?_
                obtain ⟨q48, hq49, h⟩ := zbd_some h
                refine zR_cV (rest := []) (st1 := [.int q48.1]) dL_law_229 (mX11_begin F V0 V1 V2 V3 V4 V5 V6 V7 _ hq49) zc_L_32 rfl (zE_at zd_0) ⟨_, _, rfl⟩ rfl (Nat.le_of_ble_eq_true rfl) (Nat.le_of_ble_eq_true rfl) rfl ?_
                refine zR_aload_n dL_law_232 2 rfl ?_
                obtain ⟨q50, hq51, h⟩ := zbd_some h
                refine zR_cV (rest := [.int q48.1]) (st1 := [.int q50.1, .int q48.1]) dL_law_233 (mX12_begin F q48.2.1 V1 V2 V3 V4 q48.2.2 V6 V7 _ hq51) zc_L_36 rfl (zE_at zd_88) ⟨_, _, rfl⟩ rfl (Nat.le_of_ble_eq_true rfl) (Nat.le_of_ble_eq_true rfl) rfl ?_
                by_cases c52 : q48.1 = q50.1
                · have h := zif_t h c52
                  refine zR_icmp_eq_t (tgt := 545) dL_law_236 (by decide) c52 ?_
                  exact wL_law_b545 F (fL_law_l18 F w.2.2.2.2.1 w.2.2.2.2.2 n) ih q48.2.1 V1 V2 V3 V4 q48.2.2 V6 q50.2 x3 _ h
                · have h := zif_f h c52
                  refine zR_icmp_eq_f (tgt := 545) dL_law_236 (by decide) c52 ?_
                  refine zR_iconst (x := (0 : Int32)) dL_law_239 rfl ?_
                  have h := Option.some.inj h
                  subst h
                  exact zR_iret (x := (0 : Int32)) dL_law_240 rfl znar0
              · have h := zif_f h c47
                by_cases c53 : ((w.2.2.2.2.2 (x3).toNatClampNeg) &&& (31 : Int32)) = (5 : Int32)
                · have h := zif_t h c53
                  refine zR_tabc (tgt := 241) dL_law_33 c53 rfl (by decide) ?_
                  refine zR_aload_n dL_law_241 1 rfl ?_
                  refine zR_aload_n dL_law_242 0 rfl ?_
                  refine zR_iload_n dL_law_243 3 rfl ?_
                  refine zR_iconst (x := (1 : Int32)) dL_law_244 rfl ?_
                  refine zR_iadd dL_law_245 ?_
                  obtain ⟨g54, h⟩ := zchk_some h
                  refine zR_sld dL_law_246 g54 ?_
                  obtain ⟨q55, hq56, h⟩ := zbd_some h
                  refine zR_cV (rest := []) (st1 := [.int q55.1]) dL_law_247 (mX11_press F V0 V1 V2 V3 V4 V5 V6 V7 (w.2.2.2.2.2 ((x3 + (1 : Int32))).toNatClampNeg) _ hq56) zc_L_37 rfl (zE_at zd_0) ⟨_, _, rfl⟩ rfl (Nat.le_of_ble_eq_true rfl) (Nat.le_of_ble_eq_true rfl) rfl ?_
                  refine zR_aload_n dL_law_250 2 rfl ?_
                  refine zR_aload_n dL_law_251 0 rfl ?_
                  refine zR_iload_n dL_law_252 3 rfl ?_
                  refine zR_iconst (x := (1 : Int32)) dL_law_253 rfl ?_
                  refine zR_iadd dL_law_254 ?_
                  obtain ⟨g57, h⟩ := zchk_some h
                  refine zR_sld dL_law_255 g57 ?_
                  obtain ⟨q58, hq59, h⟩ := zbd_some h
                  refine zR_cV (rest := [.int q55.1]) (st1 := [.int q58.1, .int q55.1]) dL_law_256 (mX12_press F q55.2.1 V1 V2 V3 V4 q55.2.2 V6 V7 (w.2.2.2.2.2 ((x3 + (1 : Int32))).toNatClampNeg) _ hq59) zc_L_40 rfl (zE_at zd_88) ⟨_, _, rfl⟩ rfl (Nat.le_of_ble_eq_true rfl) (Nat.le_of_ble_eq_true rfl) rfl ?_
                  by_cases c60 : q55.1 = q58.1
                  · have h := zif_t h c60
                    refine zR_icmp_eq_t (tgt := 545) dL_law_259 (by decide) c60 ?_
                    exact wL_law_b545 F (fL_law_l18 F w.2.2.2.2.1 w.2.2.2.2.2 n) ih q55.2.1 V1 V2 V3 V4 q55.2.2 V6 q58.2 x3 _ h
                  · have h := zif_f h c60
                    refine zR_icmp_eq_f (tgt := 545) dL_law_259 (by decide) c60 ?_
                    refine zR_iconst (x := (0 : Int32)) dL_law_262 rfl ?_
                    have h := Option.some.inj h
                    subst h
                    exact zR_iret (x := (0 : Int32)) dL_law_263 rfl znar0
                · have h := zif_f h c53
                  by_cases c61 : ((w.2.2.2.2.2 (x3).toNatClampNeg) &&& (31 : Int32)) = (6 : Int32)
                  · have h := zif_t h c61
                    refine zR_tabc (tgt := 264) dL_law_33 c61 rfl (by decide) ?_
                    refine zR_aload_n dL_law_264 1 rfl ?_
                    refine zR_aload_n dL_law_265 0 rfl ?_
                    refine zR_iload_n dL_law_266 3 rfl ?_
                    refine zR_iconst (x := (1 : Int32)) dL_law_267 rfl ?_
                    refine zR_iadd dL_law_268 ?_
                    obtain ⟨g62, h⟩ := zchk_some h
                    refine zR_sld dL_law_269 g62 ?_
                    obtain ⟨q63, hq64, h⟩ := zbd_some h
                    refine zR_cV (rest := []) (st1 := [.int q63.1]) dL_law_270 (mX11_ticks F V0 V1 V2 V3 V4 V5 V6 V7 (w.2.2.2.2.2 ((x3 + (1 : Int32))).toNatClampNeg) _ hq64) zc_L_41 rfl (zE_at zd_0) ⟨_, _, rfl⟩ rfl (Nat.le_of_ble_eq_true rfl) (Nat.le_of_ble_eq_true rfl) rfl ?_
                    refine zR_aload_n dL_law_273 2 rfl ?_
                    refine zR_aload_n dL_law_274 0 rfl ?_
                    refine zR_iload_n dL_law_275 3 rfl ?_
                    refine zR_iconst (x := (1 : Int32)) dL_law_276 rfl ?_
                    refine zR_iadd dL_law_277 ?_
                    obtain ⟨g65, h⟩ := zchk_some h
                    refine zR_sld dL_law_278 g65 ?_
                    obtain ⟨q66, hq67, h⟩ := zbd_some h
                    refine zR_cV (rest := [.int q63.1]) (st1 := [.int q66.1, .int q63.1]) dL_law_279 (mX12_ticks F V0 V1 V2 V3 V4 q63.2 V6 V7 (w.2.2.2.2.2 ((x3 + (1 : Int32))).toNatClampNeg) _ hq67) zc_L_44 rfl (zE_at zd_88) ⟨_, _, rfl⟩ rfl (Nat.le_of_ble_eq_true rfl) (Nat.le_of_ble_eq_true rfl) rfl ?_
                    by_cases c68 : q63.1 = q66.1
                    · have h := zif_t h c68
                      refine zR_icmp_eq_t (tgt := 545) dL_law_282 (by decide) c68 ?_
                      exact wL_law_b545 F (fL_law_l18 F w.2.2.2.2.1 w.2.2.2.2.2 n) ih V0 V1 V2 V3 V4 q63.2 V6 q66.2 x3 _ h
                    · have h := zif_f h c68
                      refine zR_icmp_eq_f (tgt := 545) dL_law_282 (by decide) c68 ?_
                      refine zR_iconst (x := (0 : Int32)) dL_law_285 rfl ?_
                      have h := Option.some.inj h
                      subst h
                      exact zR_iret (x := (0 : Int32)) dL_law_286 rfl znar0
                  · have h := zif_f h c61
                    by_cases c69 : ((w.2.2.2.2.2 (x3).toNatClampNeg) &&& (31 : Int32)) = (7 : Int32)
                    · have h := zif_t h c69
                      refine zR_tabc (tgt := 287) dL_law_33 c69 rfl (by decide) ?_
                      refine zR_aload_n dL_law_287 1 rfl ?_
                      obtain ⟨q70, hq71, h⟩ := zbd_some h
                      refine zR_cV (rest := []) (st1 := [.long q70]) dL_law_288 (mX11_score F V0 V1 V2 V3 V4 V5 V6 V7 _ hq71) zc_L_45 rfl (zE_at zd_0) ⟨_, _, rfl⟩ rfl (Nat.le_of_ble_eq_true rfl) (Nat.le_of_ble_eq_true rfl) rfl ?_
                      refine zR_aload_n dL_law_291 2 rfl ?_
                      obtain ⟨q72, hq73, h⟩ := zbd_some h
                      refine zR_cV (rest := [.long q70]) (st1 := [.long q72, .long q70]) dL_law_292 (mX12_score F V0 V1 V2 V3 V4 V5 V6 V7 _ hq73) zc_L_49 rfl (zE_at zd_88) ⟨_, _, rfl⟩ rfl (Nat.le_of_ble_eq_true rfl) (Nat.le_of_ble_eq_true rfl) rfl ?_
                      refine zR_lcmp dL_law_295 ?_
                      by_cases c74 : (lg_cmp q70 q72) = 0
                      · have h := zif_t h c74
                        refine zR_if_eq_t (tgt := 545) dL_law_296 (by decide) c74 ?_
                        exact wL_law_b545 F (fL_law_l18 F w.2.2.2.2.1 w.2.2.2.2.2 n) ih V0 V1 V2 V3 V4 V5 V6 V7 x3 _ h
                      · have h := zif_f h c74
                        refine zR_if_eq_f (tgt := 545) dL_law_296 (by decide) c74 ?_
                        refine zR_iconst (x := (0 : Int32)) dL_law_299 rfl ?_
                        have h := Option.some.inj h
                        subst h
                        exact zR_iret (x := (0 : Int32)) dL_law_300 rfl znar0
                    · have h := zif_f h c69
                      by_cases c75 : ((w.2.2.2.2.2 (x3).toNatClampNeg) &&& (31 : Int32)) = (8 : Int32)
                      · have h := zif_t h c75
                        refine zR_tabc (tgt := 301) dL_law_33 c75 rfl (by decide) ?_
                        refine zR_aload_n dL_law_301 1 rfl ?_
                        refine zR_aload_n dL_law_302 0 rfl ?_
                        refine zR_iload_n dL_law_303 3 rfl ?_
                        refine zR_iconst (x := (1 : Int32)) dL_law_304 rfl ?_
                        refine zR_iadd dL_law_305 ?_
                        obtain ⟨g76, h⟩ := zchk_some h
                        refine zR_sld dL_law_306 g76 ?_
                        refine zR_aload_n dL_law_307 0 rfl ?_
                        refine zR_iload_n dL_law_308 3 rfl ?_
                        refine zR_iconst (x := (2 : Int32)) dL_law_309 rfl ?_
                        refine zR_iadd dL_law_310 ?_
                        obtain ⟨g77, h⟩ := zchk_some h
                        refine zR_sld dL_law_311 g77 ?_
                        obtain ⟨q78, hq79, h⟩ := zbd_some h
                        refine zR_cV (rest := []) (st1 := [.int q78]) dL_law_312 (mX11_told F V0 V1 V2 V3 V4 V5 V6 V7 (w.2.2.2.2.2 ((x3 + (1 : Int32))).toNatClampNeg) (w.2.2.2.2.2 ((x3 + (2 : Int32))).toNatClampNeg) _ hq79) zc_L_50 rfl (zE_at zd_0) ⟨_, _, rfl⟩ rfl (Nat.le_of_ble_eq_true rfl) (Nat.le_of_ble_eq_true rfl) rfl ?_
                        refine zR_aload_n dL_law_315 2 rfl ?_
                        refine zR_aload_n dL_law_316 0 rfl ?_
                        refine zR_iload_n dL_law_317 3 rfl ?_
                        refine zR_iconst (x := (1 : Int32)) dL_law_318 rfl ?_
                        refine zR_iadd dL_law_319 ?_
                        obtain ⟨g80, h⟩ := zchk_some h
                        refine zR_sld dL_law_320 g80 ?_
                        refine zR_aload_n dL_law_321 0 rfl ?_
                        refine zR_iload_n dL_law_322 3 rfl ?_
                        refine zR_iconst (x := (2 : Int32)) dL_law_323 rfl ?_
                        refine zR_iadd dL_law_324 ?_
                        obtain ⟨g81, h⟩ := zchk_some h
                        refine zR_sld dL_law_325 g81 ?_
                        obtain ⟨q82, hq83, h⟩ := zbd_some h
                        refine zR_cV (rest := [.int q78]) (st1 := [.int q82, .int q78]) dL_law_326 (mX12_told F V0 V1 V2 V3 V4 V5 V6 V7 (w.2.2.2.2.2 ((x3 + (1 : Int32))).toNatClampNeg) (w.2.2.2.2.2 ((x3 + (2 : Int32))).toNatClampNeg) _ hq83) zc_L_54 rfl (zE_at zd_88) ⟨_, _, rfl⟩ rfl (Nat.le_of_ble_eq_true rfl) (Nat.le_of_ble_eq_true rfl) rfl ?_
                        by_cases c84 : q78 = q82
                        · have h := zif_t h c84
                          refine zR_icmp_eq_t (tgt := 545) dL_law_329 (by decide) c84 ?_
                          exact wL_law_b545 F (fL_law_l18 F w.2.2.2.2.1 w.2.2.2.2.2 n) ih V0 V1 V2 V3 V4 V5 V6 V7 x3 _ h
                        · have h := zif_f h c84
                          refine zR_icmp_eq_f (tgt := 545) dL_law_329 (by decide) c84 ?_
                          refine zR_iconst (x := (0 : Int32)) dL_law_332 rfl ?_
                          have h := Option.some.inj h
                          subst h
                          exact zR_iret (x := (0 : Int32)) dL_law_333 rfl znar0
                      · have h := zif_f h c75
                        by_cases c85 : ((w.2.2.2.2.2 (x3).toNatClampNeg) &&& (31 : Int32)) = (9 : Int32)
                        · have h := zif_t h c85
                          refine zR_tabc (tgt := 334) dL_law_33 c85 rfl (by decide) ?_
                          refine zR_aload_n dL_law_334 1 rfl ?_
                          refine zR_aload_n dL_law_335 0 rfl ?_
                          refine zR_iload_n dL_law_336 3 rfl ?_
                          refine zR_iconst (x := (1 : Int32)) dL_law_337 rfl ?_
                          refine zR_iadd dL_law_338 ?_
                          obtain ⟨g86, h⟩ := zchk_some h
                          refine zR_sld dL_law_339 g86 ?_
                          refine zR_aload_n dL_law_340 0 rfl ?_
                          refine zR_iload_n dL_law_341 3 rfl ?_
                          refine zR_iconst (x := (2 : Int32)) dL_law_342 rfl ?_
                          refine zR_iadd dL_law_343 ?_
                          obtain ⟨g87, h⟩ := zchk_some h
                          refine zR_sld dL_law_344 g87 ?_
                          obtain ⟨q88, hq89, h⟩ := zbd_some h
                          refine zR_cV (rest := []) (st1 := [.int q88]) dL_law_345 (mX11_coil F V0 V1 V2 V3 V4 V5 V6 V7 (w.2.2.2.2.2 ((x3 + (1 : Int32))).toNatClampNeg) (w.2.2.2.2.2 ((x3 + (2 : Int32))).toNatClampNeg) _ hq89) zc_L_55 rfl (zE_at zd_0) ⟨_, _, rfl⟩ rfl (Nat.le_of_ble_eq_true rfl) (Nat.le_of_ble_eq_true rfl) rfl ?_
                          refine zR_aload_n dL_law_348 2 rfl ?_
                          refine zR_aload_n dL_law_349 0 rfl ?_
                          refine zR_iload_n dL_law_350 3 rfl ?_
                          refine zR_iconst (x := (1 : Int32)) dL_law_351 rfl ?_
                          refine zR_iadd dL_law_352 ?_
                          obtain ⟨g90, h⟩ := zchk_some h
                          refine zR_sld dL_law_353 g90 ?_
                          refine zR_aload_n dL_law_354 0 rfl ?_
                          refine zR_iload_n dL_law_355 3 rfl ?_
                          refine zR_iconst (x := (2 : Int32)) dL_law_356 rfl ?_
                          refine zR_iadd dL_law_357 ?_
                          obtain ⟨g91, h⟩ := zchk_some h
                          refine zR_sld dL_law_358 g91 ?_
                          obtain ⟨q92, hq93, h⟩ := zbd_some h
                          refine zR_cV (rest := [.int q88]) (st1 := [.int q92, .int q88]) dL_law_359 (mX12_coil F V0 V1 V2 V3 V4 V5 V6 V7 (w.2.2.2.2.2 ((x3 + (1 : Int32))).toNatClampNeg) (w.2.2.2.2.2 ((x3 + (2 : Int32))).toNatClampNeg) _ hq93) zc_L_58 rfl (zE_at zd_88) ⟨_, _, rfl⟩ rfl (Nat.le_of_ble_eq_true rfl) (Nat.le_of_ble_eq_true rfl) rfl ?_
                          by_cases c94 : q88 = q92
                          · have h := zif_t h c94
                            refine zR_icmp_eq_t (tgt := 545) dL_law_362 (by decide) c94 ?_
                            exact wL_law_b545 F (fL_law_l18 F w.2.2.2.2.1 w.2.2.2.2.2 n) ih V0 V1 V2 V3 V4 V5 V6 V7 x3 _ h
                          · have h := zif_f h c94
                            refine zR_icmp_eq_f (tgt := 545) dL_law_362 (by decide) c94 ?_
                            refine zR_iconst (x := (0 : Int32)) dL_law_365 rfl ?_
                            have h := Option.some.inj h
                            subst h
                            exact zR_iret (x := (0 : Int32)) dL_law_366 rfl znar0
                        · have h := zif_f h c85
                          by_cases c95 : ((w.2.2.2.2.2 (x3).toNatClampNeg) &&& (31 : Int32)) = (10 : Int32)
                          · have h := zif_t h c95
                            refine zR_tabc (tgt := 367) dL_law_33 c95 rfl (by decide) ?_
                            refine zR_aload_n dL_law_367 1 rfl ?_
                            refine zR_aload_n dL_law_368 0 rfl ?_
                            refine zR_iload_n dL_law_369 3 rfl ?_
                            refine zR_iconst (x := (1 : Int32)) dL_law_370 rfl ?_
                            refine zR_iadd dL_law_371 ?_
                            obtain ⟨g96, h⟩ := zchk_some h
                            refine zR_sld dL_law_372 g96 ?_
                            obtain ⟨q97, hq98, h⟩ := zbd_some h
                            refine zR_cV (rest := []) (st1 := [.int q97.1]) dL_law_373 (mX11_lamp F V0 V1 V2 V3 V4 V5 V6 V7 (w.2.2.2.2.2 ((x3 + (1 : Int32))).toNatClampNeg) _ hq98) zc_L_59 rfl (zE_at zd_0) ⟨_, _, rfl⟩ rfl (Nat.le_of_ble_eq_true rfl) (Nat.le_of_ble_eq_true rfl) rfl ?_
                            refine zR_aload_n dL_law_376 2 rfl ?_
                            refine zR_aload_n dL_law_377 0 rfl ?_
                            refine zR_iload_n dL_law_378 3 rfl ?_
                            refine zR_iconst (x := (1 : Int32)) dL_law_379 rfl ?_
                            refine zR_iadd dL_law_380 ?_
                            obtain ⟨g99, h⟩ := zchk_some h
                            refine zR_sld dL_law_381 g99 ?_
                            obtain ⟨q100, hq101, h⟩ := zbd_some h
                            refine zR_cV (rest := [.int q97.1]) (st1 := [.int q100.1, .int q97.1]) dL_law_382 (mX12_lamp F V0 V1 V2 V3 V4 q97.2 V6 V7 (w.2.2.2.2.2 ((x3 + (1 : Int32))).toNatClampNeg) _ hq101) zc_L_62 rfl (zE_at zd_88) ⟨_, _, rfl⟩ rfl (Nat.le_of_ble_eq_true rfl) (Nat.le_of_ble_eq_true rfl) rfl ?_
                            by_cases c102 : q97.1 = q100.1
                            · have h := zif_t h c102
                              refine zR_icmp_eq_t (tgt := 545) dL_law_385 (by decide) c102 ?_
                              exact wL_law_b545 F (fL_law_l18 F w.2.2.2.2.1 w.2.2.2.2.2 n) ih V0 V1 V2 V3 V4 q97.2 V6 q100.2 x3 _ h
                            · have h := zif_f h c102
                              refine zR_icmp_eq_f (tgt := 545) dL_law_385 (by decide) c102 ?_
                              refine zR_iconst (x := (0 : Int32)) dL_law_388 rfl ?_
                              have h := Option.some.inj h
                              subst h
                              exact zR_iret (x := (0 : Int32)) dL_law_389 rfl znar0
                          · have h := zif_f h c95
                            by_cases c103 : ((w.2.2.2.2.2 (x3).toNatClampNeg) &&& (31 : Int32)) = (11 : Int32)
                            · have h := zif_t h c103
                              refine zR_tabc (tgt := 390) dL_law_33 c103 rfl (by decide) ?_
                              refine zR_aload_n dL_law_390 1 rfl ?_
                              refine zR_aload_n dL_law_391 0 rfl ?_
                              refine zR_iload_n dL_law_392 3 rfl ?_
                              refine zR_iconst (x := (1 : Int32)) dL_law_393 rfl ?_
                              refine zR_iadd dL_law_394 ?_
                              obtain ⟨g104, h⟩ := zchk_some h
                              refine zR_sld dL_law_395 g104 ?_
                              obtain ⟨q105, hq106, h⟩ := zbd_some h
                              refine zR_cV (rest := []) (st1 := [.int q105]) dL_law_396 (mX11_value F V0 V1 V2 V3 V4 V5 V6 V7 (w.2.2.2.2.2 ((x3 + (1 : Int32))).toNatClampNeg) _ hq106) zc_L_63 rfl (zE_at zd_0) ⟨_, _, rfl⟩ rfl (Nat.le_of_ble_eq_true rfl) (Nat.le_of_ble_eq_true rfl) rfl ?_
                              refine zR_aload_n dL_law_399 2 rfl ?_
                              refine zR_aload_n dL_law_400 0 rfl ?_
                              refine zR_iload_n dL_law_401 3 rfl ?_
                              refine zR_iconst (x := (1 : Int32)) dL_law_402 rfl ?_
                              refine zR_iadd dL_law_403 ?_
                              obtain ⟨g107, h⟩ := zchk_some h
                              refine zR_sld dL_law_404 g107 ?_
                              obtain ⟨q108, hq109, h⟩ := zbd_some h
                              refine zR_cV (rest := [.int q105]) (st1 := [.int q108, .int q105]) dL_law_405 (mX12_value F V0 V1 V2 V3 V4 V5 V6 V7 (w.2.2.2.2.2 ((x3 + (1 : Int32))).toNatClampNeg) _ hq109) zc_L_66 rfl (zE_at zd_88) ⟨_, _, rfl⟩ rfl (Nat.le_of_ble_eq_true rfl) (Nat.le_of_ble_eq_true rfl) rfl ?_
                              by_cases c110 : q105 = q108
                              · have h := zif_t h c110
                                refine zR_icmp_eq_t (tgt := 545) dL_law_408 (by decide) c110 ?_
                                exact wL_law_b545 F (fL_law_l18 F w.2.2.2.2.1 w.2.2.2.2.2 n) ih V0 V1 V2 V3 V4 V5 V6 V7 x3 _ h
                              · have h := zif_f h c110
                                refine zR_icmp_eq_f (tgt := 545) dL_law_408 (by decide) c110 ?_
                                refine zR_iconst (x := (0 : Int32)) dL_law_411 rfl ?_
                                have h := Option.some.inj h
                                subst h
                                exact zR_iret (x := (0 : Int32)) dL_law_412 rfl znar0
                            · have h := zif_f h c103
                              by_cases c111 : ((w.2.2.2.2.2 (x3).toNatClampNeg) &&& (31 : Int32)) = (12 : Int32)
                              · have h := zif_t h c111
                                refine zR_tabc (tgt := 413) dL_law_33 c111 rfl (by decide) ?_
                                refine zR_aload_n dL_law_413 1 rfl ?_
                                refine zR_aload_n dL_law_414 0 rfl ?_
                                refine zR_iload_n dL_law_415 3 rfl ?_
                                refine zR_iconst (x := (1 : Int32)) dL_law_416 rfl ?_
                                refine zR_iadd dL_law_417 ?_
                                obtain ⟨g112, h⟩ := zchk_some h
                                refine zR_sld dL_law_418 g112 ?_
                                refine zR_aload_n dL_law_419 0 rfl ?_
                                refine zR_iload_n dL_law_420 3 rfl ?_
                                refine zR_iconst (x := (2 : Int32)) dL_law_421 rfl ?_
                                refine zR_iadd dL_law_422 ?_
                                obtain ⟨g113, h⟩ := zchk_some h
                                refine zR_sld dL_law_423 g113 ?_
                                obtain ⟨q114, hq115, h⟩ := zbd_some h
                                refine zR_cV (rest := []) (st1 := [.int q114]) dL_law_424 (mX11_mode F V0 V1 V2 V3 V4 V5 V6 V7 (w.2.2.2.2.2 ((x3 + (1 : Int32))).toNatClampNeg) (w.2.2.2.2.2 ((x3 + (2 : Int32))).toNatClampNeg) _ hq115) zc_L_67 rfl (zE_at zd_0) ⟨_, _, rfl⟩ rfl (Nat.le_of_ble_eq_true rfl) (Nat.le_of_ble_eq_true rfl) rfl ?_
                                refine zR_aload_n dL_law_427 2 rfl ?_
                                refine zR_aload_n dL_law_428 0 rfl ?_
                                refine zR_iload_n dL_law_429 3 rfl ?_
                                refine zR_iconst (x := (1 : Int32)) dL_law_430 rfl ?_
                                refine zR_iadd dL_law_431 ?_
                                obtain ⟨g116, h⟩ := zchk_some h
                                refine zR_sld dL_law_432 g116 ?_
                                refine zR_aload_n dL_law_433 0 rfl ?_
                                refine zR_iload_n dL_law_434 3 rfl ?_
                                refine zR_iconst (x := (2 : Int32)) dL_law_435 rfl ?_
                                refine zR_iadd dL_law_436 ?_
                                obtain ⟨g117, h⟩ := zchk_some h
                                refine zR_sld dL_law_437 g117 ?_
                                obtain ⟨q118, hq119, h⟩ := zbd_some h
                                refine zR_cV (rest := [.int q114]) (st1 := [.int q118, .int q114]) dL_law_438 (mX12_mode F V0 V1 V2 V3 V4 V5 V6 V7 (w.2.2.2.2.2 ((x3 + (1 : Int32))).toNatClampNeg) (w.2.2.2.2.2 ((x3 + (2 : Int32))).toNatClampNeg) _ hq119) zc_L_70 rfl (zE_at zd_88) ⟨_, _, rfl⟩ rfl (Nat.le_of_ble_eq_true rfl) (Nat.le_of_ble_eq_true rfl) rfl ?_
                                by_cases c120 : q114 = q118
                                · have h := zif_t h c120
                                  refine zR_icmp_eq_t (tgt := 545) dL_law_441 (by decide) c120 ?_
                                  exact wL_law_b545 F (fL_law_l18 F w.2.2.2.2.1 w.2.2.2.2.2 n) ih V0 V1 V2 V3 V4 V5 V6 V7 x3 _ h
                                · have h := zif_f h c120
                                  refine zR_icmp_eq_f (tgt := 545) dL_law_441 (by decide) c120 ?_
                                  refine zR_iconst (x := (0 : Int32)) dL_law_444 rfl ?_
                                  have h := Option.some.inj h
                                  subst h
                                  exact zR_iret (x := (0 : Int32)) dL_law_445 rfl znar0
                              · have h := zif_f h c111
                                by_cases c121 : ((w.2.2.2.2.2 (x3).toNatClampNeg) &&& (31 : Int32)) = (13 : Int32)
                                · have h := zif_t h c121
                                  refine zR_tabc (tgt := 446) dL_law_33 c121 rfl (by decide) ?_
                                  refine zR_aload_n dL_law_446 1 rfl ?_
                                  refine zR_aload_n dL_law_447 0 rfl ?_
                                  refine zR_iload_n dL_law_448 3 rfl ?_
                                  refine zR_iconst (x := (1 : Int32)) dL_law_449 rfl ?_
                                  refine zR_iadd dL_law_450 ?_
                                  obtain ⟨g122, h⟩ := zchk_some h
                                  refine zR_sld dL_law_451 g122 ?_
                                  refine zR_aload_n dL_law_452 0 rfl ?_
                                  refine zR_iload_n dL_law_453 3 rfl ?_
                                  refine zR_iconst (x := (2 : Int32)) dL_law_454 rfl ?_
                                  refine zR_iadd dL_law_455 ?_
                                  obtain ⟨g123, h⟩ := zchk_some h
                                  refine zR_sld dL_law_456 g123 ?_
                                  by_cases c124 : (w.2.2.2.2.2 ((x3 + (2 : Int32))).toNatClampNeg) = 0
                                  · have h := zif_t h c124
                                    refine zR_if_eq_t (tgt := 464) dL_law_457 (by decide) c124 ?_
                                    refine zR_iconst (x := (0 : Int32)) dL_law_464 rfl ?_
                                    exact wL_law_b465 F (fL_law_l18 F w.2.2.2.2.1 w.2.2.2.2.2 n) ih V0 V1 V2 V3 V4 V5 V6 V7 x3 (w.2.2.2.2.2 ((x3 + (1 : Int32))).toNatClampNeg) (0 : Int32) _ h
                                  · have h := zif_f h c124
                                    refine zR_if_eq_f (tgt := 464) dL_law_457 (by decide) c124 ?_
                                    refine zR_iconst (x := (1 : Int32)) dL_law_460 rfl ?_
                                    refine zR_goto (tgt := 465) dL_law_461 (by decide) ?_
                                    exact wL_law_b465 F (fL_law_l18 F w.2.2.2.2.1 w.2.2.2.2.2 n) ih V0 V1 V2 V3 V4 V5 V6 V7 x3 (w.2.2.2.2.2 ((x3 + (1 : Int32))).toNatClampNeg) (1 : Int32) _ h
                                · have h := zif_f h c121
                                  by_cases c125 : ((w.2.2.2.2.2 (x3).toNatClampNeg) &&& (31 : Int32)) = (14 : Int32)
                                  · have h := zif_t h c125
                                    refine zR_tabc (tgt := 495) dL_law_33 c125 rfl (by decide) ?_
                                    refine zR_aload_n dL_law_495 1 rfl ?_
                                    obtain ⟨q126, hq127, h⟩ := zbd_some h
                                    refine zR_cV (rest := []) (st1 := [.long q126.1]) dL_law_496 (mX11_again F V0 V1 V2 V3 V4 V5 V6 V7 _ hq127) zc_L_76 rfl (zE_at zd_0) ⟨_, _, rfl⟩ rfl (Nat.le_of_ble_eq_true rfl) (Nat.le_of_ble_eq_true rfl) rfl ?_
                                    refine zR_aload_n dL_law_499 2 rfl ?_
                                    obtain ⟨q128, hq129, h⟩ := zbd_some h
                                    refine zR_cV (rest := [.long q126.1]) (st1 := [.long q128, .long q126.1]) dL_law_500 (mX12_again F V0 V1 V2 V3 V4 V5 q126.2 V7 _ hq129) zc_L_79 rfl (zE_at zd_88) ⟨_, _, rfl⟩ rfl (Nat.le_of_ble_eq_true rfl) (Nat.le_of_ble_eq_true rfl) rfl ?_
                                    refine zR_lcmp dL_law_503 ?_
                                    by_cases c130 : (lg_cmp q126.1 q128) = 0
                                    · have h := zif_t h c130
                                      refine zR_if_eq_t (tgt := 545) dL_law_504 (by decide) c130 ?_
                                      exact wL_law_b545 F (fL_law_l18 F w.2.2.2.2.1 w.2.2.2.2.2 n) ih V0 V1 V2 V3 V4 V5 q126.2 V7 x3 _ h
                                    · have h := zif_f h c130
                                      refine zR_if_eq_f (tgt := 545) dL_law_504 (by decide) c130 ?_
                                      refine zR_iconst (x := (0 : Int32)) dL_law_507 rfl ?_
                                      have h := Option.some.inj h
                                      subst h
                                      exact zR_iret (x := (0 : Int32)) dL_law_508 rfl znar0
                                  · have h := zif_f h c125
                                    by_cases c131 : ((w.2.2.2.2.2 (x3).toNatClampNeg) &&& (31 : Int32)) = (15 : Int32)
                                    · have h := zif_t h c131
                                      refine zR_tabc (tgt := 509) dL_law_33 c131 rfl (by decide) ?_
                                      refine zR_aload_n dL_law_509 1 rfl ?_
                                      obtain ⟨q132, hq133, h⟩ := zbd_some h
                                      refine zR_cV (rest := []) (st1 := [.int q132]) dL_law_510 (mX11_ring F V0 V1 V2 V3 V4 V5 V6 V7 _ hq133) zc_L_80 rfl (zE_at zd_0) ⟨_, _, rfl⟩ rfl (Nat.le_of_ble_eq_true rfl) (Nat.le_of_ble_eq_true rfl) rfl ?_
                                      refine zR_aload_n dL_law_513 2 rfl ?_
                                      obtain ⟨q134, hq135, h⟩ := zbd_some h
                                      refine zR_cV (rest := [.int q132]) (st1 := [.int q134.1, .int q132]) dL_law_514 (mX12_ring F V0 V1 V2 V3 V4 V5 V6 V7 _ hq135) zc_L_83 rfl (zE_at zd_88) ⟨_, _, rfl⟩ rfl (Nat.le_of_ble_eq_true rfl) (Nat.le_of_ble_eq_true rfl) rfl ?_
                                      by_cases c136 : q132 = q134.1
                                      · have h := zif_t h c136
                                        refine zR_icmp_eq_t (tgt := 545) dL_law_517 (by decide) c136 ?_
                                        exact wL_law_b545 F (fL_law_l18 F w.2.2.2.2.1 w.2.2.2.2.2 n) ih V0 V1 V2 V3 V4 V5 V6 q134.2 x3 _ h
                                      · have h := zif_f h c136
                                        refine zR_icmp_eq_f (tgt := 545) dL_law_517 (by decide) c136 ?_
                                        refine zR_iconst (x := (0 : Int32)) dL_law_520 rfl ?_
                                        have h := Option.some.inj h
                                        subst h
                                        exact zR_iret (x := (0 : Int32)) dL_law_521 rfl znar0
                                    · have h := zif_f h c131
                                      by_cases c137 : ((w.2.2.2.2.2 (x3).toNatClampNeg) &&& (31 : Int32)) = (16 : Int32)
                                      · have h := zif_t h c137
                                        refine zR_tabc (tgt := 522) dL_law_33 c137 rfl (by decide) ?_
                                        refine zR_aload_n dL_law_522 1 rfl ?_
                                        refine zR_aload_n dL_law_523 0 rfl ?_
                                        refine zR_iload_n dL_law_524 3 rfl ?_
                                        refine zR_iconst (x := (1 : Int32)) dL_law_525 rfl ?_
                                        refine zR_iadd dL_law_526 ?_
                                        obtain ⟨g138, h⟩ := zchk_some h
                                        refine zR_sld dL_law_527 g138 ?_
                                        obtain ⟨q139, hq140, h⟩ := zbd_some h
                                        refine zR_cV (rest := []) (st1 := [.int q139]) dL_law_528 (mX11_count F V0 V1 V2 V3 V4 V5 V6 V7 (w.2.2.2.2.2 ((x3 + (1 : Int32))).toNatClampNeg) _ hq140) zc_L_84 rfl (zE_at zd_0) ⟨_, _, rfl⟩ rfl (Nat.le_of_ble_eq_true rfl) (Nat.le_of_ble_eq_true rfl) rfl ?_
                                        refine zR_aload_n dL_law_531 2 rfl ?_
                                        refine zR_aload_n dL_law_532 0 rfl ?_
                                        refine zR_iload_n dL_law_533 3 rfl ?_
                                        refine zR_iconst (x := (1 : Int32)) dL_law_534 rfl ?_
                                        refine zR_iadd dL_law_535 ?_
                                        obtain ⟨g141, h⟩ := zchk_some h
                                        refine zR_sld dL_law_536 g141 ?_
                                        obtain ⟨q142, hq143, h⟩ := zbd_some h
                                        refine zR_cV (rest := [.int q139]) (st1 := [.int q142, .int q139]) dL_law_537 (mX12_count F V0 V1 V2 V3 V4 V5 V6 V7 (w.2.2.2.2.2 ((x3 + (1 : Int32))).toNatClampNeg) _ hq143) zc_L_87 rfl (zE_at zd_88) ⟨_, _, rfl⟩ rfl (Nat.le_of_ble_eq_true rfl) (Nat.le_of_ble_eq_true rfl) rfl ?_
                                        by_cases c144 : q139 = q142
                                        · have h := zif_t h c144
                                          refine zR_icmp_eq_t (tgt := 545) dL_law_540 (by decide) c144 ?_
                                          exact wL_law_b545 F (fL_law_l18 F w.2.2.2.2.1 w.2.2.2.2.2 n) ih V0 V1 V2 V3 V4 V5 V6 V7 x3 _ h
                                        · have h := zif_f h c144
                                          refine zR_icmp_eq_f (tgt := 545) dL_law_540 (by decide) c144 ?_
                                          refine zR_iconst (x := (0 : Int32)) dL_law_543 rfl ?_
                                          have h := Option.some.inj h
                                          subst h
                                          exact zR_iret (x := (0 : Int32)) dL_law_544 rfl znar0
                                      · have h := zif_f h c137
                                        refine zR_tabO (tgt := 545) dL_law_33 (by have u0 := zne c11 (n := 0) rfl; have u1 := zne c27 (n := 1) rfl; have u2 := zne c35 (n := 2) rfl; have u3 := zne c41 (n := 3) rfl; have u4 := zne c47 (n := 4) rfl; have u5 := zne c53 (n := 5) rfl; have u6 := zne c61 (n := 6) rfl; have u7 := zne c69 (n := 7) rfl; have u8 := zne c75 (n := 8) rfl; have u9 := zne c85 (n := 9) rfl; have u10 := zne c95 (n := 10) rfl; have u11 := zne c103 (n := 11) rfl; have u12 := zne c111 (n := 12) rfl; have u13 := zne c121 (n := 13) rfl; have u14 := zne c125 (n := 14) rfl; have u15 := zne c131 (n := 15) rfl; have u16 := zne c137 (n := 16) rfl; omega) (by decide) ?_
                                        exact wL_law_b545 F (fL_law_l18 F w.2.2.2.2.1 w.2.2.2.2.2 n) ih V0 V1 V2 V3 V4 V5 V6 V7 x3 _ h
