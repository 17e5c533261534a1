set_option maxRecDepth 100000 in
set_option maxHeartbeats 4000000 in
theorem iX10_init_2 {w : zW} (pre : zS) (hp : pre.length = 2) : zMet w kX10_init 4 4 3033 [.ref (w.1 + 2)] (pre ++ [.inr (10, [.null, .null, .null, .null, .int 0, .int 0, .int 0])]) none (pre ++ [.inr (10, [.ref (w.1 + 3), .ref (w.1 + 4), .ref (w.1 + 5), .ref (w.1 + 6), .int (0 : Int32), .int (0 : Int32), .int (-1 : Int32)]), .inl (2, 27, .inr (.inl zWordsF)), .inl (1, 1002, .inl fun _ => 0), .inl (0, 1002, .inl fun _ => 0), .inl (2, 1002, .inr (.inl fun _ => 0))]) := by
  refine zMet_of (by decide) (Nat.le_of_ble_eq_true rfl) (Nat.le_refl _) fun _ => ?_
  show zR w kX10_init 4 4 3033 none (pre ++ [.inr (10, [.ref (w.1 + 3), .ref (w.1 + 4), .ref (w.1 + 5), .ref (w.1 + 6), .int (0 : Int32), .int (0 : Int32), .int (-1 : Int32)]), .inl (2, 27, .inr (.inl zWordsF)), .inl (1, 1002, .inl fun _ => 0), .inl (0, 1002, .inl fun _ => 0), .inl (2, 1002, .inr (.inl fun _ => 0))]) 0 [(0, .ref (w.1 + 2))] [] (pre ++ .inr (10, [.null, .null, .null, .null, .int 0, .int 0, .int 0]) :: [])
  refine zR_aload_n dX10_init_0 0 rfl ?_
  refine zR_objInit dX10_init_1 zo_X10_3 zo_1 zo_2 (Nat.le_of_ble_eq_true rfl) (Nat.le_of_ble_eq_true rfl) ?_
  refine zR_aload_n dX10_init_4 0 rfl ?_
  refine zR_bipush (x := (27 : Int32)) dX10_init_5 rfl ?_
  refine zK_newJ (N := 27) (q := 3) hp dX10_init_7 zar_long (by decide) rfl (Nat.le_of_ble_eq_true rfl) (Nat.le_of_ble_eq_true rfl) (Nat.le_of_ble_eq_true rfl) rfl ?_
  refine zK_putF hp dX10_init_9 zf_X10_9 zt_X10_0 rfl ⟨_, _, rfl⟩ (Nat.le_of_ble_eq_true rfl) rfl rfl ?_
  refine zR_aload_n dX10_init_12 0 rfl ?_
  refine zR_sipush (x := (1002 : Int32)) dX10_init_13 rfl ?_
  refine zK_newB (N := 1002) (q := 4) hp dX10_init_16 zar_byte (by decide) rfl (Nat.le_of_ble_eq_true rfl) (Nat.le_of_ble_eq_true rfl) (Nat.le_of_ble_eq_true rfl) rfl ?_
  refine zK_putF hp dX10_init_18 zf_X10_15 zt_X10_1 rfl ⟨_, _, rfl⟩ (Nat.le_of_ble_eq_true rfl) rfl rfl ?_
  refine zR_aload_n dX10_init_21 0 rfl ?_
  refine zR_sipush (x := (1002 : Int32)) dX10_init_22 rfl ?_
  refine zK_newI (N := 1002) (q := 5) hp dX10_init_25 zar_int (by decide) rfl (Nat.le_of_ble_eq_true rfl) (Nat.le_of_ble_eq_true rfl) (Nat.le_of_ble_eq_true rfl) rfl ?_
  refine zK_putF hp dX10_init_27 zf_X10_19 zt_X10_2 rfl ⟨_, _, rfl⟩ (Nat.le_of_ble_eq_true rfl) rfl rfl ?_
  refine zR_aload_n dX10_init_30 0 rfl ?_
  refine zR_sipush (x := (1002 : Int32)) dX10_init_31 rfl ?_
  refine zK_newJ (N := 1002) (q := 6) hp dX10_init_34 zar_long (by decide) rfl (Nat.le_of_ble_eq_true rfl) (Nat.le_of_ble_eq_true rfl) (Nat.le_of_ble_eq_true rfl) rfl ?_
  refine zK_putF hp dX10_init_36 zf_X10_23 zt_X10_3 rfl ⟨_, _, rfl⟩ (Nat.le_of_ble_eq_true rfl) rfl rfl ?_
  refine zR_aload_n dX10_init_39 0 rfl ?_
  refine zR_iconst (x := (0 : Int32)) dX10_init_40 rfl ?_
  refine zK_put hp dX10_init_41 zf_X10_26 zt_X10_4 (Nat.le_of_ble_eq_true rfl) rfl rfl ?_
  refine zR_aload_n dX10_init_44 0 rfl ?_
  refine zR_iconst (x := (0 : Int32)) dX10_init_45 rfl ?_
  refine zK_put hp dX10_init_46 zf_X10_30 zt_X10_5 (Nat.le_of_ble_eq_true rfl) rfl rfl ?_
  refine zR_aload_n dX10_init_49 0 rfl ?_
  refine zR_iconst (x := (-1 : Int32)) dX10_init_50 (by decide) ?_
  refine zK_put hp dX10_init_51 zf_X10_33 zt_X10_6 (Nat.le_of_ble_eq_true rfl) rfl rfl ?_
  refine zR_iconst (x := (0 : Int32)) dX10_init_54 rfl ?_
  refine zR_istore_n (lv' := [(0, .ref (w.1 + 2)), (1, .int (0 : Int32))]) dX10_init_55 (Nat.le_of_ble_eq_true rfl) rfl ?_
  refine zR_lconst (x := (0 : Int64)) dX10_init_56 rfl ?_
  refine zR_lstore_n (lv' := [(0, .ref (w.1 + 2)), (1, .int (0 : Int32)), (2, .long (0 : Int64))]) dX10_init_57 (Nat.le_of_ble_eq_true rfl) rfl ?_
  refine zR_iconst (x := (0 : Int32)) dX10_init_58 rfl ?_
  refine zR_istore (lv' := [(0, .ref (w.1 + 2)), (1, .int (0 : Int32)), (2, .long (0 : Int64)), (4, .int (0 : Int32))]) dX10_init_59 (Nat.le_of_ble_eq_true rfl) rfl ?_
  exact zX10_loop hp rfl (Nat.le_refl 4) 135 0 _ _ rfl
set_option maxRecDepth 100000 in
set_option maxHeartbeats 4000000 in
theorem iX2_init_7 {w : zW} (pre : zS) (hp : pre.length = 7) : zMet w kX2_init 1 1 27 [.ref (w.1 + 7), .ref (w.1 + 2)] (pre ++ [.inr (2, [.null, .int 0, .null])]) none (pre ++ [.inr (2, [.ref (w.1 + 2), .int (0 : Int32), .ref (w.1 + 8)]), .inl (0, 27, .inl fun _ => 0)]) := by
  refine zMet_of (by decide) (Nat.le_of_ble_eq_true rfl) (Nat.le_refl _) fun _ => ?_
  show zR w kX2_init 1 1 27 none (pre ++ [.inr (2, [.ref (w.1 + 2), .int (0 : Int32), .ref (w.1 + 8)]), .inl (0, 27, .inl fun _ => 0)]) 0 [(0, .ref (w.1 + 7)), (1, .ref (w.1 + 2))] [] (pre ++ .inr (2, [.null, .int 0, .null]) :: [])
  refine zR_aload_n dX2_init_0 0 rfl ?_
  refine zR_objInit dX2_init_1 zo_X2_3 zo_1 zo_2 (Nat.le_of_ble_eq_true rfl) (Nat.le_of_ble_eq_true rfl) ?_
  refine zR_aload_n dX2_init_4 0 rfl ?_
  refine zR_iconst (x := (0 : Int32)) dX2_init_5 rfl ?_
  refine zK_put hp dX2_init_6 zf_X2_9 zt_X2_1 (Nat.le_of_ble_eq_true rfl) rfl rfl ?_
  refine zR_aload_n dX2_init_9 0 rfl ?_
  refine zR_bipush (x := (27 : Int32)) dX2_init_10 rfl ?_
  refine zK_newI (N := 27) (q := 8) hp dX2_init_12 zar_int (by decide) rfl (Nat.le_of_ble_eq_true rfl) (Nat.le_of_ble_eq_true rfl) (Nat.le_of_ble_eq_true rfl) rfl ?_
  refine zK_putF hp dX2_init_14 zf_X2_15 zt_X2_2 rfl ⟨_, _, rfl⟩ (Nat.le_of_ble_eq_true rfl) rfl rfl ?_
  refine zR_aload_n dX2_init_17 0 rfl ?_
  refine zR_aload_n dX2_init_18 1 rfl ?_
  refine zK_putF hp dX2_init_19 zf_X2_19 zt_X2_0 rfl ⟨_, _, rfl⟩ (Nat.le_of_ble_eq_true rfl) rfl rfl ?_
  exact zR_ret dX2_init_22 rfl
set_option maxRecDepth 100000 in
set_option maxHeartbeats 4000000 in
theorem iX5_init_9 {w : zW} (pre : zS) (hp : pre.length = 9) : zMet w kX5_init 1 5 267 [.ref (w.1 + 9), .ref (w.1 + 2)] (pre ++ [.inr (5, [.null, .null, .null, .null, .int 0, .null, .null])]) none (pre ++ [.inr (5, [.ref (w.1 + 2), .ref (w.1 + 10), .ref (w.1 + 11), .ref (w.1 + 12), .int (0 : Int32), .ref (w.1 + 13), .ref (w.1 + 14)]), .inl (2, 76, .inr (.inl fun _ => 0)), .inl (0, 76, .inl fun _ => 0), .inl (0, 76, .inl fun _ => 0), .inl (0, 27, .inl fun _ => 0), .inl (2, 12, .inr (.inl fun _ => 0))]) := by
  refine zMet_of (by decide) (Nat.le_of_ble_eq_true rfl) (Nat.le_refl _) fun _ => ?_
  show zR w kX5_init 1 5 267 none (pre ++ [.inr (5, [.ref (w.1 + 2), .ref (w.1 + 10), .ref (w.1 + 11), .ref (w.1 + 12), .int (0 : Int32), .ref (w.1 + 13), .ref (w.1 + 14)]), .inl (2, 76, .inr (.inl fun _ => 0)), .inl (0, 76, .inl fun _ => 0), .inl (0, 76, .inl fun _ => 0), .inl (0, 27, .inl fun _ => 0), .inl (2, 12, .inr (.inl fun _ => 0))]) 0 [(0, .ref (w.1 + 9)), (1, .ref (w.1 + 2))] [] (pre ++ .inr (5, [.null, .null, .null, .null, .int 0, .null, .null]) :: [])
  refine zR_aload_n dX5_init_0 0 rfl ?_
  refine zR_objInit dX5_init_1 zo_X5_3 zo_1 zo_2 (Nat.le_of_ble_eq_true rfl) (Nat.le_of_ble_eq_true rfl) ?_
  refine zR_aload_n dX5_init_4 0 rfl ?_
  refine zR_bipush (x := (76 : Int32)) dX5_init_5 rfl ?_
  refine zK_newJ (N := 76) (q := 10) hp dX5_init_7 zar_long (by decide) rfl (Nat.le_of_ble_eq_true rfl) (Nat.le_of_ble_eq_true rfl) (Nat.le_of_ble_eq_true rfl) rfl ?_
  refine zK_putF hp dX5_init_9 zf_X5_9 zt_X5_1 rfl ⟨_, _, rfl⟩ (Nat.le_of_ble_eq_true rfl) rfl rfl ?_
  refine zR_aload_n dX5_init_12 0 rfl ?_
  refine zR_bipush (x := (76 : Int32)) dX5_init_13 rfl ?_
  refine zK_newI (N := 76) (q := 11) hp dX5_init_15 zar_int (by decide) rfl (Nat.le_of_ble_eq_true rfl) (Nat.le_of_ble_eq_true rfl) (Nat.le_of_ble_eq_true rfl) rfl ?_
  refine zK_putF hp dX5_init_17 zf_X5_15 zt_X5_2 rfl ⟨_, _, rfl⟩ (Nat.le_of_ble_eq_true rfl) rfl rfl ?_
  refine zR_aload_n dX5_init_20 0 rfl ?_
  refine zR_bipush (x := (76 : Int32)) dX5_init_21 rfl ?_
  refine zK_newI (N := 76) (q := 12) hp dX5_init_23 zar_int (by decide) rfl (Nat.le_of_ble_eq_true rfl) (Nat.le_of_ble_eq_true rfl) (Nat.le_of_ble_eq_true rfl) rfl ?_
  refine zK_putF hp dX5_init_25 zf_X5_19 zt_X5_3 rfl ⟨_, _, rfl⟩ (Nat.le_of_ble_eq_true rfl) rfl rfl ?_
  refine zR_aload_n dX5_init_28 0 rfl ?_
  refine zR_iconst (x := (0 : Int32)) dX5_init_29 rfl ?_
  refine zK_put hp dX5_init_30 zf_X5_22 zt_X5_4 (Nat.le_of_ble_eq_true rfl) rfl rfl ?_
  refine zR_aload_n dX5_init_33 0 rfl ?_
  refine zR_bipush (x := (27 : Int32)) dX5_init_34 rfl ?_
  refine zK_newI (N := 27) (q := 13) hp dX5_init_36 zar_int (by decide) rfl (Nat.le_of_ble_eq_true rfl) (Nat.le_of_ble_eq_true rfl) (Nat.le_of_ble_eq_true rfl) rfl ?_
  refine zK_putF hp dX5_init_38 zf_X5_26 zt_X5_5 rfl ⟨_, _, rfl⟩ (Nat.le_of_ble_eq_true rfl) rfl rfl ?_
  refine zR_aload_n dX5_init_41 0 rfl ?_
  refine zR_bipush (x := (12 : Int32)) dX5_init_42 rfl ?_
  refine zK_newJ (N := 12) (q := 14) hp dX5_init_44 zar_long (by decide) rfl (Nat.le_of_ble_eq_true rfl) (Nat.le_of_ble_eq_true rfl) (Nat.le_of_ble_eq_true rfl) rfl ?_
  refine zK_putF hp dX5_init_46 zf_X5_29 zt_X5_6 rfl ⟨_, _, rfl⟩ (Nat.le_of_ble_eq_true rfl) rfl rfl ?_
  refine zR_aload_n dX5_init_49 0 rfl ?_
  refine zR_aload_n dX5_init_50 1 rfl ?_
  refine zK_putF hp dX5_init_51 zf_X5_32 zt_X5_0 rfl ⟨_, _, rfl⟩ (Nat.le_of_ble_eq_true rfl) rfl rfl ?_
  exact zR_ret dX5_init_54 rfl
set_option maxRecDepth 100000 in
set_option maxHeartbeats 4000000 in
theorem iX6_init_28 {w : zW} (pre : zS) (hp : pre.length = 28) : zMet w kX6_init 1 9 2437 [.ref (w.1 + 28)] (pre ++ [.inr (6, [.null, .null, .int 0, .int 0, .null, .null, .null, .null, .null, .null, .null, .int 0])]) none (pre ++ [.inr (6, [.ref (w.1 + 29), .ref (w.1 + 30), .int (0 : Int32), .int (0 : Int32), .ref (w.1 + 31), .ref (w.1 + 32), .ref (w.1 + 33), .ref (w.1 + 34), .ref (w.1 + 35), .ref (w.1 + 36), .ref (w.1 + 37), .int (-1 : Int32)]), .inl (1, 1000, .inl fun _ => 0), .inl (0, 1000, .inl fun _ => 0), .inl (0, 13, .inl fun _ => 0), .inl (0, 80, .inl fun _ => 0), .inl (0, 80, .inl fun _ => 0), .inl (0, 80, .inl fun _ => 0), .inl (3, 80, .inl fun _ => 0), .inl (3, 80, .inl fun _ => 0), .inl (0, 24, .inl fun _ => 0)]) := by
  refine zMet_of (by decide) (Nat.le_of_ble_eq_true rfl) (Nat.le_refl _) fun _ => ?_
  show zR w kX6_init 1 9 2437 none (pre ++ [.inr (6, [.ref (w.1 + 29), .ref (w.1 + 30), .int (0 : Int32), .int (0 : Int32), .ref (w.1 + 31), .ref (w.1 + 32), .ref (w.1 + 33), .ref (w.1 + 34), .ref (w.1 + 35), .ref (w.1 + 36), .ref (w.1 + 37), .int (-1 : Int32)]), .inl (1, 1000, .inl fun _ => 0), .inl (0, 1000, .inl fun _ => 0), .inl (0, 13, .inl fun _ => 0), .inl (0, 80, .inl fun _ => 0), .inl (0, 80, .inl fun _ => 0), .inl (0, 80, .inl fun _ => 0), .inl (3, 80, .inl fun _ => 0), .inl (3, 80, .inl fun _ => 0), .inl (0, 24, .inl fun _ => 0)]) 0 [(0, .ref (w.1 + 28))] [] (pre ++ .inr (6, [.null, .null, .int 0, .int 0, .null, .null, .null, .null, .null, .null, .null, .int 0]) :: [])
  refine zR_aload_n dX6_init_0 0 rfl ?_
  refine zR_objInit dX6_init_1 zo_X6_3 zo_1 zo_2 (Nat.le_of_ble_eq_true rfl) (Nat.le_of_ble_eq_true rfl) ?_
  refine zR_aload_n dX6_init_4 0 rfl ?_
  refine zR_sipush (x := (1000 : Int32)) dX6_init_5 rfl ?_
  refine zK_newB (N := 1000) (q := 29) hp dX6_init_8 zar_byte (by decide) rfl (Nat.le_of_ble_eq_true rfl) (Nat.le_of_ble_eq_true rfl) (Nat.le_of_ble_eq_true rfl) rfl ?_
  refine zK_putF hp dX6_init_10 zf_X6_9 zt_X6_0 rfl ⟨_, _, rfl⟩ (Nat.le_of_ble_eq_true rfl) rfl rfl ?_
  refine zR_aload_n dX6_init_13 0 rfl ?_
  refine zR_sipush (x := (1000 : Int32)) dX6_init_14 rfl ?_
  refine zK_newI (N := 1000) (q := 30) hp dX6_init_17 zar_int (by decide) rfl (Nat.le_of_ble_eq_true rfl) (Nat.le_of_ble_eq_true rfl) (Nat.le_of_ble_eq_true rfl) rfl ?_
  refine zK_putF hp dX6_init_19 zf_X6_15 zt_X6_1 rfl ⟨_, _, rfl⟩ (Nat.le_of_ble_eq_true rfl) rfl rfl ?_
  refine zR_aload_n dX6_init_22 0 rfl ?_
  refine zR_iconst (x := (0 : Int32)) dX6_init_23 rfl ?_
  refine zK_put hp dX6_init_24 zf_X6_19 zt_X6_2 (Nat.le_of_ble_eq_true rfl) rfl rfl ?_
  refine zR_aload_n dX6_init_27 0 rfl ?_
  refine zR_iconst (x := (0 : Int32)) dX6_init_28 rfl ?_
  refine zK_put hp dX6_init_29 zf_X6_23 zt_X6_3 (Nat.le_of_ble_eq_true rfl) rfl rfl ?_
  refine zR_aload_n dX6_init_32 0 rfl ?_
  refine zR_bipush (x := (13 : Int32)) dX6_init_33 rfl ?_
  refine zK_newI (N := 13) (q := 31) hp dX6_init_35 zar_int (by decide) rfl (Nat.le_of_ble_eq_true rfl) (Nat.le_of_ble_eq_true rfl) (Nat.le_of_ble_eq_true rfl) rfl ?_
  refine zK_putF hp dX6_init_37 zf_X6_26 zt_X6_4 rfl ⟨_, _, rfl⟩ (Nat.le_of_ble_eq_true rfl) rfl rfl ?_
  refine zR_aload_n dX6_init_40 0 rfl ?_
  refine zR_bipush (x := (80 : Int32)) dX6_init_41 rfl ?_
  refine zK_newI (N := 80) (q := 32) hp dX6_init_43 zar_int (by decide) rfl (Nat.le_of_ble_eq_true rfl) (Nat.le_of_ble_eq_true rfl) (Nat.le_of_ble_eq_true rfl) rfl ?_
  refine zK_putF hp dX6_init_45 zf_X6_29 zt_X6_5 rfl ⟨_, _, rfl⟩ (Nat.le_of_ble_eq_true rfl) rfl rfl ?_
  refine zR_aload_n dX6_init_48 0 rfl ?_
  refine zR_bipush (x := (80 : Int32)) dX6_init_49 rfl ?_
  refine zK_newI (N := 80) (q := 33) hp dX6_init_51 zar_int (by decide) rfl (Nat.le_of_ble_eq_true rfl) (Nat.le_of_ble_eq_true rfl) (Nat.le_of_ble_eq_true rfl) rfl ?_
  refine zK_putF hp dX6_init_53 zf_X6_32 zt_X6_6 rfl ⟨_, _, rfl⟩ (Nat.le_of_ble_eq_true rfl) rfl rfl ?_
  refine zR_aload_n dX6_init_56 0 rfl ?_
  refine zR_bipush (x := (80 : Int32)) dX6_init_57 rfl ?_
  refine zK_newI (N := 80) (q := 34) hp dX6_init_59 zar_int (by decide) rfl (Nat.le_of_ble_eq_true rfl) (Nat.le_of_ble_eq_true rfl) (Nat.le_of_ble_eq_true rfl) rfl ?_
  refine zK_putF hp dX6_init_61 zf_X6_35 zt_X6_7 rfl ⟨_, _, rfl⟩ (Nat.le_of_ble_eq_true rfl) rfl rfl ?_
  refine zR_aload_n dX6_init_64 0 rfl ?_
  refine zR_bipush (x := (80 : Int32)) dX6_init_65 rfl ?_
  refine zK_newZ (N := 80) (q := 35) hp dX6_init_67 zar_boolean (by decide) rfl (Nat.le_of_ble_eq_true rfl) (Nat.le_of_ble_eq_true rfl) (Nat.le_of_ble_eq_true rfl) rfl ?_
  refine zK_putF hp dX6_init_69 zf_X6_38 zt_X6_8 rfl ⟨_, _, rfl⟩ (Nat.le_of_ble_eq_true rfl) rfl rfl ?_
  refine zR_aload_n dX6_init_72 0 rfl ?_
  refine zR_bipush (x := (80 : Int32)) dX6_init_73 rfl ?_
  refine zK_newZ (N := 80) (q := 36) hp dX6_init_75 zar_boolean (by decide) rfl (Nat.le_of_ble_eq_true rfl) (Nat.le_of_ble_eq_true rfl) (Nat.le_of_ble_eq_true rfl) rfl ?_
  refine zK_putF hp dX6_init_77 zf_X6_42 zt_X6_9 rfl ⟨_, _, rfl⟩ (Nat.le_of_ble_eq_true rfl) rfl rfl ?_
  refine zR_aload_n dX6_init_80 0 rfl ?_
  refine zR_bipush (x := (24 : Int32)) dX6_init_81 rfl ?_
  refine zK_newI (N := 24) (q := 37) hp dX6_init_83 zar_int (by decide) rfl (Nat.le_of_ble_eq_true rfl) (Nat.le_of_ble_eq_true rfl) (Nat.le_of_ble_eq_true rfl) rfl ?_
  refine zK_putF hp dX6_init_85 zf_X6_45 zt_X6_10 rfl ⟨_, _, rfl⟩ (Nat.le_of_ble_eq_true rfl) rfl rfl ?_
  refine zR_aload_n dX6_init_88 0 rfl ?_
  refine zR_iconst (x := (-1 : Int32)) dX6_init_89 (by decide) ?_
  refine zK_put hp dX6_init_90 zf_X6_48 zt_X6_11 (Nat.le_of_ble_eq_true rfl) rfl rfl ?_
  exact zR_ret dX6_init_93 rfl
set_option maxRecDepth 100000 in
set_option maxHeartbeats 4000000 in
theorem iX9_init_15 {w : zW} (pre : zS) (hp : pre.length = 15) : zMet w kX9_init 2 22 2648 [.ref (w.1 + 15)] (pre ++ [.inr (9, [.null, .null, .null, .null, .null, .null, .null, .null, .null, .null, .null, .null, .null])]) none (pre ++ [.inr (9, [.ref (w.1 + 16), .ref (w.1 + 17), .ref (w.1 + 18), .ref (w.1 + 19), .ref (w.1 + 20), .ref (w.1 + 21), .ref (w.1 + 22), .ref (w.1 + 23), .ref (w.1 + 24), .ref (w.1 + 25), .ref (w.1 + 26), .ref (w.1 + 27), .ref (w.1 + 28)]), .inl (0, 27, .inl fun _ => 0), .inl (0, 16, .inl fun _ => 0), .inl (0, 8, .inl fun _ => 0), .inl (0, 8, .inl fun _ => 0), .inl (0, 16, .inl fun _ => 0), .inl (0, 24, .inl fun _ => 0), .inl (0, 24, .inl fun _ => 0), .inl (0, 24, .inl fun _ => 0), .inl (0, 16, .inl fun _ => 0), .inl (0, 12, .inl fun _ => 0), .inl (0, 12, .inl fun _ => 0), .inl (0, 12, .inl fun _ => 0), .inr (6, [.ref (w.1 + 29), .ref (w.1 + 30), .int (0 : Int32), .int (0 : Int32), .ref (w.1 + 31), .ref (w.1 + 32), .ref (w.1 + 33), .ref (w.1 + 34), .ref (w.1 + 35), .ref (w.1 + 36), .ref (w.1 + 37), .int (-1 : Int32)]), .inl (1, 1000, .inl fun _ => 0), .inl (0, 1000, .inl fun _ => 0), .inl (0, 13, .inl fun _ => 0), .inl (0, 80, .inl fun _ => 0), .inl (0, 80, .inl fun _ => 0), .inl (0, 80, .inl fun _ => 0), .inl (3, 80, .inl fun _ => 0), .inl (3, 80, .inl fun _ => 0), .inl (0, 24, .inl fun _ => 0)]) := by
  refine zMet_of (by decide) (Nat.le_of_ble_eq_true rfl) (Nat.le_refl _) fun _ => ?_
  show zR w kX9_init 2 22 2648 none (pre ++ [.inr (9, [.ref (w.1 + 16), .ref (w.1 + 17), .ref (w.1 + 18), .ref (w.1 + 19), .ref (w.1 + 20), .ref (w.1 + 21), .ref (w.1 + 22), .ref (w.1 + 23), .ref (w.1 + 24), .ref (w.1 + 25), .ref (w.1 + 26), .ref (w.1 + 27), .ref (w.1 + 28)]), .inl (0, 27, .inl fun _ => 0), .inl (0, 16, .inl fun _ => 0), .inl (0, 8, .inl fun _ => 0), .inl (0, 8, .inl fun _ => 0), .inl (0, 16, .inl fun _ => 0), .inl (0, 24, .inl fun _ => 0), .inl (0, 24, .inl fun _ => 0), .inl (0, 24, .inl fun _ => 0), .inl (0, 16, .inl fun _ => 0), .inl (0, 12, .inl fun _ => 0), .inl (0, 12, .inl fun _ => 0), .inl (0, 12, .inl fun _ => 0), .inr (6, [.ref (w.1 + 29), .ref (w.1 + 30), .int (0 : Int32), .int (0 : Int32), .ref (w.1 + 31), .ref (w.1 + 32), .ref (w.1 + 33), .ref (w.1 + 34), .ref (w.1 + 35), .ref (w.1 + 36), .ref (w.1 + 37), .int (-1 : Int32)]), .inl (1, 1000, .inl fun _ => 0), .inl (0, 1000, .inl fun _ => 0), .inl (0, 13, .inl fun _ => 0), .inl (0, 80, .inl fun _ => 0), .inl (0, 80, .inl fun _ => 0), .inl (0, 80, .inl fun _ => 0), .inl (3, 80, .inl fun _ => 0), .inl (3, 80, .inl fun _ => 0), .inl (0, 24, .inl fun _ => 0)]) 0 [(0, .ref (w.1 + 15))] [] (pre ++ .inr (9, [.null, .null, .null, .null, .null, .null, .null, .null, .null, .null, .null, .null, .null]) :: [])
  refine zR_aload_n dX9_init_0 0 rfl ?_
  refine zR_objInit dX9_init_1 zo_X9_3 zo_1 zo_2 (Nat.le_of_ble_eq_true rfl) (Nat.le_of_ble_eq_true rfl) ?_
  refine zR_aload_n dX9_init_4 0 rfl ?_
  refine zR_bipush (x := (27 : Int32)) dX9_init_5 rfl ?_
  refine zK_newI (N := 27) (q := 16) hp dX9_init_7 zar_int (by decide) rfl (Nat.le_of_ble_eq_true rfl) (Nat.le_of_ble_eq_true rfl) (Nat.le_of_ble_eq_true rfl) rfl ?_
  refine zK_putF hp dX9_init_9 zf_X9_9 zt_X9_0 rfl ⟨_, _, rfl⟩ (Nat.le_of_ble_eq_true rfl) rfl rfl ?_
  refine zR_aload_n dX9_init_12 0 rfl ?_
  refine zR_bipush (x := (16 : Int32)) dX9_init_13 rfl ?_
  refine zK_newI (N := 16) (q := 17) hp dX9_init_15 zar_int (by decide) rfl (Nat.le_of_ble_eq_true rfl) (Nat.le_of_ble_eq_true rfl) (Nat.le_of_ble_eq_true rfl) rfl ?_
  refine zK_putF hp dX9_init_17 zf_X9_15 zt_X9_1 rfl ⟨_, _, rfl⟩ (Nat.le_of_ble_eq_true rfl) rfl rfl ?_
  refine zR_aload_n dX9_init_20 0 rfl ?_
  refine zR_bipush (x := (8 : Int32)) dX9_init_21 rfl ?_
  refine zK_newI (N := 8) (q := 18) hp dX9_init_23 zar_int (by decide) rfl (Nat.le_of_ble_eq_true rfl) (Nat.le_of_ble_eq_true rfl) (Nat.le_of_ble_eq_true rfl) rfl ?_
  refine zK_putF hp dX9_init_25 zf_X9_18 zt_X9_2 rfl ⟨_, _, rfl⟩ (Nat.le_of_ble_eq_true rfl) rfl rfl ?_
  refine zR_aload_n dX9_init_28 0 rfl ?_
  refine zR_bipush (x := (8 : Int32)) dX9_init_29 rfl ?_
  refine zK_newI (N := 8) (q := 19) hp dX9_init_31 zar_int (by decide) rfl (Nat.le_of_ble_eq_true rfl) (Nat.le_of_ble_eq_true rfl) (Nat.le_of_ble_eq_true rfl) rfl ?_
  refine zK_putF hp dX9_init_33 zf_X9_21 zt_X9_3 rfl ⟨_, _, rfl⟩ (Nat.le_of_ble_eq_true rfl) rfl rfl ?_
  refine zR_aload_n dX9_init_36 0 rfl ?_
  refine zR_bipush (x := (16 : Int32)) dX9_init_37 rfl ?_
  refine zK_newI (N := 16) (q := 20) hp dX9_init_39 zar_int (by decide) rfl (Nat.le_of_ble_eq_true rfl) (Nat.le_of_ble_eq_true rfl) (Nat.le_of_ble_eq_true rfl) rfl ?_
  refine zK_putF hp dX9_init_41 zf_X9_24 zt_X9_4 rfl ⟨_, _, rfl⟩ (Nat.le_of_ble_eq_true rfl) rfl rfl ?_
  refine zR_aload_n dX9_init_44 0 rfl ?_
  refine zR_bipush (x := (24 : Int32)) dX9_init_45 rfl ?_
  refine zK_newI (N := 24) (q := 21) hp dX9_init_47 zar_int (by decide) rfl (Nat.le_of_ble_eq_true rfl) (Nat.le_of_ble_eq_true rfl) (Nat.le_of_ble_eq_true rfl) rfl ?_
  refine zK_putF hp dX9_init_49 zf_X9_27 zt_X9_5 rfl ⟨_, _, rfl⟩ (Nat.le_of_ble_eq_true rfl) rfl rfl ?_
  refine zR_aload_n dX9_init_52 0 rfl ?_
  refine zR_bipush (x := (24 : Int32)) dX9_init_53 rfl ?_
  refine zK_newI (N := 24) (q := 22) hp dX9_init_55 zar_int (by decide) rfl (Nat.le_of_ble_eq_true rfl) (Nat.le_of_ble_eq_true rfl) (Nat.le_of_ble_eq_true rfl) rfl ?_
  refine zK_putF hp dX9_init_57 zf_X9_30 zt_X9_6 rfl ⟨_, _, rfl⟩ (Nat.le_of_ble_eq_true rfl) rfl rfl ?_
  refine zR_aload_n dX9_init_60 0 rfl ?_
  refine zR_bipush (x := (24 : Int32)) dX9_init_61 rfl ?_
  refine zK_newI (N := 24) (q := 23) hp dX9_init_63 zar_int (by decide) rfl (Nat.le_of_ble_eq_true rfl) (Nat.le_of_ble_eq_true rfl) (Nat.le_of_ble_eq_true rfl) rfl ?_
  refine zK_putF hp dX9_init_65 zf_X9_33 zt_X9_7 rfl ⟨_, _, rfl⟩ (Nat.le_of_ble_eq_true rfl) rfl rfl ?_
  refine zR_aload_n dX9_init_68 0 rfl ?_
  refine zR_bipush (x := (16 : Int32)) dX9_init_69 rfl ?_
  refine zK_newI (N := 16) (q := 24) hp dX9_init_71 zar_int (by decide) rfl (Nat.le_of_ble_eq_true rfl) (Nat.le_of_ble_eq_true rfl) (Nat.le_of_ble_eq_true rfl) rfl ?_
  refine zK_putF hp dX9_init_73 zf_X9_36 zt_X9_8 rfl ⟨_, _, rfl⟩ (Nat.le_of_ble_eq_true rfl) rfl rfl ?_
  refine zR_aload_n dX9_init_76 0 rfl ?_
  refine zR_bipush (x := (12 : Int32)) dX9_init_77 rfl ?_
  refine zK_newI (N := 12) (q := 25) hp dX9_init_79 zar_int (by decide) rfl (Nat.le_of_ble_eq_true rfl) (Nat.le_of_ble_eq_true rfl) (Nat.le_of_ble_eq_true rfl) rfl ?_
  refine zK_putF hp dX9_init_81 zf_X9_39 zt_X9_9 rfl ⟨_, _, rfl⟩ (Nat.le_of_ble_eq_true rfl) rfl rfl ?_
  refine zR_aload_n dX9_init_84 0 rfl ?_
  refine zR_bipush (x := (12 : Int32)) dX9_init_85 rfl ?_
  refine zK_newI (N := 12) (q := 26) hp dX9_init_87 zar_int (by decide) rfl (Nat.le_of_ble_eq_true rfl) (Nat.le_of_ble_eq_true rfl) (Nat.le_of_ble_eq_true rfl) rfl ?_
  refine zK_putF hp dX9_init_89 zf_X9_42 zt_X9_10 rfl ⟨_, _, rfl⟩ (Nat.le_of_ble_eq_true rfl) rfl rfl ?_
  refine zR_aload_n dX9_init_92 0 rfl ?_
  refine zR_bipush (x := (12 : Int32)) dX9_init_93 rfl ?_
  refine zK_newI (N := 12) (q := 27) hp dX9_init_95 zar_int (by decide) rfl (Nat.le_of_ble_eq_true rfl) (Nat.le_of_ble_eq_true rfl) (Nat.le_of_ble_eq_true rfl) rfl ?_
  refine zK_putF hp dX9_init_97 zf_X9_45 zt_X9_11 rfl ⟨_, _, rfl⟩ (Nat.le_of_ble_eq_true rfl) rfl rfl ?_
  refine zR_aload_n dX9_init_100 0 rfl ?_
  refine zK_new (q := 28) (fs := [.null, .null, .int 0, .int 0, .null, .null, .null, .null, .null, .null, .null, .int 0]) hp dX9_init_101 (ci := 6) (N := 12) (C := RX6) (T := TX6) rfl tyX6 tyX6_ok zb_X6 zin_X6 zn_X9_48.1 zn_X9_48.2.1 zn_X9_48.2.2 (Nat.le_of_ble_eq_true rfl) (Nat.le_of_ble_eq_true rfl) rfl ?_
  refine zR_dup dX9_init_104 rfl ?_
  refine zK_callIN (m := 0) (host := "SilverBall") (rest := [.ref (w.1 + 28), .ref (w.1 + 15)]) dX9_init_105 (iX6_init_28 (w := w) _ ((zp_len hp).trans rfl)) (fun s h => h.2) zq_X6_init.1 zq_X6_init.2 ⟨by decide +kernel, by decide +kernel, by decide +kernel⟩ (by decide) zqi_X6_init rfl rfl rfl rfl (Nat.le_of_ble_eq_true rfl) (Nat.le_of_ble_eq_true rfl) (Nat.le_of_ble_eq_true rfl) (Nat.le_of_ble_eq_true rfl) ?_
  refine zK_putF hp dX9_init_108 zf_X9_51 zt_X9_12 rfl ⟨_, _, rfl⟩ (Nat.le_of_ble_eq_true rfl) rfl rfl ?_
  exact zR_ret dX9_init_111 rfl
set_option maxRecDepth 100000 in
set_option maxHeartbeats 4000000 in
theorem iX7_init_40 {w : zW} (pre : zS) (hp : pre.length = 40) : zMet w kX7_init 1 2 12 [.ref (w.1 + 40), .ref (w.1 + 28)] (pre ++ [.inr (7, [.null, .null, .null, .int 0])]) none (pre ++ [.inr (7, [.ref (w.1 + 28), .ref (w.1 + 41), .ref (w.1 + 42), .int (0 : Int32)]), .inl (0, 6, .inl fun _ => 0), .inl (0, 6, .inl fun _ => 0)]) := by
  refine zMet_of (by decide) (Nat.le_of_ble_eq_true rfl) (Nat.le_refl _) fun _ => ?_
  show zR w kX7_init 1 2 12 none (pre ++ [.inr (7, [.ref (w.1 + 28), .ref (w.1 + 41), .ref (w.1 + 42), .int (0 : Int32)]), .inl (0, 6, .inl fun _ => 0), .inl (0, 6, .inl fun _ => 0)]) 0 [(0, .ref (w.1 + 40)), (1, .ref (w.1 + 28))] [] (pre ++ .inr (7, [.null, .null, .null, .int 0]) :: [])
  refine zR_aload_n dX7_init_0 0 rfl ?_
  refine zR_objInit dX7_init_1 zo_X7_3 zo_1 zo_2 (Nat.le_of_ble_eq_true rfl) (Nat.le_of_ble_eq_true rfl) ?_
  refine zR_aload_n dX7_init_4 0 rfl ?_
  refine zR_bipush (x := (6 : Int32)) dX7_init_5 rfl ?_
  refine zK_newI (N := 6) (q := 41) hp dX7_init_7 zar_int (by decide) rfl (Nat.le_of_ble_eq_true rfl) (Nat.le_of_ble_eq_true rfl) (Nat.le_of_ble_eq_true rfl) rfl ?_
  refine zK_putF hp dX7_init_9 zf_X7_9 zt_X7_1 rfl ⟨_, _, rfl⟩ (Nat.le_of_ble_eq_true rfl) rfl rfl ?_
  refine zR_aload_n dX7_init_12 0 rfl ?_
  refine zR_bipush (x := (6 : Int32)) dX7_init_13 rfl ?_
  refine zK_newI (N := 6) (q := 42) hp dX7_init_15 zar_int (by decide) rfl (Nat.le_of_ble_eq_true rfl) (Nat.le_of_ble_eq_true rfl) (Nat.le_of_ble_eq_true rfl) rfl ?_
  refine zK_putF hp dX7_init_17 zf_X7_15 zt_X7_2 rfl ⟨_, _, rfl⟩ (Nat.le_of_ble_eq_true rfl) rfl rfl ?_
  refine zR_aload_n dX7_init_20 0 rfl ?_
  refine zR_iconst (x := (0 : Int32)) dX7_init_21 rfl ?_
  refine zK_put hp dX7_init_22 zf_X7_18 zt_X7_3 (Nat.le_of_ble_eq_true rfl) rfl rfl ?_
  refine zR_aload_n dX7_init_25 0 rfl ?_
  refine zR_aload_n dX7_init_26 1 rfl ?_
  refine zK_putF hp dX7_init_27 zf_X7_22 zt_X7_0 rfl ⟨_, _, rfl⟩ (Nat.le_of_ble_eq_true rfl) rfl rfl ?_
  exact zR_ret dX7_init_30 rfl
set_option maxRecDepth 100000 in
set_option maxHeartbeats 4000000 in
theorem iX8_init_43 {w : zW} (pre : zS) (hp : pre.length = 43) : zMet w kX8_init 1 4 64 [.ref (w.1 + 43), .ref (w.1 + 15)] (pre ++ [.inr (8, [.null, .null, .null, .null, .null])]) none (pre ++ [.inr (8, [.ref (w.1 + 15), .ref (w.1 + 44), .ref (w.1 + 45), .ref (w.1 + 46), .ref (w.1 + 47)]), .inl (0, 16, .inl fun _ => 0), .inl (0, 16, .inl fun _ => 0), .inl (0, 16, .inl fun _ => 0), .inl (0, 16, .inl fun _ => 0)]) := by
  refine zMet_of (by decide) (Nat.le_of_ble_eq_true rfl) (Nat.le_refl _) fun _ => ?_
  show zR w kX8_init 1 4 64 none (pre ++ [.inr (8, [.ref (w.1 + 15), .ref (w.1 + 44), .ref (w.1 + 45), .ref (w.1 + 46), .ref (w.1 + 47)]), .inl (0, 16, .inl fun _ => 0), .inl (0, 16, .inl fun _ => 0), .inl (0, 16, .inl fun _ => 0), .inl (0, 16, .inl fun _ => 0)]) 0 [(0, .ref (w.1 + 43)), (1, .ref (w.1 + 15))] [] (pre ++ .inr (8, [.null, .null, .null, .null, .null]) :: [])
  refine zR_aload_n dX8_init_0 0 rfl ?_
  refine zR_objInit dX8_init_1 zo_X8_3 zo_1 zo_2 (Nat.le_of_ble_eq_true rfl) (Nat.le_of_ble_eq_true rfl) ?_
  refine zR_aload_n dX8_init_4 0 rfl ?_
  refine zR_bipush (x := (16 : Int32)) dX8_init_5 rfl ?_
  refine zK_newI (N := 16) (q := 44) hp dX8_init_7 zar_int (by decide) rfl (Nat.le_of_ble_eq_true rfl) (Nat.le_of_ble_eq_true rfl) (Nat.le_of_ble_eq_true rfl) rfl ?_
  refine zK_putF hp dX8_init_9 zf_X8_9 zt_X8_1 rfl ⟨_, _, rfl⟩ (Nat.le_of_ble_eq_true rfl) rfl rfl ?_
  refine zR_aload_n dX8_init_12 0 rfl ?_
  refine zR_bipush (x := (16 : Int32)) dX8_init_13 rfl ?_
  refine zK_newI (N := 16) (q := 45) hp dX8_init_15 zar_int (by decide) rfl (Nat.le_of_ble_eq_true rfl) (Nat.le_of_ble_eq_true rfl) (Nat.le_of_ble_eq_true rfl) rfl ?_
  refine zK_putF hp dX8_init_17 zf_X8_15 zt_X8_2 rfl ⟨_, _, rfl⟩ (Nat.le_of_ble_eq_true rfl) rfl rfl ?_
  refine zR_aload_n dX8_init_20 0 rfl ?_
  refine zR_bipush (x := (16 : Int32)) dX8_init_21 rfl ?_
  refine zK_newI (N := 16) (q := 46) hp dX8_init_23 zar_int (by decide) rfl (Nat.le_of_ble_eq_true rfl) (Nat.le_of_ble_eq_true rfl) (Nat.le_of_ble_eq_true rfl) rfl ?_
  refine zK_putF hp dX8_init_25 zf_X8_18 zt_X8_3 rfl ⟨_, _, rfl⟩ (Nat.le_of_ble_eq_true rfl) rfl rfl ?_
  refine zR_aload_n dX8_init_28 0 rfl ?_
  refine zR_bipush (x := (16 : Int32)) dX8_init_29 rfl ?_
  refine zK_newI (N := 16) (q := 47) hp dX8_init_31 zar_int (by decide) rfl (Nat.le_of_ble_eq_true rfl) (Nat.le_of_ble_eq_true rfl) (Nat.le_of_ble_eq_true rfl) rfl ?_
  refine zK_putF hp dX8_init_33 zf_X8_21 zt_X8_4 rfl ⟨_, _, rfl⟩ (Nat.le_of_ble_eq_true rfl) rfl rfl ?_
  refine zR_aload_n dX8_init_36 0 rfl ?_
  refine zR_aload_n dX8_init_37 1 rfl ?_
  refine zK_putF hp dX8_init_38 zf_X8_24 zt_X8_0 rfl ⟨_, _, rfl⟩ (Nat.le_of_ble_eq_true rfl) rfl rfl ?_
  exact zR_ret dX8_init_41 rfl
set_option maxRecDepth 100000 in
set_option maxHeartbeats 4000000 in
theorem iX0_init_48 {w : zW} (pre : zS) (hp : pre.length = 48) : zMet w kX0_init 1 3 24 [.ref (w.1 + 48), .ref (w.1 + 15)] (pre ++ [.inr (0, [.null, .null, .null, .null, .int 0])]) none (pre ++ [.inr (0, [.ref (w.1 + 15), .ref (w.1 + 49), .ref (w.1 + 50), .ref (w.1 + 51), .int (0 : Int32)]), .inl (0, 8, .inl fun _ => 0), .inl (0, 8, .inl fun _ => 0), .inl (0, 8, .inl fun _ => 0)]) := by
  refine zMet_of (by decide) (Nat.le_of_ble_eq_true rfl) (Nat.le_refl _) fun _ => ?_
  show zR w kX0_init 1 3 24 none (pre ++ [.inr (0, [.ref (w.1 + 15), .ref (w.1 + 49), .ref (w.1 + 50), .ref (w.1 + 51), .int (0 : Int32)]), .inl (0, 8, .inl fun _ => 0), .inl (0, 8, .inl fun _ => 0), .inl (0, 8, .inl fun _ => 0)]) 0 [(0, .ref (w.1 + 48)), (1, .ref (w.1 + 15))] [] (pre ++ .inr (0, [.null, .null, .null, .null, .int 0]) :: [])
  refine zR_aload_n dX0_init_0 0 rfl ?_
  refine zR_objInit dX0_init_1 zo_X0_3 zo_1 zo_2 (Nat.le_of_ble_eq_true rfl) (Nat.le_of_ble_eq_true rfl) ?_
  refine zR_aload_n dX0_init_4 0 rfl ?_
  refine zR_bipush (x := (8 : Int32)) dX0_init_5 rfl ?_
  refine zK_newI (N := 8) (q := 49) hp dX0_init_7 zar_int (by decide) rfl (Nat.le_of_ble_eq_true rfl) (Nat.le_of_ble_eq_true rfl) (Nat.le_of_ble_eq_true rfl) rfl ?_
  refine zK_putF hp dX0_init_9 zf_X0_9 zt_X0_1 rfl ⟨_, _, rfl⟩ (Nat.le_of_ble_eq_true rfl) rfl rfl ?_
  refine zR_aload_n dX0_init_12 0 rfl ?_
  refine zR_bipush (x := (8 : Int32)) dX0_init_13 rfl ?_
  refine zK_newI (N := 8) (q := 50) hp dX0_init_15 zar_int (by decide) rfl (Nat.le_of_ble_eq_true rfl) (Nat.le_of_ble_eq_true rfl) (Nat.le_of_ble_eq_true rfl) rfl ?_
  refine zK_putF hp dX0_init_17 zf_X0_15 zt_X0_2 rfl ⟨_, _, rfl⟩ (Nat.le_of_ble_eq_true rfl) rfl rfl ?_
  refine zR_aload_n dX0_init_20 0 rfl ?_
  refine zR_bipush (x := (8 : Int32)) dX0_init_21 rfl ?_
  refine zK_newI (N := 8) (q := 51) hp dX0_init_23 zar_int (by decide) rfl (Nat.le_of_ble_eq_true rfl) (Nat.le_of_ble_eq_true rfl) (Nat.le_of_ble_eq_true rfl) rfl ?_
  refine zK_putF hp dX0_init_25 zf_X0_18 zt_X0_3 rfl ⟨_, _, rfl⟩ (Nat.le_of_ble_eq_true rfl) rfl rfl ?_
  refine zR_aload_n dX0_init_28 0 rfl ?_
  refine zR_iconst (x := (0 : Int32)) dX0_init_29 rfl ?_
  refine zK_put hp dX0_init_30 zf_X0_21 zt_X0_4 (Nat.le_of_ble_eq_true rfl) rfl rfl ?_
  refine zR_aload_n dX0_init_33 0 rfl ?_
  refine zR_aload_n dX0_init_34 1 rfl ?_
  refine zK_putF hp dX0_init_35 zf_X0_25 zt_X0_0 rfl ⟨_, _, rfl⟩ (Nat.le_of_ble_eq_true rfl) rfl rfl ?_
  exact zR_ret dX0_init_38 rfl
set_option maxRecDepth 100000 in
set_option maxHeartbeats 4000000 in
theorem iX3_init_52 {w : zW} (pre : zS) (hp : pre.length = 52) : zMet w kX3_init 1 3 969 [.ref (w.1 + 52), .ref (w.1 + 15), .int (1 : Int32)] (pre ++ [.inr (3, [.null, .null, .null, .null, .int 0, .int 0, .int 0, .int 0, .int 0])]) none (pre ++ [.inr (3, [.ref (w.1 + 15), .ref (w.1 + 53), .ref (w.1 + 54), .ref (w.1 + 55), .int (0 : Int32), .int (0 : Int32), .int (0 : Int32), .int (0 : Int32), .int (0 : Int32)]), .inl (0, 120, .inl fun _ => 0), .inl (0, 120, .inl fun _ => 0), .inl (0, 729, .inl fun _ => 0)]) := by
  refine zMet_of (by decide) (Nat.le_of_ble_eq_true rfl) (Nat.le_refl _) fun _ => ?_
  show zR w kX3_init 1 3 969 none (pre ++ [.inr (3, [.ref (w.1 + 15), .ref (w.1 + 53), .ref (w.1 + 54), .ref (w.1 + 55), .int (0 : Int32), .int (0 : Int32), .int (0 : Int32), .int (0 : Int32), .int (0 : Int32)]), .inl (0, 120, .inl fun _ => 0), .inl (0, 120, .inl fun _ => 0), .inl (0, 729, .inl fun _ => 0)]) 0 [(0, .ref (w.1 + 52)), (1, .ref (w.1 + 15)), (2, .int (1 : Int32))] [] (pre ++ .inr (3, [.null, .null, .null, .null, .int 0, .int 0, .int 0, .int 0, .int 0]) :: [])
  refine zR_aload_n dX3_init_0 0 rfl ?_
  refine zR_objInit dX3_init_1 zo_X3_5 zo_1 zo_2 (Nat.le_of_ble_eq_true rfl) (Nat.le_of_ble_eq_true rfl) ?_
  refine zR_aload_n dX3_init_4 0 rfl ?_
  refine zR_iconst (x := (0 : Int32)) dX3_init_5 rfl ?_
  refine zK_put hp dX3_init_6 zf_X3_11 zt_X3_4 (Nat.le_of_ble_eq_true rfl) rfl rfl ?_
  refine zR_aload_n dX3_init_9 0 rfl ?_
  refine zR_iconst (x := (0 : Int32)) dX3_init_10 rfl ?_
  refine zK_put hp dX3_init_11 zf_X3_15 zt_X3_5 (Nat.le_of_ble_eq_true rfl) rfl rfl ?_
  refine zR_aload_n dX3_init_14 0 rfl ?_
  refine zR_iconst (x := (0 : Int32)) dX3_init_15 rfl ?_
  refine zK_put hp dX3_init_16 zf_X3_18 zt_X3_6 (Nat.le_of_ble_eq_true rfl) rfl rfl ?_
  refine zR_aload_n dX3_init_19 0 rfl ?_
  refine zR_iconst (x := (0 : Int32)) dX3_init_20 rfl ?_
  refine zK_put hp dX3_init_21 zf_X3_21 zt_X3_7 (Nat.le_of_ble_eq_true rfl) rfl rfl ?_
  refine zR_aload_n dX3_init_24 0 rfl ?_
  refine zR_iconst (x := (0 : Int32)) dX3_init_25 rfl ?_
  refine zK_put hp dX3_init_26 zf_X3_24 zt_X3_8 (Nat.le_of_ble_eq_true rfl) rfl rfl ?_
  refine zR_aload_n dX3_init_29 0 rfl ?_
  refine zR_aload_n dX3_init_30 1 rfl ?_
  refine zK_putF hp dX3_init_31 zf_X3_27 zt_X3_0 rfl ⟨_, _, rfl⟩ (Nat.le_of_ble_eq_true rfl) rfl rfl ?_
  refine zR_aload_n dX3_init_34 0 rfl ?_
  refine zR_iload_n dX3_init_35 2 rfl ?_
  refine zR_if_eq_f (tgt := 44) dX3_init_36 (by decide) (by decide) ?_
  refine zR_bipush (x := (120 : Int32)) dX3_init_39 rfl ?_
  refine zR_goto (tgt := 45) dX3_init_41 (by decide) ?_
  refine zK_newI (N := 120) (q := 53) hp dX3_init_45 zar_int (by decide) rfl (Nat.le_of_ble_eq_true rfl) (Nat.le_of_ble_eq_true rfl) (Nat.le_of_ble_eq_true rfl) rfl ?_
  refine zK_put hp dX3_init_47 zf_X3_31 zt_X3_1 (Nat.le_of_ble_eq_true rfl) rfl rfl ?_
  refine zR_aload_n dX3_init_50 0 rfl ?_
  refine zR_iload_n dX3_init_51 2 rfl ?_
  refine zR_if_eq_f (tgt := 60) dX3_init_52 (by decide) (by decide) ?_
  refine zR_bipush (x := (120 : Int32)) dX3_init_55 rfl ?_
  refine zR_goto (tgt := 61) dX3_init_57 (by decide) ?_
  refine zK_newI (N := 120) (q := 54) hp dX3_init_61 zar_int (by decide) rfl (Nat.le_of_ble_eq_true rfl) (Nat.le_of_ble_eq_true rfl) (Nat.le_of_ble_eq_true rfl) rfl ?_
  refine zK_put hp dX3_init_63 zf_X3_35 zt_X3_2 (Nat.le_of_ble_eq_true rfl) rfl rfl ?_
  refine zR_aload_n dX3_init_66 0 rfl ?_
  refine zR_iload_n dX3_init_67 2 rfl ?_
  refine zR_if_eq_f (tgt := 77) dX3_init_68 (by decide) (by decide) ?_
  refine zR_sipush (x := (729 : Int32)) dX3_init_71 rfl ?_
  refine zR_goto (tgt := 78) dX3_init_74 (by decide) ?_
  refine zK_newI (N := 729) (q := 55) hp dX3_init_78 zar_int (by decide) rfl (Nat.le_of_ble_eq_true rfl) (Nat.le_of_ble_eq_true rfl) (Nat.le_of_ble_eq_true rfl) rfl ?_
  refine zK_putF hp dX3_init_80 zf_X3_38 zt_X3_3 rfl ⟨_, _, rfl⟩ (Nat.le_of_ble_eq_true rfl) rfl rfl ?_
  exact zR_ret dX3_init_83 rfl
set_option maxRecDepth 100000 in
set_option maxHeartbeats 4000000 in
theorem iX4_init_56 {w : zW} (pre : zS) (hp : pre.length = 56) : zMet w kX4_init 1 5 60 [.ref (w.1 + 56), .ref (w.1 + 15)] (pre ++ [.inr (4, [.null, .null, .null, .null, .null, .null, .int 0])]) none (pre ++ [.inr (4, [.ref (w.1 + 15), .ref (w.1 + 57), .ref (w.1 + 58), .ref (w.1 + 59), .ref (w.1 + 60), .ref (w.1 + 61), .int (0 : Int32)]), .inl (3, 12, .inl fun _ => 0), .inl (0, 12, .inl fun _ => 0), .inl (0, 12, .inl fun _ => 0), .inl (0, 12, .inl fun _ => 0), .inl (0, 12, .inl fun _ => 0)]) := by
  refine zMet_of (by decide) (Nat.le_of_ble_eq_true rfl) (Nat.le_refl _) fun _ => ?_
  show zR w kX4_init 1 5 60 none (pre ++ [.inr (4, [.ref (w.1 + 15), .ref (w.1 + 57), .ref (w.1 + 58), .ref (w.1 + 59), .ref (w.1 + 60), .ref (w.1 + 61), .int (0 : Int32)]), .inl (3, 12, .inl fun _ => 0), .inl (0, 12, .inl fun _ => 0), .inl (0, 12, .inl fun _ => 0), .inl (0, 12, .inl fun _ => 0), .inl (0, 12, .inl fun _ => 0)]) 0 [(0, .ref (w.1 + 56)), (1, .ref (w.1 + 15))] [] (pre ++ .inr (4, [.null, .null, .null, .null, .null, .null, .int 0]) :: [])
  refine zR_aload_n dX4_init_0 0 rfl ?_
  refine zR_objInit dX4_init_1 zo_X4_3 zo_1 zo_2 (Nat.le_of_ble_eq_true rfl) (Nat.le_of_ble_eq_true rfl) ?_
  refine zR_aload_n dX4_init_4 0 rfl ?_
  refine zR_bipush (x := (12 : Int32)) dX4_init_5 rfl ?_
  refine zK_newZ (N := 12) (q := 57) hp dX4_init_7 zar_boolean (by decide) rfl (Nat.le_of_ble_eq_true rfl) (Nat.le_of_ble_eq_true rfl) (Nat.le_of_ble_eq_true rfl) rfl ?_
  refine zK_putF hp dX4_init_9 zf_X4_9 zt_X4_1 rfl ⟨_, _, rfl⟩ (Nat.le_of_ble_eq_true rfl) rfl rfl ?_
  refine zR_aload_n dX4_init_12 0 rfl ?_
  refine zR_bipush (x := (12 : Int32)) dX4_init_13 rfl ?_
  refine zK_newI (N := 12) (q := 58) hp dX4_init_15 zar_int (by decide) rfl (Nat.le_of_ble_eq_true rfl) (Nat.le_of_ble_eq_true rfl) (Nat.le_of_ble_eq_true rfl) rfl ?_
  refine zK_putF hp dX4_init_17 zf_X4_15 zt_X4_2 rfl ⟨_, _, rfl⟩ (Nat.le_of_ble_eq_true rfl) rfl rfl ?_
  refine zR_aload_n dX4_init_20 0 rfl ?_
  refine zR_bipush (x := (12 : Int32)) dX4_init_21 rfl ?_
  refine zK_newI (N := 12) (q := 59) hp dX4_init_23 zar_int (by decide) rfl (Nat.le_of_ble_eq_true rfl) (Nat.le_of_ble_eq_true rfl) (Nat.le_of_ble_eq_true rfl) rfl ?_
  refine zK_putF hp dX4_init_25 zf_X4_19 zt_X4_3 rfl ⟨_, _, rfl⟩ (Nat.le_of_ble_eq_true rfl) rfl rfl ?_
  refine zR_aload_n dX4_init_28 0 rfl ?_
  refine zR_bipush (x := (12 : Int32)) dX4_init_29 rfl ?_
  refine zK_newI (N := 12) (q := 60) hp dX4_init_31 zar_int (by decide) rfl (Nat.le_of_ble_eq_true rfl) (Nat.le_of_ble_eq_true rfl) (Nat.le_of_ble_eq_true rfl) rfl ?_
  refine zK_putF hp dX4_init_33 zf_X4_22 zt_X4_4 rfl ⟨_, _, rfl⟩ (Nat.le_of_ble_eq_true rfl) rfl rfl ?_
  refine zR_aload_n dX4_init_36 0 rfl ?_
  refine zR_bipush (x := (12 : Int32)) dX4_init_37 rfl ?_
  refine zK_newI (N := 12) (q := 61) hp dX4_init_39 zar_int (by decide) rfl (Nat.le_of_ble_eq_true rfl) (Nat.le_of_ble_eq_true rfl) (Nat.le_of_ble_eq_true rfl) rfl ?_
  refine zK_putF hp dX4_init_41 zf_X4_25 zt_X4_5 rfl ⟨_, _, rfl⟩ (Nat.le_of_ble_eq_true rfl) rfl rfl ?_
  refine zR_aload_n dX4_init_44 0 rfl ?_
  refine zR_iconst (x := (0 : Int32)) dX4_init_45 rfl ?_
  refine zK_put hp dX4_init_46 zf_X4_28 zt_X4_6 (Nat.le_of_ble_eq_true rfl) rfl rfl ?_
  refine zR_aload_n dX4_init_49 0 rfl ?_
  refine zR_aload_n dX4_init_50 1 rfl ?_
  refine zK_putF hp dX4_init_51 zf_X4_32 zt_X4_0 rfl ⟨_, _, rfl⟩ (Nat.le_of_ble_eq_true rfl) rfl rfl ?_
  exact zR_ret dX4_init_54 rfl
set_option maxRecDepth 100000 in
set_option maxHeartbeats 4000000 in
theorem iX1_init_38 {w : zW} (pre : zS) (hp : pre.length = 38) (ht : pre[15]? = some (.inr (9, [.ref (w.1 + 16), .ref (w.1 + 17), .ref (w.1 + 18), .ref (w.1 + 19), .ref (w.1 + 20), .ref (w.1 + 21), .ref (w.1 + 22), .ref (w.1 + 23), .ref (w.1 + 24), .ref (w.1 + 25), .ref (w.1 + 26), .ref (w.1 + 27), .ref (w.1 + 28)]))) : zMet w kX1_init 2 23 1175 [.ref (w.1 + 38), .ref (w.1 + 15), .int (1 : Int32)] (pre ++ [.inr (1, [.null, .null, .null, .null, .null, .null, .null, .null, .long 0, .int 0, .int 0, .int 0, .int 0, .int 0, .int 0])]) none (pre ++ [.inr (1, [.ref (w.1 + 15), .ref (w.1 + 28), .ref (w.1 + 40), .ref (w.1 + 43), .ref (w.1 + 48), .ref (w.1 + 52), .ref (w.1 + 56), .ref (w.1 + 39), .long (0 : Int64), .int (0 : Int32), .int (0 : Int32), .int (0 : Int32), .int (0 : Int32), .int (0 : Int32), .int (0 : Int32)]), .inl (0, 16, .inl fun _ => 0), .inr (7, [.ref (w.1 + 28), .ref (w.1 + 41), .ref (w.1 + 42), .int (0 : Int32)]), .inl (0, 6, .inl fun _ => 0), .inl (0, 6, .inl fun _ => 0), .inr (8, [.ref (w.1 + 15), .ref (w.1 + 44), .ref (w.1 + 45), .ref (w.1 + 46), .ref (w.1 + 47)]), .inl (0, 16, .inl fun _ => 0), .inl (0, 16, .inl fun _ => 0), .inl (0, 16, .inl fun _ => 0), .inl (0, 16, .inl fun _ => 0), .inr (0, [.ref (w.1 + 15), .ref (w.1 + 49), .ref (w.1 + 50), .ref (w.1 + 51), .int (0 : Int32)]), .inl (0, 8, .inl fun _ => 0), .inl (0, 8, .inl fun _ => 0), .inl (0, 8, .inl fun _ => 0), .inr (3, [.ref (w.1 + 15), .ref (w.1 + 53), .ref (w.1 + 54), .ref (w.1 + 55), .int (0 : Int32), .int (0 : Int32), .int (0 : Int32), .int (0 : Int32), .int (0 : Int32)]), .inl (0, 120, .inl fun _ => 0), .inl (0, 120, .inl fun _ => 0), .inl (0, 729, .inl fun _ => 0), .inr (4, [.ref (w.1 + 15), .ref (w.1 + 57), .ref (w.1 + 58), .ref (w.1 + 59), .ref (w.1 + 60), .ref (w.1 + 61), .int (0 : Int32)]), .inl (3, 12, .inl fun _ => 0), .inl (0, 12, .inl fun _ => 0), .inl (0, 12, .inl fun _ => 0), .inl (0, 12, .inl fun _ => 0), .inl (0, 12, .inl fun _ => 0)]) := by
  refine zMet_of (by decide) (Nat.le_of_ble_eq_true rfl) (Nat.le_refl _) fun _ => ?_
  show zR w kX1_init 2 23 1175 none (pre ++ [.inr (1, [.ref (w.1 + 15), .ref (w.1 + 28), .ref (w.1 + 40), .ref (w.1 + 43), .ref (w.1 + 48), .ref (w.1 + 52), .ref (w.1 + 56), .ref (w.1 + 39), .long (0 : Int64), .int (0 : Int32), .int (0 : Int32), .int (0 : Int32), .int (0 : Int32), .int (0 : Int32), .int (0 : Int32)]), .inl (0, 16, .inl fun _ => 0), .inr (7, [.ref (w.1 + 28), .ref (w.1 + 41), .ref (w.1 + 42), .int (0 : Int32)]), .inl (0, 6, .inl fun _ => 0), .inl (0, 6, .inl fun _ => 0), .inr (8, [.ref (w.1 + 15), .ref (w.1 + 44), .ref (w.1 + 45), .ref (w.1 + 46), .ref (w.1 + 47)]), .inl (0, 16, .inl fun _ => 0), .inl (0, 16, .inl fun _ => 0), .inl (0, 16, .inl fun _ => 0), .inl (0, 16, .inl fun _ => 0), .inr (0, [.ref (w.1 + 15), .ref (w.1 + 49), .ref (w.1 + 50), .ref (w.1 + 51), .int (0 : Int32)]), .inl (0, 8, .inl fun _ => 0), .inl (0, 8, .inl fun _ => 0), .inl (0, 8, .inl fun _ => 0), .inr (3, [.ref (w.1 + 15), .ref (w.1 + 53), .ref (w.1 + 54), .ref (w.1 + 55), .int (0 : Int32), .int (0 : Int32), .int (0 : Int32), .int (0 : Int32), .int (0 : Int32)]), .inl (0, 120, .inl fun _ => 0), .inl (0, 120, .inl fun _ => 0), .inl (0, 729, .inl fun _ => 0), .inr (4, [.ref (w.1 + 15), .ref (w.1 + 57), .ref (w.1 + 58), .ref (w.1 + 59), .ref (w.1 + 60), .ref (w.1 + 61), .int (0 : Int32)]), .inl (3, 12, .inl fun _ => 0), .inl (0, 12, .inl fun _ => 0), .inl (0, 12, .inl fun _ => 0), .inl (0, 12, .inl fun _ => 0), .inl (0, 12, .inl fun _ => 0)]) 0 [(0, .ref (w.1 + 38)), (1, .ref (w.1 + 15)), (2, .int (1 : Int32))] [] (pre ++ .inr (1, [.null, .null, .null, .null, .null, .null, .null, .null, .long 0, .int 0, .int 0, .int 0, .int 0, .int 0, .int 0]) :: [])
  refine zR_aload_n dX1_init_0 0 rfl ?_
  refine zR_objInit dX1_init_1 zo_X1_3 zo_1 zo_2 (Nat.le_of_ble_eq_true rfl) (Nat.le_of_ble_eq_true rfl) ?_
  refine zR_aload_n dX1_init_4 0 rfl ?_
  refine zR_bipush (x := (16 : Int32)) dX1_init_5 rfl ?_
  refine zK_newI (N := 16) (q := 39) hp dX1_init_7 zar_int (by decide) rfl (Nat.le_of_ble_eq_true rfl) (Nat.le_of_ble_eq_true rfl) (Nat.le_of_ble_eq_true rfl) rfl ?_
  refine zK_putF hp dX1_init_9 zf_X1_9 zt_X1_7 rfl ⟨_, _, rfl⟩ (Nat.le_of_ble_eq_true rfl) rfl rfl ?_
  refine zR_aload_n dX1_init_12 0 rfl ?_
  refine zR_lconst (x := (0 : Int64)) dX1_init_13 rfl ?_
  refine zK_put hp dX1_init_14 zf_X1_15 zt_X1_8 (Nat.le_of_ble_eq_true rfl) rfl rfl ?_
  refine zR_aload_n dX1_init_17 0 rfl ?_
  refine zR_iconst (x := (0 : Int32)) dX1_init_18 rfl ?_
  refine zK_put hp dX1_init_19 zf_X1_19 zt_X1_9 (Nat.le_of_ble_eq_true rfl) rfl rfl ?_
  refine zR_aload_n dX1_init_22 0 rfl ?_
  refine zR_iconst (x := (0 : Int32)) dX1_init_23 rfl ?_
  refine zK_put hp dX1_init_24 zf_X1_23 zt_X1_10 (Nat.le_of_ble_eq_true rfl) rfl rfl ?_
  refine zR_aload_n dX1_init_27 0 rfl ?_
  refine zR_iconst (x := (0 : Int32)) dX1_init_28 rfl ?_
  refine zK_put hp dX1_init_29 zf_X1_26 zt_X1_11 (Nat.le_of_ble_eq_true rfl) rfl rfl ?_
  refine zR_aload_n dX1_init_32 0 rfl ?_
  refine zR_iconst (x := (0 : Int32)) dX1_init_33 rfl ?_
  refine zK_put hp dX1_init_34 zf_X1_30 zt_X1_12 (Nat.le_of_ble_eq_true rfl) rfl rfl ?_
  refine zR_aload_n dX1_init_37 0 rfl ?_
  refine zR_iconst (x := (0 : Int32)) dX1_init_38 rfl ?_
  refine zK_put hp dX1_init_39 zf_X1_33 zt_X1_13 (Nat.le_of_ble_eq_true rfl) rfl rfl ?_
  refine zR_aload_n dX1_init_42 0 rfl ?_
  refine zR_iconst (x := (0 : Int32)) dX1_init_43 rfl ?_
  refine zK_put hp dX1_init_44 zf_X1_36 zt_X1_14 (Nat.le_of_ble_eq_true rfl) rfl rfl ?_
  refine zR_aload_n dX1_init_47 0 rfl ?_
  refine zR_aload_n dX1_init_48 1 rfl ?_
  refine zK_putF hp dX1_init_49 zf_X1_39 zt_X1_0 rfl ⟨_, _, rfl⟩ (Nat.le_of_ble_eq_true rfl) rfl rfl ?_
  refine zR_aload_n dX1_init_52 0 rfl ?_
  refine zR_aload_n dX1_init_53 1 rfl ?_
  refine zR_get dX1_init_54 zf_X1_43 (by rw [List.getElem?_append_left (by rw [hp]; decide)]; exact ht) rfl ?_
  refine zK_putF hp dX1_init_57 zf_X1_49 zt_X1_1 rfl ⟨_, _, rfl⟩ (Nat.le_of_ble_eq_true rfl) rfl rfl ?_
  refine zR_aload_n dX1_init_60 0 rfl ?_
  refine zK_new (q := 40) (fs := [.null, .null, .null, .int 0]) hp dX1_init_61 (ci := 7) (N := 4) (C := RX7) (T := TX7) rfl tyX7 tyX7_ok zb_X7 zin_X7 zn_X1_50.1 zn_X1_50.2.1 zn_X1_50.2.2 (Nat.le_of_ble_eq_true rfl) (Nat.le_of_ble_eq_true rfl) rfl ?_
  refine zR_dup dX1_init_64 rfl ?_
  refine zR_aload_n dX1_init_65 1 rfl ?_
  refine zR_get dX1_init_66 zf_X1_43 (by rw [List.getElem?_append_left (by rw [hp]; decide)]; exact ht) rfl ?_
  refine zK_callI (rest := [.ref (w.1 + 40), .ref (w.1 + 38)]) dX1_init_69 (iX7_init_40 (w := w) _ ((zp_len hp).trans rfl)) zci_X1_52 rfl rfl (Nat.le_of_ble_eq_true rfl) (Nat.le_of_ble_eq_true rfl) (Nat.le_of_ble_eq_true rfl) (Nat.le_of_ble_eq_true rfl) ?_
  refine zK_putF hp dX1_init_72 zf_X1_55 zt_X1_2 rfl ⟨_, _, rfl⟩ (Nat.le_of_ble_eq_true rfl) rfl rfl ?_
  refine zR_aload_n dX1_init_75 0 rfl ?_
  refine zK_new (q := 43) (fs := [.null, .null, .null, .null, .null]) hp dX1_init_76 (ci := 8) (N := 5) (C := RX8) (T := TX8) rfl tyX8 tyX8_ok zb_X8 zin_X8 zn_X1_59.1 zn_X1_59.2.1 zn_X1_59.2.2 (Nat.le_of_ble_eq_true rfl) (Nat.le_of_ble_eq_true rfl) rfl ?_
  refine zR_dup dX1_init_79 rfl ?_
  refine zR_aload_n dX1_init_80 1 rfl ?_
  refine zK_callI (rest := [.ref (w.1 + 43), .ref (w.1 + 38)]) dX1_init_81 (iX8_init_43 (w := w) _ ((zp_len hp).trans rfl)) zci_X1_61 rfl rfl (Nat.le_of_ble_eq_true rfl) (Nat.le_of_ble_eq_true rfl) (Nat.le_of_ble_eq_true rfl) (Nat.le_of_ble_eq_true rfl) ?_
  refine zK_putF hp dX1_init_84 zf_X1_64 zt_X1_3 rfl ⟨_, _, rfl⟩ (Nat.le_of_ble_eq_true rfl) rfl rfl ?_
  refine zR_aload_n dX1_init_87 0 rfl ?_
  refine zK_new (q := 48) (fs := [.null, .null, .null, .null, .int 0]) hp dX1_init_88 (ci := 0) (N := 5) (C := RX0) (T := TX0) rfl tyX0 tyX0_ok zb_X0 zin_X0 zn_X1_68.1 zn_X1_68.2.1 zn_X1_68.2.2 (Nat.le_of_ble_eq_true rfl) (Nat.le_of_ble_eq_true rfl) rfl ?_
  refine zR_dup dX1_init_91 rfl ?_
  refine zR_aload_n dX1_init_92 1 rfl ?_
  refine zK_callI (rest := [.ref (w.1 + 48), .ref (w.1 + 38)]) dX1_init_93 (iX0_init_48 (w := w) _ ((zp_len hp).trans rfl)) zci_X1_70 rfl rfl (Nat.le_of_ble_eq_true rfl) (Nat.le_of_ble_eq_true rfl) (Nat.le_of_ble_eq_true rfl) (Nat.le_of_ble_eq_true rfl) ?_
  refine zK_putF hp dX1_init_96 zf_X1_71 zt_X1_4 rfl ⟨_, _, rfl⟩ (Nat.le_of_ble_eq_true rfl) rfl rfl ?_
  refine zR_aload_n dX1_init_99 0 rfl ?_
  refine zK_new (q := 52) (fs := [.null, .null, .null, .null, .int 0, .int 0, .int 0, .int 0, .int 0]) hp dX1_init_100 (ci := 3) (N := 9) (C := RX3) (T := TX3) rfl tyX3 tyX3_ok zb_X3 zin_X3 zn_X1_75.1 zn_X1_75.2.1 zn_X1_75.2.2 (Nat.le_of_ble_eq_true rfl) (Nat.le_of_ble_eq_true rfl) rfl ?_
  refine zR_dup dX1_init_103 rfl ?_
  refine zR_aload_n dX1_init_104 1 rfl ?_
  refine zR_iload_n dX1_init_105 2 rfl ?_
  refine zK_callI (rest := [.ref (w.1 + 52), .ref (w.1 + 38)]) dX1_init_106 (iX3_init_52 (w := w) _ ((zp_len hp).trans rfl)) zci_X1_77 rfl rfl (Nat.le_of_ble_eq_true rfl) (Nat.le_of_ble_eq_true rfl) (Nat.le_of_ble_eq_true rfl) (Nat.le_of_ble_eq_true rfl) ?_
  refine zK_putF hp dX1_init_109 zf_X1_80 zt_X1_5 rfl ⟨_, _, rfl⟩ (Nat.le_of_ble_eq_true rfl) rfl rfl ?_
  refine zR_aload_n dX1_init_112 0 rfl ?_
  refine zK_new (q := 56) (fs := [.null, .null, .null, .null, .null, .null, .int 0]) hp dX1_init_113 (ci := 4) (N := 7) (C := RX4) (T := TX4) rfl tyX4 tyX4_ok zb_X4 zin_X4 zn_X1_84.1 zn_X1_84.2.1 zn_X1_84.2.2 (Nat.le_of_ble_eq_true rfl) (Nat.le_of_ble_eq_true rfl) rfl ?_
  refine zR_dup dX1_init_116 rfl ?_
  refine zR_aload_n dX1_init_117 1 rfl ?_
  refine zK_callI (rest := [.ref (w.1 + 56), .ref (w.1 + 38)]) dX1_init_118 (iX4_init_56 (w := w) _ ((zp_len hp).trans rfl)) zci_X1_86 rfl rfl (Nat.le_of_ble_eq_true rfl) (Nat.le_of_ble_eq_true rfl) (Nat.le_of_ble_eq_true rfl) (Nat.le_of_ble_eq_true rfl) ?_
  refine zK_putF hp dX1_init_121 zf_X1_87 zt_X1_6 rfl ⟨_, _, rfl⟩ (Nat.le_of_ble_eq_true rfl) rfl rfl ?_
  exact zR_ret dX1_init_124 rfl
set_option maxRecDepth 100000 in
set_option maxHeartbeats 4000000 in
theorem iX7_init_66 {w : zW} (pre : zS) (hp : pre.length = 66) : zMet w kX7_init 1 2 12 [.ref (w.1 + 66), .ref (w.1 + 28)] (pre ++ [.inr (7, [.null, .null, .null, .int 0])]) none (pre ++ [.inr (7, [.ref (w.1 + 28), .ref (w.1 + 67), .ref (w.1 + 68), .int (0 : Int32)]), .inl (0, 6, .inl fun _ => 0), .inl (0, 6, .inl fun _ => 0)]) := by
  refine zMet_of (by decide) (Nat.le_of_ble_eq_true rfl) (Nat.le_refl _) fun _ => ?_
  show zR w kX7_init 1 2 12 none (pre ++ [.inr (7, [.ref (w.1 + 28), .ref (w.1 + 67), .ref (w.1 + 68), .int (0 : Int32)]), .inl (0, 6, .inl fun _ => 0), .inl (0, 6, .inl fun _ => 0)]) 0 [(0, .ref (w.1 + 66)), (1, .ref (w.1 + 28))] [] (pre ++ .inr (7, [.null, .null, .null, .int 0]) :: [])
  refine zR_aload_n dX7_init_0 0 rfl ?_
  refine zR_objInit dX7_init_1 zo_X7_3 zo_1 zo_2 (Nat.le_of_ble_eq_true rfl) (Nat.le_of_ble_eq_true rfl) ?_
  refine zR_aload_n dX7_init_4 0 rfl ?_
  refine zR_bipush (x := (6 : Int32)) dX7_init_5 rfl ?_
  refine zK_newI (N := 6) (q := 67) hp dX7_init_7 zar_int (by decide) rfl (Nat.le_of_ble_eq_true rfl) (Nat.le_of_ble_eq_true rfl) (Nat.le_of_ble_eq_true rfl) rfl ?_
  refine zK_putF hp dX7_init_9 zf_X7_9 zt_X7_1 rfl ⟨_, _, rfl⟩ (Nat.le_of_ble_eq_true rfl) rfl rfl ?_
  refine zR_aload_n dX7_init_12 0 rfl ?_
  refine zR_bipush (x := (6 : Int32)) dX7_init_13 rfl ?_
  refine zK_newI (N := 6) (q := 68) hp dX7_init_15 zar_int (by decide) rfl (Nat.le_of_ble_eq_true rfl) (Nat.le_of_ble_eq_true rfl) (Nat.le_of_ble_eq_true rfl) rfl ?_
  refine zK_putF hp dX7_init_17 zf_X7_15 zt_X7_2 rfl ⟨_, _, rfl⟩ (Nat.le_of_ble_eq_true rfl) rfl rfl ?_
  refine zR_aload_n dX7_init_20 0 rfl ?_
  refine zR_iconst (x := (0 : Int32)) dX7_init_21 rfl ?_
  refine zK_put hp dX7_init_22 zf_X7_18 zt_X7_3 (Nat.le_of_ble_eq_true rfl) rfl rfl ?_
  refine zR_aload_n dX7_init_25 0 rfl ?_
  refine zR_aload_n dX7_init_26 1 rfl ?_
  refine zK_putF hp dX7_init_27 zf_X7_22 zt_X7_0 rfl ⟨_, _, rfl⟩ (Nat.le_of_ble_eq_true rfl) rfl rfl ?_
  exact zR_ret dX7_init_30 rfl
set_option maxRecDepth 100000 in
set_option maxHeartbeats 4000000 in
theorem iX8_init_69 {w : zW} (pre : zS) (hp : pre.length = 69) : zMet w kX8_init 1 4 64 [.ref (w.1 + 69), .ref (w.1 + 15)] (pre ++ [.inr (8, [.null, .null, .null, .null, .null])]) none (pre ++ [.inr (8, [.ref (w.1 + 15), .ref (w.1 + 70), .ref (w.1 + 71), .ref (w.1 + 72), .ref (w.1 + 73)]), .inl (0, 16, .inl fun _ => 0), .inl (0, 16, .inl fun _ => 0), .inl (0, 16, .inl fun _ => 0), .inl (0, 16, .inl fun _ => 0)]) := by
  refine zMet_of (by decide) (Nat.le_of_ble_eq_true rfl) (Nat.le_refl _) fun _ => ?_
  show zR w kX8_init 1 4 64 none (pre ++ [.inr (8, [.ref (w.1 + 15), .ref (w.1 + 70), .ref (w.1 + 71), .ref (w.1 + 72), .ref (w.1 + 73)]), .inl (0, 16, .inl fun _ => 0), .inl (0, 16, .inl fun _ => 0), .inl (0, 16, .inl fun _ => 0), .inl (0, 16, .inl fun _ => 0)]) 0 [(0, .ref (w.1 + 69)), (1, .ref (w.1 + 15))] [] (pre ++ .inr (8, [.null, .null, .null, .null, .null]) :: [])
  refine zR_aload_n dX8_init_0 0 rfl ?_
  refine zR_objInit dX8_init_1 zo_X8_3 zo_1 zo_2 (Nat.le_of_ble_eq_true rfl) (Nat.le_of_ble_eq_true rfl) ?_
  refine zR_aload_n dX8_init_4 0 rfl ?_
  refine zR_bipush (x := (16 : Int32)) dX8_init_5 rfl ?_
  refine zK_newI (N := 16) (q := 70) hp dX8_init_7 zar_int (by decide) rfl (Nat.le_of_ble_eq_true rfl) (Nat.le_of_ble_eq_true rfl) (Nat.le_of_ble_eq_true rfl) rfl ?_
  refine zK_putF hp dX8_init_9 zf_X8_9 zt_X8_1 rfl ⟨_, _, rfl⟩ (Nat.le_of_ble_eq_true rfl) rfl rfl ?_
  refine zR_aload_n dX8_init_12 0 rfl ?_
  refine zR_bipush (x := (16 : Int32)) dX8_init_13 rfl ?_
  refine zK_newI (N := 16) (q := 71) hp dX8_init_15 zar_int (by decide) rfl (Nat.le_of_ble_eq_true rfl) (Nat.le_of_ble_eq_true rfl) (Nat.le_of_ble_eq_true rfl) rfl ?_
  refine zK_putF hp dX8_init_17 zf_X8_15 zt_X8_2 rfl ⟨_, _, rfl⟩ (Nat.le_of_ble_eq_true rfl) rfl rfl ?_
  refine zR_aload_n dX8_init_20 0 rfl ?_
  refine zR_bipush (x := (16 : Int32)) dX8_init_21 rfl ?_
  refine zK_newI (N := 16) (q := 72) hp dX8_init_23 zar_int (by decide) rfl (Nat.le_of_ble_eq_true rfl) (Nat.le_of_ble_eq_true rfl) (Nat.le_of_ble_eq_true rfl) rfl ?_
  refine zK_putF hp dX8_init_25 zf_X8_18 zt_X8_3 rfl ⟨_, _, rfl⟩ (Nat.le_of_ble_eq_true rfl) rfl rfl ?_
  refine zR_aload_n dX8_init_28 0 rfl ?_
  refine zR_bipush (x := (16 : Int32)) dX8_init_29 rfl ?_
  refine zK_newI (N := 16) (q := 73) hp dX8_init_31 zar_int (by decide) rfl (Nat.le_of_ble_eq_true rfl) (Nat.le_of_ble_eq_true rfl) (Nat.le_of_ble_eq_true rfl) rfl ?_
  refine zK_putF hp dX8_init_33 zf_X8_21 zt_X8_4 rfl ⟨_, _, rfl⟩ (Nat.le_of_ble_eq_true rfl) rfl rfl ?_
  refine zR_aload_n dX8_init_36 0 rfl ?_
  refine zR_aload_n dX8_init_37 1 rfl ?_
  refine zK_putF hp dX8_init_38 zf_X8_24 zt_X8_0 rfl ⟨_, _, rfl⟩ (Nat.le_of_ble_eq_true rfl) rfl rfl ?_
  exact zR_ret dX8_init_41 rfl
set_option maxRecDepth 100000 in
set_option maxHeartbeats 4000000 in
theorem iX0_init_74 {w : zW} (pre : zS) (hp : pre.length = 74) : zMet w kX0_init 1 3 24 [.ref (w.1 + 74), .ref (w.1 + 15)] (pre ++ [.inr (0, [.null, .null, .null, .null, .int 0])]) none (pre ++ [.inr (0, [.ref (w.1 + 15), .ref (w.1 + 75), .ref (w.1 + 76), .ref (w.1 + 77), .int (0 : Int32)]), .inl (0, 8, .inl fun _ => 0), .inl (0, 8, .inl fun _ => 0), .inl (0, 8, .inl fun _ => 0)]) := by
  refine zMet_of (by decide) (Nat.le_of_ble_eq_true rfl) (Nat.le_refl _) fun _ => ?_
  show zR w kX0_init 1 3 24 none (pre ++ [.inr (0, [.ref (w.1 + 15), .ref (w.1 + 75), .ref (w.1 + 76), .ref (w.1 + 77), .int (0 : Int32)]), .inl (0, 8, .inl fun _ => 0), .inl (0, 8, .inl fun _ => 0), .inl (0, 8, .inl fun _ => 0)]) 0 [(0, .ref (w.1 + 74)), (1, .ref (w.1 + 15))] [] (pre ++ .inr (0, [.null, .null, .null, .null, .int 0]) :: [])
  refine zR_aload_n dX0_init_0 0 rfl ?_
  refine zR_objInit dX0_init_1 zo_X0_3 zo_1 zo_2 (Nat.le_of_ble_eq_true rfl) (Nat.le_of_ble_eq_true rfl) ?_
  refine zR_aload_n dX0_init_4 0 rfl ?_
  refine zR_bipush (x := (8 : Int32)) dX0_init_5 rfl ?_
  refine zK_newI (N := 8) (q := 75) hp dX0_init_7 zar_int (by decide) rfl (Nat.le_of_ble_eq_true rfl) (Nat.le_of_ble_eq_true rfl) (Nat.le_of_ble_eq_true rfl) rfl ?_
  refine zK_putF hp dX0_init_9 zf_X0_9 zt_X0_1 rfl ⟨_, _, rfl⟩ (Nat.le_of_ble_eq_true rfl) rfl rfl ?_
  refine zR_aload_n dX0_init_12 0 rfl ?_
  refine zR_bipush (x := (8 : Int32)) dX0_init_13 rfl ?_
  refine zK_newI (N := 8) (q := 76) hp dX0_init_15 zar_int (by decide) rfl (Nat.le_of_ble_eq_true rfl) (Nat.le_of_ble_eq_true rfl) (Nat.le_of_ble_eq_true rfl) rfl ?_
  refine zK_putF hp dX0_init_17 zf_X0_15 zt_X0_2 rfl ⟨_, _, rfl⟩ (Nat.le_of_ble_eq_true rfl) rfl rfl ?_
  refine zR_aload_n dX0_init_20 0 rfl ?_
  refine zR_bipush (x := (8 : Int32)) dX0_init_21 rfl ?_
  refine zK_newI (N := 8) (q := 77) hp dX0_init_23 zar_int (by decide) rfl (Nat.le_of_ble_eq_true rfl) (Nat.le_of_ble_eq_true rfl) (Nat.le_of_ble_eq_true rfl) rfl ?_
  refine zK_putF hp dX0_init_25 zf_X0_18 zt_X0_3 rfl ⟨_, _, rfl⟩ (Nat.le_of_ble_eq_true rfl) rfl rfl ?_
  refine zR_aload_n dX0_init_28 0 rfl ?_
  refine zR_iconst (x := (0 : Int32)) dX0_init_29 rfl ?_
  refine zK_put hp dX0_init_30 zf_X0_21 zt_X0_4 (Nat.le_of_ble_eq_true rfl) rfl rfl ?_
  refine zR_aload_n dX0_init_33 0 rfl ?_
  refine zR_aload_n dX0_init_34 1 rfl ?_
  refine zK_putF hp dX0_init_35 zf_X0_25 zt_X0_0 rfl ⟨_, _, rfl⟩ (Nat.le_of_ble_eq_true rfl) rfl rfl ?_
  exact zR_ret dX0_init_38 rfl
set_option maxRecDepth 100000 in
set_option maxHeartbeats 4000000 in
theorem iX3_init_78 {w : zW} (pre : zS) (hp : pre.length = 78) : zMet w kX3_init 1 3 0 [.ref (w.1 + 78), .ref (w.1 + 15), .int (0 : Int32)] (pre ++ [.inr (3, [.null, .null, .null, .null, .int 0, .int 0, .int 0, .int 0, .int 0])]) none (pre ++ [.inr (3, [.ref (w.1 + 15), .ref (w.1 + 79), .ref (w.1 + 80), .ref (w.1 + 81), .int (0 : Int32), .int (0 : Int32), .int (0 : Int32), .int (0 : Int32), .int (0 : Int32)]), .inl (0, 0, .inl fun _ => 0), .inl (0, 0, .inl fun _ => 0), .inl (0, 0, .inl fun _ => 0)]) := by
  refine zMet_of (by decide) (Nat.le_of_ble_eq_true rfl) (Nat.le_refl _) fun _ => ?_
  show zR w kX3_init 1 3 0 none (pre ++ [.inr (3, [.ref (w.1 + 15), .ref (w.1 + 79), .ref (w.1 + 80), .ref (w.1 + 81), .int (0 : Int32), .int (0 : Int32), .int (0 : Int32), .int (0 : Int32), .int (0 : Int32)]), .inl (0, 0, .inl fun _ => 0), .inl (0, 0, .inl fun _ => 0), .inl (0, 0, .inl fun _ => 0)]) 0 [(0, .ref (w.1 + 78)), (1, .ref (w.1 + 15)), (2, .int (0 : Int32))] [] (pre ++ .inr (3, [.null, .null, .null, .null, .int 0, .int 0, .int 0, .int 0, .int 0]) :: [])
  refine zR_aload_n dX3_init_0 0 rfl ?_
  refine zR_objInit dX3_init_1 zo_X3_5 zo_1 zo_2 (Nat.le_of_ble_eq_true rfl) (Nat.le_of_ble_eq_true rfl) ?_
  refine zR_aload_n dX3_init_4 0 rfl ?_
  refine zR_iconst (x := (0 : Int32)) dX3_init_5 rfl ?_
  refine zK_put hp dX3_init_6 zf_X3_11 zt_X3_4 (Nat.le_of_ble_eq_true rfl) rfl rfl ?_
  refine zR_aload_n dX3_init_9 0 rfl ?_
  refine zR_iconst (x := (0 : Int32)) dX3_init_10 rfl ?_
  refine zK_put hp dX3_init_11 zf_X3_15 zt_X3_5 (Nat.le_of_ble_eq_true rfl) rfl rfl ?_
  refine zR_aload_n dX3_init_14 0 rfl ?_
  refine zR_iconst (x := (0 : Int32)) dX3_init_15 rfl ?_
  refine zK_put hp dX3_init_16 zf_X3_18 zt_X3_6 (Nat.le_of_ble_eq_true rfl) rfl rfl ?_
  refine zR_aload_n dX3_init_19 0 rfl ?_
  refine zR_iconst (x := (0 : Int32)) dX3_init_20 rfl ?_
  refine zK_put hp dX3_init_21 zf_X3_21 zt_X3_7 (Nat.le_of_ble_eq_true rfl) rfl rfl ?_
  refine zR_aload_n dX3_init_24 0 rfl ?_
  refine zR_iconst (x := (0 : Int32)) dX3_init_25 rfl ?_
  refine zK_put hp dX3_init_26 zf_X3_24 zt_X3_8 (Nat.le_of_ble_eq_true rfl) rfl rfl ?_
  refine zR_aload_n dX3_init_29 0 rfl ?_
  refine zR_aload_n dX3_init_30 1 rfl ?_
  refine zK_putF hp dX3_init_31 zf_X3_27 zt_X3_0 rfl ⟨_, _, rfl⟩ (Nat.le_of_ble_eq_true rfl) rfl rfl ?_
  refine zR_aload_n dX3_init_34 0 rfl ?_
  refine zR_iload_n dX3_init_35 2 rfl ?_
  refine zR_if_eq_t (tgt := 44) dX3_init_36 (by decide) (by decide) ?_
  refine zR_iconst (x := (0 : Int32)) dX3_init_44 rfl ?_
  refine zK_newI (N := 0) (q := 79) hp dX3_init_45 zar_int (by decide) rfl (Nat.le_of_ble_eq_true rfl) (Nat.le_of_ble_eq_true rfl) (Nat.le_of_ble_eq_true rfl) rfl ?_
  refine zK_put hp dX3_init_47 zf_X3_31 zt_X3_1 (Nat.le_of_ble_eq_true rfl) rfl rfl ?_
  refine zR_aload_n dX3_init_50 0 rfl ?_
  refine zR_iload_n dX3_init_51 2 rfl ?_
  refine zR_if_eq_t (tgt := 60) dX3_init_52 (by decide) (by decide) ?_
  refine zR_iconst (x := (0 : Int32)) dX3_init_60 rfl ?_
  refine zK_newI (N := 0) (q := 80) hp dX3_init_61 zar_int (by decide) rfl (Nat.le_of_ble_eq_true rfl) (Nat.le_of_ble_eq_true rfl) (Nat.le_of_ble_eq_true rfl) rfl ?_
  refine zK_put hp dX3_init_63 zf_X3_35 zt_X3_2 (Nat.le_of_ble_eq_true rfl) rfl rfl ?_
  refine zR_aload_n dX3_init_66 0 rfl ?_
  refine zR_iload_n dX3_init_67 2 rfl ?_
  refine zR_if_eq_t (tgt := 77) dX3_init_68 (by decide) (by decide) ?_
  refine zR_iconst (x := (0 : Int32)) dX3_init_77 rfl ?_
  refine zK_newI (N := 0) (q := 81) hp dX3_init_78 zar_int (by decide) rfl (Nat.le_of_ble_eq_true rfl) (Nat.le_of_ble_eq_true rfl) (Nat.le_of_ble_eq_true rfl) rfl ?_
  refine zK_putF hp dX3_init_80 zf_X3_38 zt_X3_3 rfl ⟨_, _, rfl⟩ (Nat.le_of_ble_eq_true rfl) rfl rfl ?_
  exact zR_ret dX3_init_83 rfl
set_option maxRecDepth 100000 in
set_option maxHeartbeats 4000000 in
theorem iX4_init_82 {w : zW} (pre : zS) (hp : pre.length = 82) : zMet w kX4_init 1 5 60 [.ref (w.1 + 82), .ref (w.1 + 15)] (pre ++ [.inr (4, [.null, .null, .null, .null, .null, .null, .int 0])]) none (pre ++ [.inr (4, [.ref (w.1 + 15), .ref (w.1 + 83), .ref (w.1 + 84), .ref (w.1 + 85), .ref (w.1 + 86), .ref (w.1 + 87), .int (0 : Int32)]), .inl (3, 12, .inl fun _ => 0), .inl (0, 12, .inl fun _ => 0), .inl (0, 12, .inl fun _ => 0), .inl (0, 12, .inl fun _ => 0), .inl (0, 12, .inl fun _ => 0)]) := by
  refine zMet_of (by decide) (Nat.le_of_ble_eq_true rfl) (Nat.le_refl _) fun _ => ?_
  show zR w kX4_init 1 5 60 none (pre ++ [.inr (4, [.ref (w.1 + 15), .ref (w.1 + 83), .ref (w.1 + 84), .ref (w.1 + 85), .ref (w.1 + 86), .ref (w.1 + 87), .int (0 : Int32)]), .inl (3, 12, .inl fun _ => 0), .inl (0, 12, .inl fun _ => 0), .inl (0, 12, .inl fun _ => 0), .inl (0, 12, .inl fun _ => 0), .inl (0, 12, .inl fun _ => 0)]) 0 [(0, .ref (w.1 + 82)), (1, .ref (w.1 + 15))] [] (pre ++ .inr (4, [.null, .null, .null, .null, .null, .null, .int 0]) :: [])
  refine zR_aload_n dX4_init_0 0 rfl ?_
  refine zR_objInit dX4_init_1 zo_X4_3 zo_1 zo_2 (Nat.le_of_ble_eq_true rfl) (Nat.le_of_ble_eq_true rfl) ?_
  refine zR_aload_n dX4_init_4 0 rfl ?_
  refine zR_bipush (x := (12 : Int32)) dX4_init_5 rfl ?_
  refine zK_newZ (N := 12) (q := 83) hp dX4_init_7 zar_boolean (by decide) rfl (Nat.le_of_ble_eq_true rfl) (Nat.le_of_ble_eq_true rfl) (Nat.le_of_ble_eq_true rfl) rfl ?_
  refine zK_putF hp dX4_init_9 zf_X4_9 zt_X4_1 rfl ⟨_, _, rfl⟩ (Nat.le_of_ble_eq_true rfl) rfl rfl ?_
  refine zR_aload_n dX4_init_12 0 rfl ?_
  refine zR_bipush (x := (12 : Int32)) dX4_init_13 rfl ?_
  refine zK_newI (N := 12) (q := 84) hp dX4_init_15 zar_int (by decide) rfl (Nat.le_of_ble_eq_true rfl) (Nat.le_of_ble_eq_true rfl) (Nat.le_of_ble_eq_true rfl) rfl ?_
  refine zK_putF hp dX4_init_17 zf_X4_15 zt_X4_2 rfl ⟨_, _, rfl⟩ (Nat.le_of_ble_eq_true rfl) rfl rfl ?_
  refine zR_aload_n dX4_init_20 0 rfl ?_
  refine zR_bipush (x := (12 : Int32)) dX4_init_21 rfl ?_
  refine zK_newI (N := 12) (q := 85) hp dX4_init_23 zar_int (by decide) rfl (Nat.le_of_ble_eq_true rfl) (Nat.le_of_ble_eq_true rfl) (Nat.le_of_ble_eq_true rfl) rfl ?_
  refine zK_putF hp dX4_init_25 zf_X4_19 zt_X4_3 rfl ⟨_, _, rfl⟩ (Nat.le_of_ble_eq_true rfl) rfl rfl ?_
  refine zR_aload_n dX4_init_28 0 rfl ?_
  refine zR_bipush (x := (12 : Int32)) dX4_init_29 rfl ?_
  refine zK_newI (N := 12) (q := 86) hp dX4_init_31 zar_int (by decide) rfl (Nat.le_of_ble_eq_true rfl) (Nat.le_of_ble_eq_true rfl) (Nat.le_of_ble_eq_true rfl) rfl ?_
  refine zK_putF hp dX4_init_33 zf_X4_22 zt_X4_4 rfl ⟨_, _, rfl⟩ (Nat.le_of_ble_eq_true rfl) rfl rfl ?_
  refine zR_aload_n dX4_init_36 0 rfl ?_
  refine zR_bipush (x := (12 : Int32)) dX4_init_37 rfl ?_
  refine zK_newI (N := 12) (q := 87) hp dX4_init_39 zar_int (by decide) rfl (Nat.le_of_ble_eq_true rfl) (Nat.le_of_ble_eq_true rfl) (Nat.le_of_ble_eq_true rfl) rfl ?_
  refine zK_putF hp dX4_init_41 zf_X4_25 zt_X4_5 rfl ⟨_, _, rfl⟩ (Nat.le_of_ble_eq_true rfl) rfl rfl ?_
  refine zR_aload_n dX4_init_44 0 rfl ?_
  refine zR_iconst (x := (0 : Int32)) dX4_init_45 rfl ?_
  refine zK_put hp dX4_init_46 zf_X4_28 zt_X4_6 (Nat.le_of_ble_eq_true rfl) rfl rfl ?_
  refine zR_aload_n dX4_init_49 0 rfl ?_
  refine zR_aload_n dX4_init_50 1 rfl ?_
  refine zK_putF hp dX4_init_51 zf_X4_32 zt_X4_0 rfl ⟨_, _, rfl⟩ (Nat.le_of_ble_eq_true rfl) rfl rfl ?_
  exact zR_ret dX4_init_54 rfl
set_option maxRecDepth 100000 in
set_option maxHeartbeats 4000000 in
theorem iX1_init_64 {w : zW} (pre : zS) (hp : pre.length = 64) (ht : pre[15]? = some (.inr (9, [.ref (w.1 + 16), .ref (w.1 + 17), .ref (w.1 + 18), .ref (w.1 + 19), .ref (w.1 + 20), .ref (w.1 + 21), .ref (w.1 + 22), .ref (w.1 + 23), .ref (w.1 + 24), .ref (w.1 + 25), .ref (w.1 + 26), .ref (w.1 + 27), .ref (w.1 + 28)]))) : zMet w kX1_init 2 23 206 [.ref (w.1 + 64), .ref (w.1 + 15), .int (0 : Int32)] (pre ++ [.inr (1, [.null, .null, .null, .null, .null, .null, .null, .null, .long 0, .int 0, .int 0, .int 0, .int 0, .int 0, .int 0])]) none (pre ++ [.inr (1, [.ref (w.1 + 15), .ref (w.1 + 28), .ref (w.1 + 66), .ref (w.1 + 69), .ref (w.1 + 74), .ref (w.1 + 78), .ref (w.1 + 82), .ref (w.1 + 65), .long (0 : Int64), .int (0 : Int32), .int (0 : Int32), .int (0 : Int32), .int (0 : Int32), .int (0 : Int32), .int (0 : Int32)]), .inl (0, 16, .inl fun _ => 0), .inr (7, [.ref (w.1 + 28), .ref (w.1 + 67), .ref (w.1 + 68), .int (0 : Int32)]), .inl (0, 6, .inl fun _ => 0), .inl (0, 6, .inl fun _ => 0), .inr (8, [.ref (w.1 + 15), .ref (w.1 + 70), .ref (w.1 + 71), .ref (w.1 + 72), .ref (w.1 + 73)]), .inl (0, 16, .inl fun _ => 0), .inl (0, 16, .inl fun _ => 0), .inl (0, 16, .inl fun _ => 0), .inl (0, 16, .inl fun _ => 0), .inr (0, [.ref (w.1 + 15), .ref (w.1 + 75), .ref (w.1 + 76), .ref (w.1 + 77), .int (0 : Int32)]), .inl (0, 8, .inl fun _ => 0), .inl (0, 8, .inl fun _ => 0), .inl (0, 8, .inl fun _ => 0), .inr (3, [.ref (w.1 + 15), .ref (w.1 + 79), .ref (w.1 + 80), .ref (w.1 + 81), .int (0 : Int32), .int (0 : Int32), .int (0 : Int32), .int (0 : Int32), .int (0 : Int32)]), .inl (0, 0, .inl fun _ => 0), .inl (0, 0, .inl fun _ => 0), .inl (0, 0, .inl fun _ => 0), .inr (4, [.ref (w.1 + 15), .ref (w.1 + 83), .ref (w.1 + 84), .ref (w.1 + 85), .ref (w.1 + 86), .ref (w.1 + 87), .int (0 : Int32)]), .inl (3, 12, .inl fun _ => 0), .inl (0, 12, .inl fun _ => 0), .inl (0, 12, .inl fun _ => 0), .inl (0, 12, .inl fun _ => 0), .inl (0, 12, .inl fun _ => 0)]) := by
  refine zMet_of (by decide) (Nat.le_of_ble_eq_true rfl) (Nat.le_refl _) fun _ => ?_
  show zR w kX1_init 2 23 206 none (pre ++ [.inr (1, [.ref (w.1 + 15), .ref (w.1 + 28), .ref (w.1 + 66), .ref (w.1 + 69), .ref (w.1 + 74), .ref (w.1 + 78), .ref (w.1 + 82), .ref (w.1 + 65), .long (0 : Int64), .int (0 : Int32), .int (0 : Int32), .int (0 : Int32), .int (0 : Int32), .int (0 : Int32), .int (0 : Int32)]), .inl (0, 16, .inl fun _ => 0), .inr (7, [.ref (w.1 + 28), .ref (w.1 + 67), .ref (w.1 + 68), .int (0 : Int32)]), .inl (0, 6, .inl fun _ => 0), .inl (0, 6, .inl fun _ => 0), .inr (8, [.ref (w.1 + 15), .ref (w.1 + 70), .ref (w.1 + 71), .ref (w.1 + 72), .ref (w.1 + 73)]), .inl (0, 16, .inl fun _ => 0), .inl (0, 16, .inl fun _ => 0), .inl (0, 16, .inl fun _ => 0), .inl (0, 16, .inl fun _ => 0), .inr (0, [.ref (w.1 + 15), .ref (w.1 + 75), .ref (w.1 + 76), .ref (w.1 + 77), .int (0 : Int32)]), .inl (0, 8, .inl fun _ => 0), .inl (0, 8, .inl fun _ => 0), .inl (0, 8, .inl fun _ => 0), .inr (3, [.ref (w.1 + 15), .ref (w.1 + 79), .ref (w.1 + 80), .ref (w.1 + 81), .int (0 : Int32), .int (0 : Int32), .int (0 : Int32), .int (0 : Int32), .int (0 : Int32)]), .inl (0, 0, .inl fun _ => 0), .inl (0, 0, .inl fun _ => 0), .inl (0, 0, .inl fun _ => 0), .inr (4, [.ref (w.1 + 15), .ref (w.1 + 83), .ref (w.1 + 84), .ref (w.1 + 85), .ref (w.1 + 86), .ref (w.1 + 87), .int (0 : Int32)]), .inl (3, 12, .inl fun _ => 0), .inl (0, 12, .inl fun _ => 0), .inl (0, 12, .inl fun _ => 0), .inl (0, 12, .inl fun _ => 0), .inl (0, 12, .inl fun _ => 0)]) 0 [(0, .ref (w.1 + 64)), (1, .ref (w.1 + 15)), (2, .int (0 : Int32))] [] (pre ++ .inr (1, [.null, .null, .null, .null, .null, .null, .null, .null, .long 0, .int 0, .int 0, .int 0, .int 0, .int 0, .int 0]) :: [])
  refine zR_aload_n dX1_init_0 0 rfl ?_
  refine zR_objInit dX1_init_1 zo_X1_3 zo_1 zo_2 (Nat.le_of_ble_eq_true rfl) (Nat.le_of_ble_eq_true rfl) ?_
  refine zR_aload_n dX1_init_4 0 rfl ?_
  refine zR_bipush (x := (16 : Int32)) dX1_init_5 rfl ?_
  refine zK_newI (N := 16) (q := 65) hp dX1_init_7 zar_int (by decide) rfl (Nat.le_of_ble_eq_true rfl) (Nat.le_of_ble_eq_true rfl) (Nat.le_of_ble_eq_true rfl) rfl ?_
  refine zK_putF hp dX1_init_9 zf_X1_9 zt_X1_7 rfl ⟨_, _, rfl⟩ (Nat.le_of_ble_eq_true rfl) rfl rfl ?_
  refine zR_aload_n dX1_init_12 0 rfl ?_
  refine zR_lconst (x := (0 : Int64)) dX1_init_13 rfl ?_
  refine zK_put hp dX1_init_14 zf_X1_15 zt_X1_8 (Nat.le_of_ble_eq_true rfl) rfl rfl ?_
  refine zR_aload_n dX1_init_17 0 rfl ?_
  refine zR_iconst (x := (0 : Int32)) dX1_init_18 rfl ?_
  refine zK_put hp dX1_init_19 zf_X1_19 zt_X1_9 (Nat.le_of_ble_eq_true rfl) rfl rfl ?_
  refine zR_aload_n dX1_init_22 0 rfl ?_
  refine zR_iconst (x := (0 : Int32)) dX1_init_23 rfl ?_
  refine zK_put hp dX1_init_24 zf_X1_23 zt_X1_10 (Nat.le_of_ble_eq_true rfl) rfl rfl ?_
  refine zR_aload_n dX1_init_27 0 rfl ?_
  refine zR_iconst (x := (0 : Int32)) dX1_init_28 rfl ?_
  refine zK_put hp dX1_init_29 zf_X1_26 zt_X1_11 (Nat.le_of_ble_eq_true rfl) rfl rfl ?_
  refine zR_aload_n dX1_init_32 0 rfl ?_
  refine zR_iconst (x := (0 : Int32)) dX1_init_33 rfl ?_
  refine zK_put hp dX1_init_34 zf_X1_30 zt_X1_12 (Nat.le_of_ble_eq_true rfl) rfl rfl ?_
  refine zR_aload_n dX1_init_37 0 rfl ?_
  refine zR_iconst (x := (0 : Int32)) dX1_init_38 rfl ?_
  refine zK_put hp dX1_init_39 zf_X1_33 zt_X1_13 (Nat.le_of_ble_eq_true rfl) rfl rfl ?_
  refine zR_aload_n dX1_init_42 0 rfl ?_
  refine zR_iconst (x := (0 : Int32)) dX1_init_43 rfl ?_
  refine zK_put hp dX1_init_44 zf_X1_36 zt_X1_14 (Nat.le_of_ble_eq_true rfl) rfl rfl ?_
  refine zR_aload_n dX1_init_47 0 rfl ?_
  refine zR_aload_n dX1_init_48 1 rfl ?_
  refine zK_putF hp dX1_init_49 zf_X1_39 zt_X1_0 rfl ⟨_, _, rfl⟩ (Nat.le_of_ble_eq_true rfl) rfl rfl ?_
  refine zR_aload_n dX1_init_52 0 rfl ?_
  refine zR_aload_n dX1_init_53 1 rfl ?_
  refine zR_get dX1_init_54 zf_X1_43 (by rw [List.getElem?_append_left (by rw [hp]; decide)]; exact ht) rfl ?_
  refine zK_putF hp dX1_init_57 zf_X1_49 zt_X1_1 rfl ⟨_, _, rfl⟩ (Nat.le_of_ble_eq_true rfl) rfl rfl ?_
  refine zR_aload_n dX1_init_60 0 rfl ?_
  refine zK_new (q := 66) (fs := [.null, .null, .null, .int 0]) hp dX1_init_61 (ci := 7) (N := 4) (C := RX7) (T := TX7) rfl tyX7 tyX7_ok zb_X7 zin_X7 zn_X1_50.1 zn_X1_50.2.1 zn_X1_50.2.2 (Nat.le_of_ble_eq_true rfl) (Nat.le_of_ble_eq_true rfl) rfl ?_
  refine zR_dup dX1_init_64 rfl ?_
  refine zR_aload_n dX1_init_65 1 rfl ?_
  refine zR_get dX1_init_66 zf_X1_43 (by rw [List.getElem?_append_left (by rw [hp]; decide)]; exact ht) rfl ?_
  refine zK_callI (rest := [.ref (w.1 + 66), .ref (w.1 + 64)]) dX1_init_69 (iX7_init_66 (w := w) _ ((zp_len hp).trans rfl)) zci_X1_52 rfl rfl (Nat.le_of_ble_eq_true rfl) (Nat.le_of_ble_eq_true rfl) (Nat.le_of_ble_eq_true rfl) (Nat.le_of_ble_eq_true rfl) ?_
  refine zK_putF hp dX1_init_72 zf_X1_55 zt_X1_2 rfl ⟨_, _, rfl⟩ (Nat.le_of_ble_eq_true rfl) rfl rfl ?_
  refine zR_aload_n dX1_init_75 0 rfl ?_
  refine zK_new (q := 69) (fs := [.null, .null, .null, .null, .null]) hp dX1_init_76 (ci := 8) (N := 5) (C := RX8) (T := TX8) rfl tyX8 tyX8_ok zb_X8 zin_X8 zn_X1_59.1 zn_X1_59.2.1 zn_X1_59.2.2 (Nat.le_of_ble_eq_true rfl) (Nat.le_of_ble_eq_true rfl) rfl ?_
  refine zR_dup dX1_init_79 rfl ?_
  refine zR_aload_n dX1_init_80 1 rfl ?_
  refine zK_callI (rest := [.ref (w.1 + 69), .ref (w.1 + 64)]) dX1_init_81 (iX8_init_69 (w := w) _ ((zp_len hp).trans rfl)) zci_X1_61 rfl rfl (Nat.le_of_ble_eq_true rfl) (Nat.le_of_ble_eq_true rfl) (Nat.le_of_ble_eq_true rfl) (Nat.le_of_ble_eq_true rfl) ?_
  refine zK_putF hp dX1_init_84 zf_X1_64 zt_X1_3 rfl ⟨_, _, rfl⟩ (Nat.le_of_ble_eq_true rfl) rfl rfl ?_
  refine zR_aload_n dX1_init_87 0 rfl ?_
  refine zK_new (q := 74) (fs := [.null, .null, .null, .null, .int 0]) hp dX1_init_88 (ci := 0) (N := 5) (C := RX0) (T := TX0) rfl tyX0 tyX0_ok zb_X0 zin_X0 zn_X1_68.1 zn_X1_68.2.1 zn_X1_68.2.2 (Nat.le_of_ble_eq_true rfl) (Nat.le_of_ble_eq_true rfl) rfl ?_
  refine zR_dup dX1_init_91 rfl ?_
  refine zR_aload_n dX1_init_92 1 rfl ?_
  refine zK_callI (rest := [.ref (w.1 + 74), .ref (w.1 + 64)]) dX1_init_93 (iX0_init_74 (w := w) _ ((zp_len hp).trans rfl)) zci_X1_70 rfl rfl (Nat.le_of_ble_eq_true rfl) (Nat.le_of_ble_eq_true rfl) (Nat.le_of_ble_eq_true rfl) (Nat.le_of_ble_eq_true rfl) ?_
  refine zK_putF hp dX1_init_96 zf_X1_71 zt_X1_4 rfl ⟨_, _, rfl⟩ (Nat.le_of_ble_eq_true rfl) rfl rfl ?_
  refine zR_aload_n dX1_init_99 0 rfl ?_
  refine zK_new (q := 78) (fs := [.null, .null, .null, .null, .int 0, .int 0, .int 0, .int 0, .int 0]) hp dX1_init_100 (ci := 3) (N := 9) (C := RX3) (T := TX3) rfl tyX3 tyX3_ok zb_X3 zin_X3 zn_X1_75.1 zn_X1_75.2.1 zn_X1_75.2.2 (Nat.le_of_ble_eq_true rfl) (Nat.le_of_ble_eq_true rfl) rfl ?_
  refine zR_dup dX1_init_103 rfl ?_
  refine zR_aload_n dX1_init_104 1 rfl ?_
  refine zR_iload_n dX1_init_105 2 rfl ?_
  refine zK_callI (rest := [.ref (w.1 + 78), .ref (w.1 + 64)]) dX1_init_106 (iX3_init_78 (w := w) _ ((zp_len hp).trans rfl)) zci_X1_77 rfl rfl (Nat.le_of_ble_eq_true rfl) (Nat.le_of_ble_eq_true rfl) (Nat.le_of_ble_eq_true rfl) (Nat.le_of_ble_eq_true rfl) ?_
  refine zK_putF hp dX1_init_109 zf_X1_80 zt_X1_5 rfl ⟨_, _, rfl⟩ (Nat.le_of_ble_eq_true rfl) rfl rfl ?_
  refine zR_aload_n dX1_init_112 0 rfl ?_
  refine zK_new (q := 82) (fs := [.null, .null, .null, .null, .null, .null, .int 0]) hp dX1_init_113 (ci := 4) (N := 7) (C := RX4) (T := TX4) rfl tyX4 tyX4_ok zb_X4 zin_X4 zn_X1_84.1 zn_X1_84.2.1 zn_X1_84.2.2 (Nat.le_of_ble_eq_true rfl) (Nat.le_of_ble_eq_true rfl) rfl ?_
  refine zR_dup dX1_init_116 rfl ?_
  refine zR_aload_n dX1_init_117 1 rfl ?_
  refine zK_callI (rest := [.ref (w.1 + 82), .ref (w.1 + 64)]) dX1_init_118 (iX4_init_82 (w := w) _ ((zp_len hp).trans rfl)) zci_X1_86 rfl rfl (Nat.le_of_ble_eq_true rfl) (Nat.le_of_ble_eq_true rfl) (Nat.le_of_ble_eq_true rfl) (Nat.le_of_ble_eq_true rfl) ?_
  refine zK_putF hp dX1_init_121 zf_X1_87 zt_X1_6 rfl ⟨_, _, rfl⟩ (Nat.le_of_ble_eq_true rfl) rfl rfl ?_
  exact zR_ret dX1_init_124 rfl
set_option maxRecDepth 100000 in
set_option maxHeartbeats 4000000 in
theorem iX11_init_0 {w : zW} (pre : zS) (hp : pre.length = 0) : zMet w kX11_init 5 87 12616 [.ref (w.1 + 0)] (pre ++ [.inr (11, [.null, .int 0, .null, .null, .null, .int 0, .null, .int 0, .null, .int 0, .null, .null, .int 0, .null])]) none (pre ++ [.inr (11, [.ref (w.1 + 1), .int (0 : Int32), .ref (w.1 + 2), .ref (w.1 + 7), .ref (w.1 + 9), .int (-1 : Int32), .ref (w.1 + 15), .int (0 : Int32), .ref (w.1 + 38), .int (0 : Int32), .ref (w.1 + 62), .ref (w.1 + 63), .int (0 : Int32), .ref (w.1 + 64)]), .inl (1, 4000, .inl fun _ => 0), .inr (10, [.ref (w.1 + 3), .ref (w.1 + 4), .ref (w.1 + 5), .ref (w.1 + 6), .int (0 : Int32), .int (0 : Int32), .int (-1 : Int32)]), .inl (2, 27, .inr (.inl zWordsF)), .inl (1, 1002, .inl fun _ => 0), .inl (0, 1002, .inl fun _ => 0), .inl (2, 1002, .inr (.inl fun _ => 0)), .inr (2, [.ref (w.1 + 2), .int (0 : Int32), .ref (w.1 + 8)]), .inl (0, 27, .inl fun _ => 0), .inr (5, [.ref (w.1 + 2), .ref (w.1 + 10), .ref (w.1 + 11), .ref (w.1 + 12), .int (0 : Int32), .ref (w.1 + 13), .ref (w.1 + 14)]), .inl (2, 76, .inr (.inl fun _ => 0)), .inl (0, 76, .inl fun _ => 0), .inl (0, 76, .inl fun _ => 0), .inl (0, 27, .inl fun _ => 0), .inl (2, 12, .inr (.inl fun _ => 0)), .inr (9, [.ref (w.1 + 16), .ref (w.1 + 17), .ref (w.1 + 18), .ref (w.1 + 19), .ref (w.1 + 20), .ref (w.1 + 21), .ref (w.1 + 22), .ref (w.1 + 23), .ref (w.1 + 24), .ref (w.1 + 25), .ref (w.1 + 26), .ref (w.1 + 27), .ref (w.1 + 28)]), .inl (0, 27, .inl fun _ => 0), .inl (0, 16, .inl fun _ => 0), .inl (0, 8, .inl fun _ => 0), .inl (0, 8, .inl fun _ => 0), .inl (0, 16, .inl fun _ => 0), .inl (0, 24, .inl fun _ => 0), .inl (0, 24, .inl fun _ => 0), .inl (0, 24, .inl fun _ => 0), .inl (0, 16, .inl fun _ => 0), .inl (0, 12, .inl fun _ => 0), .inl (0, 12, .inl fun _ => 0), .inl (0, 12, .inl fun _ => 0), .inr (6, [.ref (w.1 + 29), .ref (w.1 + 30), .int (0 : Int32), .int (0 : Int32), .ref (w.1 + 31), .ref (w.1 + 32), .ref (w.1 + 33), .ref (w.1 + 34), .ref (w.1 + 35), .ref (w.1 + 36), .ref (w.1 + 37), .int (-1 : Int32)]), .inl (1, 1000, .inl fun _ => 0), .inl (0, 1000, .inl fun _ => 0), .inl (0, 13, .inl fun _ => 0), .inl (0, 80, .inl fun _ => 0), .inl (0, 80, .inl fun _ => 0), .inl (0, 80, .inl fun _ => 0), .inl (3, 80, .inl fun _ => 0), .inl (3, 80, .inl fun _ => 0), .inl (0, 24, .inl fun _ => 0), .inr (1, [.ref (w.1 + 15), .ref (w.1 + 28), .ref (w.1 + 40), .ref (w.1 + 43), .ref (w.1 + 48), .ref (w.1 + 52), .ref (w.1 + 56), .ref (w.1 + 39), .long (0 : Int64), .int (0 : Int32), .int (0 : Int32), .int (0 : Int32), .int (0 : Int32), .int (0 : Int32), .int (0 : Int32)]), .inl (0, 16, .inl fun _ => 0), .inr (7, [.ref (w.1 + 28), .ref (w.1 + 41), .ref (w.1 + 42), .int (0 : Int32)]), .inl (0, 6, .inl fun _ => 0), .inl (0, 6, .inl fun _ => 0), .inr (8, [.ref (w.1 + 15), .ref (w.1 + 44), .ref (w.1 + 45), .ref (w.1 + 46), .ref (w.1 + 47)]), .inl (0, 16, .inl fun _ => 0), .inl (0, 16, .inl fun _ => 0), .inl (0, 16, .inl fun _ => 0), .inl (0, 16, .inl fun _ => 0), .inr (0, [.ref (w.1 + 15), .ref (w.1 + 49), .ref (w.1 + 50), .ref (w.1 + 51), .int (0 : Int32)]), .inl (0, 8, .inl fun _ => 0), .inl (0, 8, .inl fun _ => 0), .inl (0, 8, .inl fun _ => 0), .inr (3, [.ref (w.1 + 15), .ref (w.1 + 53), .ref (w.1 + 54), .ref (w.1 + 55), .int (0 : Int32), .int (0 : Int32), .int (0 : Int32), .int (0 : Int32), .int (0 : Int32)]), .inl (0, 120, .inl fun _ => 0), .inl (0, 120, .inl fun _ => 0), .inl (0, 729, .inl fun _ => 0), .inr (4, [.ref (w.1 + 15), .ref (w.1 + 57), .ref (w.1 + 58), .ref (w.1 + 59), .ref (w.1 + 60), .ref (w.1 + 61), .int (0 : Int32)]), .inl (3, 12, .inl fun _ => 0), .inl (0, 12, .inl fun _ => 0), .inl (0, 12, .inl fun _ => 0), .inl (0, 12, .inl fun _ => 0), .inl (0, 12, .inl fun _ => 0), .inl (0, 600, .inl fun _ => 0), .inl (0, 600, .inl fun _ => 0), .inr (1, [.ref (w.1 + 15), .ref (w.1 + 28), .ref (w.1 + 66), .ref (w.1 + 69), .ref (w.1 + 74), .ref (w.1 + 78), .ref (w.1 + 82), .ref (w.1 + 65), .long (0 : Int64), .int (0 : Int32), .int (0 : Int32), .int (0 : Int32), .int (0 : Int32), .int (0 : Int32), .int (0 : Int32)]), .inl (0, 16, .inl fun _ => 0), .inr (7, [.ref (w.1 + 28), .ref (w.1 + 67), .ref (w.1 + 68), .int (0 : Int32)]), .inl (0, 6, .inl fun _ => 0), .inl (0, 6, .inl fun _ => 0), .inr (8, [.ref (w.1 + 15), .ref (w.1 + 70), .ref (w.1 + 71), .ref (w.1 + 72), .ref (w.1 + 73)]), .inl (0, 16, .inl fun _ => 0), .inl (0, 16, .inl fun _ => 0), .inl (0, 16, .inl fun _ => 0), .inl (0, 16, .inl fun _ => 0), .inr (0, [.ref (w.1 + 15), .ref (w.1 + 75), .ref (w.1 + 76), .ref (w.1 + 77), .int (0 : Int32)]), .inl (0, 8, .inl fun _ => 0), .inl (0, 8, .inl fun _ => 0), .inl (0, 8, .inl fun _ => 0), .inr (3, [.ref (w.1 + 15), .ref (w.1 + 79), .ref (w.1 + 80), .ref (w.1 + 81), .int (0 : Int32), .int (0 : Int32), .int (0 : Int32), .int (0 : Int32), .int (0 : Int32)]), .inl (0, 0, .inl fun _ => 0), .inl (0, 0, .inl fun _ => 0), .inl (0, 0, .inl fun _ => 0), .inr (4, [.ref (w.1 + 15), .ref (w.1 + 83), .ref (w.1 + 84), .ref (w.1 + 85), .ref (w.1 + 86), .ref (w.1 + 87), .int (0 : Int32)]), .inl (3, 12, .inl fun _ => 0), .inl (0, 12, .inl fun _ => 0), .inl (0, 12, .inl fun _ => 0), .inl (0, 12, .inl fun _ => 0), .inl (0, 12, .inl fun _ => 0)]) := by
  refine zMet_of (by decide) (Nat.le_of_ble_eq_true rfl) (Nat.le_refl _) fun _ => ?_
  show zR w kX11_init 5 87 12616 none (pre ++ [.inr (11, [.ref (w.1 + 1), .int (0 : Int32), .ref (w.1 + 2), .ref (w.1 + 7), .ref (w.1 + 9), .int (-1 : Int32), .ref (w.1 + 15), .int (0 : Int32), .ref (w.1 + 38), .int (0 : Int32), .ref (w.1 + 62), .ref (w.1 + 63), .int (0 : Int32), .ref (w.1 + 64)]), .inl (1, 4000, .inl fun _ => 0), .inr (10, [.ref (w.1 + 3), .ref (w.1 + 4), .ref (w.1 + 5), .ref (w.1 + 6), .int (0 : Int32), .int (0 : Int32), .int (-1 : Int32)]), .inl (2, 27, .inr (.inl zWordsF)), .inl (1, 1002, .inl fun _ => 0), .inl (0, 1002, .inl fun _ => 0), .inl (2, 1002, .inr (.inl fun _ => 0)), .inr (2, [.ref (w.1 + 2), .int (0 : Int32), .ref (w.1 + 8)]), .inl (0, 27, .inl fun _ => 0), .inr (5, [.ref (w.1 + 2), .ref (w.1 + 10), .ref (w.1 + 11), .ref (w.1 + 12), .int (0 : Int32), .ref (w.1 + 13), .ref (w.1 + 14)]), .inl (2, 76, .inr (.inl fun _ => 0)), .inl (0, 76, .inl fun _ => 0), .inl (0, 76, .inl fun _ => 0), .inl (0, 27, .inl fun _ => 0), .inl (2, 12, .inr (.inl fun _ => 0)), .inr (9, [.ref (w.1 + 16), .ref (w.1 + 17), .ref (w.1 + 18), .ref (w.1 + 19), .ref (w.1 + 20), .ref (w.1 + 21), .ref (w.1 + 22), .ref (w.1 + 23), .ref (w.1 + 24), .ref (w.1 + 25), .ref (w.1 + 26), .ref (w.1 + 27), .ref (w.1 + 28)]), .inl (0, 27, .inl fun _ => 0), .inl (0, 16, .inl fun _ => 0), .inl (0, 8, .inl fun _ => 0), .inl (0, 8, .inl fun _ => 0), .inl (0, 16, .inl fun _ => 0), .inl (0, 24, .inl fun _ => 0), .inl (0, 24, .inl fun _ => 0), .inl (0, 24, .inl fun _ => 0), .inl (0, 16, .inl fun _ => 0), .inl (0, 12, .inl fun _ => 0), .inl (0, 12, .inl fun _ => 0), .inl (0, 12, .inl fun _ => 0), .inr (6, [.ref (w.1 + 29), .ref (w.1 + 30), .int (0 : Int32), .int (0 : Int32), .ref (w.1 + 31), .ref (w.1 + 32), .ref (w.1 + 33), .ref (w.1 + 34), .ref (w.1 + 35), .ref (w.1 + 36), .ref (w.1 + 37), .int (-1 : Int32)]), .inl (1, 1000, .inl fun _ => 0), .inl (0, 1000, .inl fun _ => 0), .inl (0, 13, .inl fun _ => 0), .inl (0, 80, .inl fun _ => 0), .inl (0, 80, .inl fun _ => 0), .inl (0, 80, .inl fun _ => 0), .inl (3, 80, .inl fun _ => 0), .inl (3, 80, .inl fun _ => 0), .inl (0, 24, .inl fun _ => 0), .inr (1, [.ref (w.1 + 15), .ref (w.1 + 28), .ref (w.1 + 40), .ref (w.1 + 43), .ref (w.1 + 48), .ref (w.1 + 52), .ref (w.1 + 56), .ref (w.1 + 39), .long (0 : Int64), .int (0 : Int32), .int (0 : Int32), .int (0 : Int32), .int (0 : Int32), .int (0 : Int32), .int (0 : Int32)]), .inl (0, 16, .inl fun _ => 0), .inr (7, [.ref (w.1 + 28), .ref (w.1 + 41), .ref (w.1 + 42), .int (0 : Int32)]), .inl (0, 6, .inl fun _ => 0), .inl (0, 6, .inl fun _ => 0), .inr (8, [.ref (w.1 + 15), .ref (w.1 + 44), .ref (w.1 + 45), .ref (w.1 + 46), .ref (w.1 + 47)]), .inl (0, 16, .inl fun _ => 0), .inl (0, 16, .inl fun _ => 0), .inl (0, 16, .inl fun _ => 0), .inl (0, 16, .inl fun _ => 0), .inr (0, [.ref (w.1 + 15), .ref (w.1 + 49), .ref (w.1 + 50), .ref (w.1 + 51), .int (0 : Int32)]), .inl (0, 8, .inl fun _ => 0), .inl (0, 8, .inl fun _ => 0), .inl (0, 8, .inl fun _ => 0), .inr (3, [.ref (w.1 + 15), .ref (w.1 + 53), .ref (w.1 + 54), .ref (w.1 + 55), .int (0 : Int32), .int (0 : Int32), .int (0 : Int32), .int (0 : Int32), .int (0 : Int32)]), .inl (0, 120, .inl fun _ => 0), .inl (0, 120, .inl fun _ => 0), .inl (0, 729, .inl fun _ => 0), .inr (4, [.ref (w.1 + 15), .ref (w.1 + 57), .ref (w.1 + 58), .ref (w.1 + 59), .ref (w.1 + 60), .ref (w.1 + 61), .int (0 : Int32)]), .inl (3, 12, .inl fun _ => 0), .inl (0, 12, .inl fun _ => 0), .inl (0, 12, .inl fun _ => 0), .inl (0, 12, .inl fun _ => 0), .inl (0, 12, .inl fun _ => 0), .inl (0, 600, .inl fun _ => 0), .inl (0, 600, .inl fun _ => 0), .inr (1, [.ref (w.1 + 15), .ref (w.1 + 28), .ref (w.1 + 66), .ref (w.1 + 69), .ref (w.1 + 74), .ref (w.1 + 78), .ref (w.1 + 82), .ref (w.1 + 65), .long (0 : Int64), .int (0 : Int32), .int (0 : Int32), .int (0 : Int32), .int (0 : Int32), .int (0 : Int32), .int (0 : Int32)]), .inl (0, 16, .inl fun _ => 0), .inr (7, [.ref (w.1 + 28), .ref (w.1 + 67), .ref (w.1 + 68), .int (0 : Int32)]), .inl (0, 6, .inl fun _ => 0), .inl (0, 6, .inl fun _ => 0), .inr (8, [.ref (w.1 + 15), .ref (w.1 + 70), .ref (w.1 + 71), .ref (w.1 + 72), .ref (w.1 + 73)]), .inl (0, 16, .inl fun _ => 0), .inl (0, 16, .inl fun _ => 0), .inl (0, 16, .inl fun _ => 0), .inl (0, 16, .inl fun _ => 0), .inr (0, [.ref (w.1 + 15), .ref (w.1 + 75), .ref (w.1 + 76), .ref (w.1 + 77), .int (0 : Int32)]), .inl (0, 8, .inl fun _ => 0), .inl (0, 8, .inl fun _ => 0), .inl (0, 8, .inl fun _ => 0), .inr (3, [.ref (w.1 + 15), .ref (w.1 + 79), .ref (w.1 + 80), .ref (w.1 + 81), .int (0 : Int32), .int (0 : Int32), .int (0 : Int32), .int (0 : Int32), .int (0 : Int32)]), .inl (0, 0, .inl fun _ => 0), .inl (0, 0, .inl fun _ => 0), .inl (0, 0, .inl fun _ => 0), .inr (4, [.ref (w.1 + 15), .ref (w.1 + 83), .ref (w.1 + 84), .ref (w.1 + 85), .ref (w.1 + 86), .ref (w.1 + 87), .int (0 : Int32)]), .inl (3, 12, .inl fun _ => 0), .inl (0, 12, .inl fun _ => 0), .inl (0, 12, .inl fun _ => 0), .inl (0, 12, .inl fun _ => 0), .inl (0, 12, .inl fun _ => 0)]) 0 [(0, .ref (w.1 + 0))] [] (pre ++ .inr (11, [.null, .int 0, .null, .null, .null, .int 0, .null, .int 0, .null, .int 0, .null, .null, .int 0, .null]) :: [])
  refine zR_aload_n dX11_init_0 0 rfl ?_
  refine zR_objInit dX11_init_1 zo_X11_3 zo_1 zo_2 (Nat.le_of_ble_eq_true rfl) (Nat.le_of_ble_eq_true rfl) ?_
  refine zR_aload_n dX11_init_4 0 rfl ?_
  refine zR_sipush (x := (4000 : Int32)) dX11_init_5 rfl ?_
  refine zK_newB (N := 4000) (q := 1) hp dX11_init_8 zar_byte (by decide) rfl (Nat.le_of_ble_eq_true rfl) (Nat.le_of_ble_eq_true rfl) (Nat.le_of_ble_eq_true rfl) rfl ?_
  refine zK_putF hp dX11_init_10 zf_X11_9 zt_X11_0 rfl ⟨_, _, rfl⟩ (Nat.le_of_ble_eq_true rfl) rfl rfl ?_
  refine zR_aload_n dX11_init_13 0 rfl ?_
  refine zR_iconst (x := (0 : Int32)) dX11_init_14 rfl ?_
  refine zK_put hp dX11_init_15 zf_X11_13 zt_X11_1 (Nat.le_of_ble_eq_true rfl) rfl rfl ?_
  refine zR_aload_n dX11_init_18 0 rfl ?_
  refine zK_new (q := 2) (fs := [.null, .null, .null, .null, .int 0, .int 0, .int 0]) hp dX11_init_19 (ci := 10) (N := 7) (C := RX10) (T := TX10) rfl tyX10 tyX10_ok zb_X10 zin_X10 zn_X11_17.1 zn_X11_17.2.1 zn_X11_17.2.2 (Nat.le_of_ble_eq_true rfl) (Nat.le_of_ble_eq_true rfl) rfl ?_
  refine zR_dup dX11_init_22 rfl ?_
  refine zK_callI (rest := [.ref (w.1 + 2), .ref (w.1 + 0)]) dX11_init_23 (iX10_init_2 (w := w) _ ((zp_len hp).trans rfl)) zci_X11_19 rfl rfl (Nat.le_of_ble_eq_true rfl) (Nat.le_of_ble_eq_true rfl) (Nat.le_of_ble_eq_true rfl) (Nat.le_of_ble_eq_true rfl) ?_
  refine zK_putF hp dX11_init_26 zf_X11_20 zt_X11_2 rfl ⟨_, _, rfl⟩ (Nat.le_of_ble_eq_true rfl) rfl rfl ?_
  refine zR_aload_n dX11_init_29 0 rfl ?_
  refine zK_new (q := 7) (fs := [.null, .int 0, .null]) hp dX11_init_30 (ci := 2) (N := 3) (C := RX2) (T := TX2) rfl tyX2 tyX2_ok zb_X2 zin_X2 zn_X11_24.1 zn_X11_24.2.1 zn_X11_24.2.2 (Nat.le_of_ble_eq_true rfl) (Nat.le_of_ble_eq_true rfl) rfl ?_
  refine zR_dup dX11_init_33 rfl ?_
  refine zR_aload_n dX11_init_34 0 rfl ?_
  refine zK_get hp dX11_init_35 zf_X11_20 rfl ?_
  refine zK_callI (rest := [.ref (w.1 + 7), .ref (w.1 + 0)]) dX11_init_38 (iX2_init_7 (w := w) _ ((zp_len hp).trans rfl)) zci_X11_26 rfl rfl (Nat.le_of_ble_eq_true rfl) (Nat.le_of_ble_eq_true rfl) (Nat.le_of_ble_eq_true rfl) (Nat.le_of_ble_eq_true rfl) ?_
  refine zK_putF hp dX11_init_41 zf_X11_29 zt_X11_3 rfl ⟨_, _, rfl⟩ (Nat.le_of_ble_eq_true rfl) rfl rfl ?_
  refine zR_aload_n dX11_init_44 0 rfl ?_
  refine zK_new (q := 9) (fs := [.null, .null, .null, .null, .int 0, .null, .null]) hp dX11_init_45 (ci := 5) (N := 7) (C := RX5) (T := TX5) rfl tyX5 tyX5_ok zb_X5 zin_X5 zn_X11_33.1 zn_X11_33.2.1 zn_X11_33.2.2 (Nat.le_of_ble_eq_true rfl) (Nat.le_of_ble_eq_true rfl) rfl ?_
  refine zR_dup dX11_init_48 rfl ?_
  refine zR_aload_n dX11_init_49 0 rfl ?_
  refine zK_get hp dX11_init_50 zf_X11_20 rfl ?_
  refine zK_callI (rest := [.ref (w.1 + 9), .ref (w.1 + 0)]) dX11_init_53 (iX5_init_9 (w := w) _ ((zp_len hp).trans rfl)) zci_X11_35 rfl rfl (Nat.le_of_ble_eq_true rfl) (Nat.le_of_ble_eq_true rfl) (Nat.le_of_ble_eq_true rfl) (Nat.le_of_ble_eq_true rfl) ?_
  refine zK_putF hp dX11_init_56 zf_X11_36 zt_X11_4 rfl ⟨_, _, rfl⟩ (Nat.le_of_ble_eq_true rfl) rfl rfl ?_
  refine zR_aload_n dX11_init_59 0 rfl ?_
  refine zR_iconst (x := (-1 : Int32)) dX11_init_60 (by decide) ?_
  refine zK_put hp dX11_init_61 zf_X11_40 zt_X11_5 (Nat.le_of_ble_eq_true rfl) rfl rfl ?_
  refine zR_aload_n dX11_init_64 0 rfl ?_
  refine zK_new (q := 15) (fs := [.null, .null, .null, .null, .null, .null, .null, .null, .null, .null, .null, .null, .null]) hp dX11_init_65 (ci := 9) (N := 13) (C := RX9) (T := TX9) rfl tyX9 tyX9_ok zb_X9 zin_X9 zn_X11_43.1 zn_X11_43.2.1 zn_X11_43.2.2 (Nat.le_of_ble_eq_true rfl) (Nat.le_of_ble_eq_true rfl) rfl ?_
  refine zR_dup dX11_init_68 rfl ?_
  refine zK_callIN (m := 0) (host := "SilverBall") (rest := [.ref (w.1 + 15), .ref (w.1 + 0)]) dX11_init_69 (iX9_init_15 (w := w) _ ((zp_len hp).trans rfl)) (fun s h => h.1) zq_X9_init.1 zq_X9_init.2 ⟨by decide +kernel, by decide +kernel, by decide +kernel⟩ (by decide) zqi_X9_init rfl rfl rfl rfl (Nat.le_of_ble_eq_true rfl) (Nat.le_of_ble_eq_true rfl) (Nat.le_of_ble_eq_true rfl) (Nat.le_of_ble_eq_true rfl) ?_
  refine zK_putF hp dX11_init_72 zf_X11_46 zt_X11_6 rfl ⟨_, _, rfl⟩ (Nat.le_of_ble_eq_true rfl) rfl rfl ?_
  refine zR_aload_n dX11_init_75 0 rfl ?_
  refine zR_iconst (x := (0 : Int32)) dX11_init_76 rfl ?_
  refine zK_put hp dX11_init_77 zf_X11_50 zt_X11_7 (Nat.le_of_ble_eq_true rfl) rfl rfl ?_
  refine zR_aload_n dX11_init_80 0 rfl ?_
  refine zK_new (q := 38) (fs := [.null, .null, .null, .null, .null, .null, .null, .null, .long 0, .int 0, .int 0, .int 0, .int 0, .int 0, .int 0]) hp dX11_init_81 (ci := 1) (N := 15) (C := RX1) (T := TX1) rfl tyX1 tyX1_ok zb_X1 zin_X1 zn_X11_54.1 zn_X11_54.2.1 zn_X11_54.2.2 (Nat.le_of_ble_eq_true rfl) (Nat.le_of_ble_eq_true rfl) rfl ?_
  refine zR_dup dX11_init_84 rfl ?_
  refine zR_aload_n dX11_init_85 0 rfl ?_
  refine zK_get hp dX11_init_86 zf_X11_46 rfl ?_
  refine zR_iconst (x := (1 : Int32)) dX11_init_89 rfl ?_
  refine zK_callI (rest := [.ref (w.1 + 38), .ref (w.1 + 0)]) dX11_init_90 (iX1_init_38 (w := w) _ ((zp_len hp).trans rfl) ((zp_tl (j := 14) hp rfl).trans rfl)) zci_X11_56 rfl rfl (Nat.le_of_ble_eq_true rfl) (Nat.le_of_ble_eq_true rfl) (Nat.le_of_ble_eq_true rfl) (Nat.le_of_ble_eq_true rfl) ?_
  refine zK_putF hp dX11_init_93 zf_X11_59 zt_X11_8 rfl ⟨_, _, rfl⟩ (Nat.le_of_ble_eq_true rfl) rfl rfl ?_
  refine zR_aload_n dX11_init_96 0 rfl ?_
  refine zR_iconst (x := (0 : Int32)) dX11_init_97 rfl ?_
  refine zK_put hp dX11_init_98 zf_X11_63 zt_X11_9 (Nat.le_of_ble_eq_true rfl) rfl rfl ?_
  refine zR_aload_n dX11_init_101 0 rfl ?_
  refine zR_sipush (x := (600 : Int32)) dX11_init_102 rfl ?_
  refine zK_newI (N := 600) (q := 62) hp dX11_init_105 zar_int (by decide) rfl (Nat.le_of_ble_eq_true rfl) (Nat.le_of_ble_eq_true rfl) (Nat.le_of_ble_eq_true rfl) rfl ?_
  refine zK_putF hp dX11_init_107 zf_X11_66 zt_X11_10 rfl ⟨_, _, rfl⟩ (Nat.le_of_ble_eq_true rfl) rfl rfl ?_
  refine zR_aload_n dX11_init_110 0 rfl ?_
  refine zR_sipush (x := (600 : Int32)) dX11_init_111 rfl ?_
  refine zK_newI (N := 600) (q := 63) hp dX11_init_114 zar_int (by decide) rfl (Nat.le_of_ble_eq_true rfl) (Nat.le_of_ble_eq_true rfl) (Nat.le_of_ble_eq_true rfl) rfl ?_
  refine zK_putF hp dX11_init_116 zf_X11_70 zt_X11_11 rfl ⟨_, _, rfl⟩ (Nat.le_of_ble_eq_true rfl) rfl rfl ?_
  refine zR_aload_n dX11_init_119 0 rfl ?_
  refine zR_iconst (x := (0 : Int32)) dX11_init_120 rfl ?_
  refine zK_put hp dX11_init_121 zf_X11_73 zt_X11_12 (Nat.le_of_ble_eq_true rfl) rfl rfl ?_
  refine zR_aload_n dX11_init_124 0 rfl ?_
  refine zK_new (q := 64) (fs := [.null, .null, .null, .null, .null, .null, .null, .null, .long 0, .int 0, .int 0, .int 0, .int 0, .int 0, .int 0]) hp dX11_init_125 (ci := 1) (N := 15) (C := RX1) (T := TX1) rfl tyX1 tyX1_ok zb_X1 zin_X1 zn_X11_54.1 zn_X11_54.2.1 zn_X11_54.2.2 (Nat.le_of_ble_eq_true rfl) (Nat.le_of_ble_eq_true rfl) rfl ?_
  refine zR_dup dX11_init_128 rfl ?_
  refine zR_aload_n dX11_init_129 0 rfl ?_
  refine zK_get hp dX11_init_130 zf_X11_46 rfl ?_
  refine zR_iconst (x := (0 : Int32)) dX11_init_133 rfl ?_
  refine zK_callI (rest := [.ref (w.1 + 64), .ref (w.1 + 0)]) dX11_init_134 (iX1_init_64 (w := w) _ ((zp_len hp).trans rfl) ((zp_tl (j := 14) hp rfl).trans rfl)) zci_X11_56 rfl rfl (Nat.le_of_ble_eq_true rfl) (Nat.le_of_ble_eq_true rfl) (Nat.le_of_ble_eq_true rfl) (Nat.le_of_ble_eq_true rfl) ?_
  refine zK_putF hp dX11_init_137 zf_X11_76 zt_X11_13 rfl ⟨_, _, rfl⟩ (Nat.le_of_ble_eq_true rfl) rfl rfl ?_
  exact zR_ret dX11_init_140 rfl
