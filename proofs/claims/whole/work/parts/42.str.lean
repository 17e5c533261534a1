/-! ===== the text of the words: String.length and charAt on it ===== -/
abbrev kLen : zM := (yJ0_length_8abf5, cJ0_length_8abf5, 1, (some .int))
abbrev kCod : zM := (yJ0_coder_7d493, cJ0_coder_7d493, 1, (some .byte))
abbrev kLat : zM := (yJ0_isLatin1_aae02, cJ0_isLatin1_aae02, 1, (some .boolean))
abbrev kChr : zM := (yJ0_charAt_5068e, cJ0_charAt_5068e, 2, (some .char))
abbrev kLch : zM := (yJ1_charAt_3b067, cJ1_charAt_3b067, 2, (some .char))
abbrev kChk : zM := (yJ0_checkIndex_df160, cJ0_checkIndex_df160, 2, none)
abbrev kPre : zM := (yJ3_checkIndex_8e157, cJ3_checkIndex_8e157, 3, (some .int))
theorem zfs_38 : Cond.fieldLink RJ0 38 "java/lang/String" "COMPACT_STRINGS" "Z" ∈ zT := zT_of 43 (by decide +kernel) (by decide +kernel)
theorem zfs_15 : Cond.fieldLink RJ0 15 "java/lang/String" "coder" "B" ∈ zT := zT_of 1619 (by decide +kernel) (by decide +kernel)
theorem zfs_9 : Cond.fieldLink RJ0 9 "java/lang/String" "value" "[B" ∈ zT := zT_of 1618 (by decide +kernel) (by decide +kernel)
theorem zfs_1053 : Cond.fieldLink RJ0 1053 "jdk/internal/util/Preconditions" "SIOOBE_FORMATTER" "Ljava/util/function/BiFunction;" ∈ zT := zT_of 59 (by decide +kernel) (by decide +kernel)
theorem zcs_335 : zCV RJ0 335 kCod 0 := ⟨⟨zT_of 39 (by decide +kernel) (by decide +kernel), zT_of 3 (by decide +kernel) (by decide +kernel), zT_of 42 (by decide +kernel) (by decide +kernel), ⟨by decide +kernel, by decide +kernel, by decide +kernel⟩, by decide⟩, zT_of 40 (by decide +kernel) (by decide +kernel), zT_of 41 (by decide +kernel) (by decide +kernel)⟩
theorem zcs_492 : zCV RJ0 492 kLat 0 := ⟨⟨zT_of 49 (by decide +kernel) (by decide +kernel), zT_of 3 (by decide +kernel) (by decide +kernel), zT_of 52 (by decide +kernel) (by decide +kernel), ⟨by decide +kernel, by decide +kernel, by decide +kernel⟩, by decide⟩, zT_of 50 (by decide +kernel) (by decide +kernel), zT_of 51 (by decide +kernel) (by decide +kernel)⟩
theorem zcs_495 : zCS RJ0 495 kLch 2 := ⟨⟨zT_of 53 (by decide +kernel) (by decide +kernel), zT_of 4 (by decide +kernel) (by decide +kernel), zT_of 55 (by decide +kernel) (by decide +kernel), ⟨by decide +kernel, by decide +kernel, by decide +kernel⟩, by decide⟩, zT_of 54 (by decide +kernel) (by decide +kernel)⟩
theorem zcs_1059 : zCS RJ0 1059 kPre 3 := ⟨⟨zT_of 61 (by decide +kernel) (by decide +kernel), zT_of 5 (by decide +kernel) (by decide +kernel), zT_of 63 (by decide +kernel) (by decide +kernel), ⟨by decide +kernel, by decide +kernel, by decide +kernel⟩, by decide⟩, zT_of 62 (by decide +kernel) (by decide +kernel)⟩
theorem zcs1_9 : zCS RJ1 9 kChk 2 := ⟨⟨zT_of 56 (by decide +kernel) (by decide +kernel), zT_of 3 (by decide +kernel) (by decide +kernel), zT_of 58 (by decide +kernel) (by decide +kernel), ⟨by decide +kernel, by decide +kernel, by decide +kernel⟩, by decide⟩, zT_of 57 (by decide +kernel) (by decide +kernel)⟩
theorem zct_38 : zCV RX10 38 kLen 0 := ⟨⟨zT_of 35 (by decide +kernel) (by decide +kernel), zT_of 3 (by decide +kernel) (by decide +kernel), zT_of 38 (by decide +kernel) (by decide +kernel), ⟨by decide +kernel, by decide +kernel, by decide +kernel⟩, by decide⟩, zT_of 36 (by decide +kernel) (by decide +kernel), zT_of 37 (by decide +kernel) (by decide +kernel)⟩
theorem zct_44 : zCV RX10 44 kChr 1 := ⟨⟨zT_of 45 (by decide +kernel) (by decide +kernel), zT_of 3 (by decide +kernel) (by decide +kernel), zT_of 48 (by decide +kernel) (by decide +kernel), ⟨by decide +kernel, by decide +kernel, by decide +kernel⟩, by decide⟩, zT_of 46 (by decide +kernel) (by decide +kernel), zT_of 47 (by decide +kernel) (by decide +kernel)⟩
section ZS
variable {w : zW} {k : zM} {d a z : Nat} {v : Option Value} {S' : zS} {pc : Nat} {lv : List (Nat × Value)} {st : List Value} {S : zS}
theorem zOld.back {p : Program} {s : State} {m : MethodId} {args : Array Value} {meth : Method} {c : Code} {H : Heap} {locs : List Loc} (fx : zFx w k p s m args meth c) (hR : zRep w s S H) (hS : va_S (zA0 w) s.heap H locs) : zOld w s s.heap :=
  hR.2.2.kept fx.2.2.2.2.2.2.2.2.2.1 fun q hq => (hS.2.1 q (Nat.lt_of_lt_of_le (Nat.not_le.mp hq) fx.2.2.2.2.2.2.2.2.2.2.1) hq).symm
theorem zR_ldcS (hd : decode k.2.1 pc = .ok (.ldc 36, 2)) (ho : k.1.cls = RX10) (nx : zR w k d a z v S' (pc + 2) lv (.ref (w.2.2.1 4) :: st) S) : zR w k d a z v S' pc lv st S := zR.go (fun l p e Rm s m args below meth c fx Q H locs cells slots ls hl kk => va_ldcS fx.1 fx.2.1 (ho ▸ fx.2.2.2.2.2.1) fx.2.2.2.2.2.2.2.2.2.2.2.1 hd kk) nx
theorem zR_csb {idx : Nat} (hd : decode k.2.1 pc = .ok (.getstatic idx, 3)) (hw : Cond.fieldLink k.1.cls idx "java/lang/String" "COMPACT_STRINGS" "Z" ∈ zT) (nx : zR w k d a z v S' (pc + 3) lv (.int 1 :: st) S) : zR w k d a z v S' pc lv st S := by
  intro l p e Rm s m args below meth c fx hd1 hl0 Q H locs cells slots ls hR hS hl hc hs hend
  exact va_gets fx.1 fx.2.1 (zOld.back fx hR hS).2.2.1 hS fx.2.2.2.2.2.1 (fx.2.2.2.2.2.2.1 _ hw) (fun _ h => h) hd (nx l p e Rm s m args below meth c fx hd1 hl0 Q H locs cells slots ls hR hS hl hc hs hend)
theorem zR_sff {idx : Nat} (hd : decode k.2.1 pc = .ok (.getstatic idx, 3)) (hw : Cond.fieldLink k.1.cls idx "jdk/internal/util/Preconditions" "SIOOBE_FORMATTER" "Ljava/util/function/BiFunction;" ∈ zT) (nx : ∀ x : Value, (x = .null ∨ ∃ t, x = .ref t) → zR w k d a z v S' (pc + 3) lv (x :: st) S) : zR w k d a z v S' pc lv st S := by
  intro l p e Rm s m args below meth c fx hd1 hl0 Q H locs cells slots ls hR hS hl hc hs hend
  rcases (zOld.back fx hR hS).2.2.2 with h | ⟨t, h⟩
  · exact va_gets fx.1 fx.2.1 h hS fx.2.2.2.2.2.1 (fx.2.2.2.2.2.2.1 _ hw) (fun _ h => h) hd (nx _ (Or.inl rfl) l p e Rm s m args below meth c fx hd1 hl0 Q H locs cells slots ls hR hS hl hc hs hend)
  · exact va_gets fx.1 fx.2.1 h hS fx.2.2.2.2.2.1 (fx.2.2.2.2.2.2.1 _ hw) (fun _ h => h) hd (nx _ (Or.inr ⟨t, rfl⟩) l p e Rm s m args below meth c fx hd1 hl0 Q H locs cells slots ls hR hS hl hc hs hend)
theorem zR_scod {idx : Nat} (hd : decode k.2.1 pc = .ok (.getfield idx, 3)) (hw : Cond.fieldLink k.1.cls idx "java/lang/String" "coder" "B" ∈ zT) (nx : zR w k d a z v S' (pc + 3) lv (.int 0 :: st) S) : zR w k d a z v S' pc lv (.ref (w.2.2.1 4) :: st) S := by
  intro l p e Rm s m args below meth c fx hd1 hl0 Q H locs cells slots ls hR hS hl hc hs hend
  exact vk_getf fx.1 fx.2.1 ((zOld.back fx hR hS).2.1.1 0 (Nat.zero_lt_one)).2.1 hS fx.2.2.2.2.2.1 (fx.2.2.2.2.2.2.1 _ hw) (fun _ h => h) hd (nx l p e Rm s m args below meth c fx hd1 hl0 Q H locs cells slots ls hR hS hl hc hs hend)
theorem zR_sval {idx : Nat} (hd : decode k.2.1 pc = .ok (.getfield idx, 3)) (hw : Cond.fieldLink k.1.cls idx "java/lang/String" "value" "[B" ∈ zT) (nx : zR w k d a z v S' (pc + 3) lv (.ref (w.2.2.1 5) :: st) S) : zR w k d a z v S' pc lv (.ref (w.2.2.1 4) :: st) S := by
  intro l p e Rm s m args below meth c fx hd1 hl0 Q H locs cells slots ls hR hS hl hc hs hend
  exact vk_getf fx.1 fx.2.1 ((zOld.back fx hR hS).2.1.1 0 (Nat.zero_lt_one)).2.2.1 hS fx.2.2.2.2.2.1 (fx.2.2.2.2.2.2.1 _ hw) (fun _ h => h) hd (nx l p e Rm s m args below meth c fx hd1 hl0 Q H locs cells slots ls hR hS hl hc hs hend)
theorem zR_svlen (hd : decode k.2.1 pc = .ok (.arraylength, 1)) (nx : zR w k d a z v S' (pc + 1) lv (.int 135 :: st) S) : zR w k d a z v S' pc lv (.ref (w.2.2.1 5) :: st) S := by
  intro l p e Rm s m args below meth c fx hd1 hl0 Q H locs cells slots ls hR hS hl hc hs hend
  exact va_tlen fx.1 fx.2.1 ((zOld.back fx hR hS).2.1.1 0 (Nat.zero_lt_one)).2.2.2 hS rfl hd (nx l p e Rm s m args below meth c fx hd1 hl0 Q H locs cells slots ls hR hS hl hc hs hend)
theorem zR_svld {j : Int32} (hd : decode k.2.1 pc = .ok (.baload, 1)) (hj : vp_in j 135) (nx : zR w k d a z v S' (pc + 1) lv (.int (zbytes.getD j.toNatClampNeg 0) :: st) S) : zR w k d a z v S' pc lv (.int j :: .ref (w.2.2.1 5) :: st) S := by
  intro l p e Rm s m args below meth c fx hd1 hl0 Q H locs cells slots ls hR hS hl hc hs hend
  exact va_tb fx.1 fx.2.1 ((zOld.back fx hR hS).2.1.1 0 (Nat.zero_lt_one)).2.2.2 hS hj rfl hd (nx l p e Rm s m args below meth c fx hd1 hl0 Q H locs cells slots ls hR hS hl hc hs hend)
theorem zR_callVs {k2 : zM} {n d2 idx : Nat} {As rest st0 st1 : List Value} {v1 : Option Value} (hd : decode k.2.1 pc = .ok (.invokevirtual idx, 3)) (hM : zMet w k2 d2 0 0 (.ref (w.2.2.1 4) :: As) S v1 S) (hw : zCV k.1.cls idx k2 n) (hn : As.length = n) (hk2 : k2.1.cls = "java/lang/String")
    (hst : st0 = As.reverse ++ .ref (w.2.2.1 4) :: rest) (hcat : (rest.map fun v => v.category).sum ≤ 8) (hdd : d2 + 1 ≤ d) (hst1 : v1.toList ++ rest = st1)
    (nx : zR w k d a z v S' (pc + 3) lv st1 S) : zR w k d a z v S' pc lv st0 S := by
  subst hst1
  intro l p e Rm s m args below meth c fx hd1 hl0 Q H locs cells slots ls hR hS hl hc hs hend
  obtain ⟨h1, h2, h3⟩ := hw
  have hts := fx.2.2.2.2.2.2.1
  have hrecv := vk_recv (zOld.back fx hR hS).2.1 Nat.zero_lt_one hS
  have hrun := va_runV (l := l) (e := e) (R := Rm) (below := below) (meth := meth) (H := H) (locs := locs) (cells := cells) (slots := slots) (rest := rest) (g := F0 m pc ls st0) (Ts := zT) (own := k.1.cls) (C := k2.1.cls) ⟨fx.1, fx.2.1, fx.2.2.2.2.1, fx.2.2.2.2.2.1, hts⟩ (hM l) ⟨h1.use fx hdd hd1 hl0, hts _ h2, hts _ h3⟩ ⟨zPre.blind, by rw [hk2]; exact hrecv, zPre.at fx hR⟩ rfl hn hl.1 hst (lv_room (pc := pc) (ls := ls) (rest := st0) hcat) hd ⟨by omega, by omega⟩
  intro T hT X
  obtain ⟨v', st₀, t, T', L, h0, X', hL, e1, e2, ⟨ho, hRp, hsz, hk⟩, stp⟩ := hrun T hT X
  cases ho
  rw [h0] at hsz hk
  have hal : t.vm.Alike s.vm := by rw [← e2]; exact X'.warmed.alike.symm
  have hS1 : va_S (zA0 w) s.heap T'.heap (locs ++ L) := ⟨Nat.le_trans hS.1 (by rw [e1]; exact hsz), fun q h1 h2 => by rw [e1, hk q (Nat.lt_of_lt_of_le h1 hS.1) h2]; exact hS.2.1 q h1 h2, fun q hq => by
    rcases List.mem_append.mp hq with h | h
    · exact hS.2.2 q h
    · exact hL q h⟩
  have hR1 : zRep w s S T'.heap := by
    rw [e1]
    exact ⟨hRp.1, hRp.2.1, hRp.2.2.moved hal⟩
  obtain ⟨t2, a1, b1⟩ := nx l p e Rm s m args below meth c fx hd1 hl0 Q T'.heap (locs ++ L) (cells + 0) (slots + 0) ls hR1 hS1 hl (by omega) (by omega)
    (fun H' locs' cells' slots' ls' pc' st' g1 g2 g3 g4 g5 => hend H' locs' cells' slots' ls' pc' st' g1 g2 (by omega) (by omega) g5) T' rfl X'
  exact ⟨t2, stp t2 a1, b1⟩
theorem zR_aloadv_n {j : Fin 4} {x : Value} (hx : x = .null ∨ ∃ t, x = .ref t) (hd : decode k.2.1 pc = .ok (.aload_n j, 1)) (q : Nat) (hq : lv[q]? = some ((j : Nat), x)) (nx : zR w k d a z v S' (pc + 1) lv (x :: st) S) : zR w k d a z v S' pc lv st S := by
  rcases hx with rfl | ⟨t, rfl⟩
  · exact zR.go (fun l p e Rm s m args below meth c fx Q H locs cells slots ls hl kk => lv_aload_nN fx.1 fx.2.1 hd rfl (lv_at hl q hq) kk) nx
  · exact zR_aload_n hd q hq nx
theorem sCod : zMet w kCod 0 0 0 [.ref (w.2.2.1 4)] S (some (.int 0)) S := by
  refine zMet_of (by decide) (Nat.le_of_ble_eq_true rfl) (Nat.le_refl _) fun _ => ?_
  show zR w kCod 0 0 0 (some (.int 0)) S 0 [(0, .ref (w.2.2.1 4))] [] S
  refine zR_csb dJ0_coder_7d493_0 zfs_38 ?_
  refine zR_if_eq_f (tgt := 13) dJ0_coder_7d493_3 (by decide) (by decide) ?_
  refine zR_aload_n dJ0_coder_7d493_6 0 rfl ?_
  refine zR_scod dJ0_coder_7d493_7 zfs_15 ?_
  refine zR_goto (tgt := 14) dJ0_coder_7d493_10 (by decide) ?_
  exact zR_iret dJ0_coder_7d493_14 rfl rfl
theorem sLat : zMet w kLat 0 0 0 [.ref (w.2.2.1 4)] S (some (.int 1)) S := by
  refine zMet_of (by decide) (Nat.le_of_ble_eq_true rfl) (Nat.le_refl _) fun _ => ?_
  show zR w kLat 0 0 0 (some (.int 1)) S 0 [(0, .ref (w.2.2.1 4))] [] S
  refine zR_csb dJ0_isLatin1_aae02_0 zfs_38 ?_
  refine zR_if_eq_f (tgt := 17) dJ0_isLatin1_aae02_3 (by decide) (by decide) ?_
  refine zR_aload_n dJ0_isLatin1_aae02_6 0 rfl ?_
  refine zR_scod dJ0_isLatin1_aae02_7 zfs_15 ?_
  refine zR_if_ne_f (tgt := 17) dJ0_isLatin1_aae02_10 (by decide) (by decide) ?_
  refine zR_iconst (x := 1) dJ0_isLatin1_aae02_13 rfl ?_
  refine zR_goto (tgt := 18) dJ0_isLatin1_aae02_14 (by decide) ?_
  exact zR_iret dJ0_isLatin1_aae02_18 rfl rfl
theorem sLen : zMet w kLen 1 0 0 [.ref (w.2.2.1 4)] S (some (.int 135)) S := by
  refine zMet_of (by decide) (Nat.le_of_ble_eq_true rfl) (Nat.le_refl _) fun _ => ?_
  show zR w kLen 1 0 0 (some (.int 135)) S 0 [(0, .ref (w.2.2.1 4))] [] S
  refine zR_aload_n dJ0_length_8abf5_0 0 rfl ?_
  refine zR_sval dJ0_length_8abf5_1 zfs_9 ?_
  refine zR_svlen dJ0_length_8abf5_4 ?_
  refine zR_aload_n dJ0_length_8abf5_5 0 rfl ?_
  refine zR_callVs (rest := [.int 135]) (st1 := [.int 0, .int 135]) dJ0_length_8abf5_6 sCod zcs_335 rfl rfl rfl (Nat.le_of_ble_eq_true rfl) (Nat.le_of_ble_eq_true rfl) rfl ?_
  refine zR_ishr dJ0_length_8abf5_9 ?_
  refine zR_nmI (y := 135) (by decide) ?_
  exact zR_iret dJ0_length_8abf5_10 rfl rfl
theorem sPre {x : Value} (hx : x = .null ∨ ∃ t, x = .ref t) {j n : Int32} (h0 : ¬ j < 0) (h1 : j < n) : zMet w kPre 0 0 0 [.int j, .int n, x] S (some (.int j)) S := by
  refine zMet_of (by decide) (by rcases hx with rfl | ⟨t, rfl⟩ <;> exact Nat.le_of_ble_eq_true rfl) (Nat.le_refl _) fun _ => ?_
  show zR w kPre 0 0 0 (some (.int j)) S 0 [(0, .int j), (1, .int n), (2, x)] [] S
  refine zR_iload_n dJ3_checkIndex_8e157_0 0 rfl ?_
  refine zR_if_lt_f (tgt := 9) dJ3_checkIndex_8e157_1 (by decide) h0 ?_
  refine zR_iload_n dJ3_checkIndex_8e157_4 0 rfl ?_
  refine zR_iload_n dJ3_checkIndex_8e157_5 1 rfl ?_
  refine zR_icmp_lt_t (tgt := 16) dJ3_checkIndex_8e157_6 (by decide) h1 ?_
  refine zR_iload_n dJ3_checkIndex_8e157_16 0 rfl ?_
  exact zR_iret dJ3_checkIndex_8e157_17 rfl rfl
theorem sChk {j n : Int32} (h0 : ¬ j < 0) (h1 : j < n) : zMet w kChk 1 0 0 [.int j, .int n] S none S := by
  refine zMet_of (by decide) (Nat.le_of_ble_eq_true rfl) (Nat.le_refl _) fun _ => ?_
  show zR w kChk 1 0 0 none S 0 [(0, .int j), (1, .int n)] [] S
  refine zR_iload_n dJ0_checkIndex_df160_0 0 rfl ?_
  refine zR_iload_n dJ0_checkIndex_df160_1 1 rfl ?_
  refine zR_sff dJ0_checkIndex_df160_2 zfs_1053 fun x hx => ?_
  refine zR_cS (rest := []) (st1 := [.int j]) dJ0_checkIndex_df160_5 (sPre hx h0 h1) zcs_1059 rfl rfl (Nat.le_of_ble_eq_true rfl) (Nat.le_of_ble_eq_true rfl) rfl ?_
  refine zR_pop dJ0_checkIndex_df160_8 rfl ?_
  exact zR_ret dJ0_checkIndex_df160_9 rfl
def zch (j : Int32) : Int32 := ((zbytes.getD j.toNatClampNeg 0) &&& 255).toUInt32.toUInt16.toUInt32.toInt32
theorem sLch {j : Int32} (h0 : ¬ j < 0) (h1 : j < 135) (hj : vp_in j 135) (hc : narrow .char (.int ((((zbytes.getD j.toNatClampNeg 0) &&& 255).toUInt32 % 65536).toInt32)) = .int ((((zbytes.getD j.toNatClampNeg 0) &&& 255).toUInt32 % 65536).toInt32)) : zMet w kLch 2 0 0 [.ref (w.2.2.1 5), .int j] S (some (.int ((((zbytes.getD j.toNatClampNeg 0) &&& 255).toUInt32 % 65536).toInt32))) S := by
  refine zMet_of (by decide) (Nat.le_of_ble_eq_true rfl) (Nat.le_refl _) fun _ => ?_
  show zR w kLch 2 0 0 (some (.int ((((zbytes.getD j.toNatClampNeg 0) &&& 255).toUInt32 % 65536).toInt32))) S 0 [(0, .ref (w.2.2.1 5)), (1, .int j)] [] S
  refine zR_iload_n dJ1_charAt_3b067_0 1 rfl ?_
  refine zR_aload_n dJ1_charAt_3b067_1 0 rfl ?_
  refine zR_svlen dJ1_charAt_3b067_2 ?_
  refine zR_cS (rest := []) (st1 := []) dJ1_charAt_3b067_3 (sChk h0 h1) zcs1_9 rfl rfl (Nat.le_of_ble_eq_true rfl) (Nat.le_of_ble_eq_true rfl) rfl ?_
  refine zR_aload_n dJ1_charAt_3b067_6 0 rfl ?_
  refine zR_iload_n dJ1_charAt_3b067_7 1 rfl ?_
  refine zR_svld dJ1_charAt_3b067_8 hj ?_
  refine zR_sipush (x := 255) dJ1_charAt_3b067_9 rfl ?_
  refine zR_iand dJ1_charAt_3b067_12 ?_
  refine zR_i2c dJ1_charAt_3b067_13 ?_
  exact zR_iret dJ1_charAt_3b067_14 rfl hc
theorem sChr {j : Int32} (h0 : ¬ j < 0) (h1 : j < 135) (hj : vp_in j 135) (hc : narrow .char (.int ((((zbytes.getD j.toNatClampNeg 0) &&& 255).toUInt32 % 65536).toInt32)) = .int ((((zbytes.getD j.toNatClampNeg 0) &&& 255).toUInt32 % 65536).toInt32)) : zMet w kChr 3 0 0 [.ref (w.2.2.1 4), .int j] S (some (.int ((((zbytes.getD j.toNatClampNeg 0) &&& 255).toUInt32 % 65536).toInt32))) S := by
  refine zMet_of (by decide) (Nat.le_of_ble_eq_true rfl) (Nat.le_refl _) fun _ => ?_
  show zR w kChr 3 0 0 (some (.int ((((zbytes.getD j.toNatClampNeg 0) &&& 255).toUInt32 % 65536).toInt32))) S 0 [(0, .ref (w.2.2.1 4)), (1, .int j)] [] S
  refine zR_aload_n dJ0_charAt_5068e_0 0 rfl ?_
  refine zR_callVs (rest := []) (st1 := [.int 1]) dJ0_charAt_5068e_1 sLat zcs_492 rfl rfl rfl (Nat.le_of_ble_eq_true rfl) (Nat.le_of_ble_eq_true rfl) rfl ?_
  refine zR_if_eq_f (tgt := 16) dJ0_charAt_5068e_4 (by decide) (by decide) ?_
  refine zR_aload_n dJ0_charAt_5068e_7 0 rfl ?_
  refine zR_sval dJ0_charAt_5068e_8 zfs_9 ?_
  refine zR_iload_n dJ0_charAt_5068e_11 1 rfl ?_
  refine zR_cS (rest := []) (st1 := [.int ((((zbytes.getD j.toNatClampNeg 0) &&& 255).toUInt32 % 65536).toInt32)]) dJ0_charAt_5068e_12 (sLch h0 h1 hj hc) zcs_495 rfl rfl (Nat.le_of_ble_eq_true rfl) (Nat.le_of_ble_eq_true rfl) rfl ?_
  exact zR_iret dJ0_charAt_5068e_15 rfl hc
end ZS
