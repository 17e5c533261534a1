/-! Text(): the words, letter by letter -/
def zcc (i : Nat) : Int32 := (((zbytes.getD i 0) &&& 255).toUInt32 % 65536).toInt32
def zwstep (c : Int32) (s : Int32 × Int64 × (Nat → Int64)) : Int32 × Int64 × (Nat → Int64) :=
  if c = 32 then (if (27 : Int32) ≤ s.1 then s else (s.1 + 1, 0, vp_updL s.2.2 s.1.toNatClampNeg s.2.1)) else (s.1, (s.2.1 <<< ((8 : Int32).toInt64 &&& 63)) ||| c.toInt64, s.2.2)
def zwst : Nat → Int32 × Int64 × (Nat → Int64)
  | 0 => (0, 0, fun _ => 0)
  | i + 1 => zwstep (zcc i) (zwst i)
def zWordsF : Nat → Int64 := (zwst 135).2.2
theorem zwst_1 : ∀ i, ∃ c, c ≤ 27 ∧ (zwst i).1 = nI c := by
  intro i
  induction i with
  | zero => exact ⟨0, by omega, nI_0.symm⟩
  | succ i ih =>
    obtain ⟨c, hc, e⟩ := ih
    show ∃ c, c ≤ 27 ∧ (zwstep (zcc i) (zwst i)).1 = nI c
    unfold zwstep
    by_cases h : zcc i = 32
    · rw [if_pos h]
      by_cases h2 : (27 : Int32) ≤ (zwst i).1
      · rw [if_pos h2]; exact ⟨c, hc, e⟩
      · rw [if_neg h2]
        refine ⟨c + 1, ?_, by show (zwst i).1 + 1 = _; rw [e, nI_succ]⟩
        rcases Nat.lt_or_ge c 27 with h3 | h3
        · omega
        · exfalso
          apply h2
          rw [e, show c = 27 by omega]
          decide
    · rw [if_neg h]; exact ⟨c, hc, e⟩
theorem zcc_char : ∀ i, i < 135 → narrow .char (.int (zcc i)) = .int (zcc i) := by decide +kernel
theorem zX10_loop {w : zW} {pre rest : zS} {fs : List Value} (hp : pre.length = 2) (hfs : fs[0]? = some (.ref (w.1 + 3))) (dd : 4 ≤ 4) : ∀ (m i a z : Nat), i + m = 135 → zR w kX10_init 4 a z none (pre ++ .inr (10, fs) :: (.inl (2, 27, .inr (.inl zWordsF)) :: rest)) 61 [(0, .ref (w.1 + 2)), (1, .int (zwst i).1), (2, .long (zwst i).2.1), (4, .int (nI i))] [] (pre ++ .inr (10, fs) :: (.inl (2, 27, .inr (.inl (zwst i).2.2)) :: rest)) := by
  intro m
  induction m with
  | zero =>
    intro i a z hi
    have hi : i = 135 := by omega
    subst hi
    refine zR_iload dX10_init_61 3 rfl ?_
    refine zR_ldcS dX10_init_63 rfl ?_
    refine zR_callVs (rest := [.int (nI 135)]) (st1 := [.int 135, .int (nI 135)]) dX10_init_65 sLen zct_38 rfl rfl rfl (Nat.le_of_ble_eq_true rfl) (Nat.le_of_ble_eq_true rfl) rfl ?_
    refine zR_icmp_ge_t (tgt := 127) dX10_init_68 (by decide) (by decide) ?_
    exact zR_ret dX10_init_127 rfl
  | succ m ih =>
    intro i a z hi
    have hlt : i < 135 := by omega
    have hneg : ¬ nI i < 0 := nI_pos (by omega)
    have h135 : nI i < 135 := nI_lt hlt (by decide)
    have hin : vp_in (nI i) 135 := vp_in_nI hlt (by omega)
    have hcl : (nI i).toNatClampNeg = i := nI_clamp (by omega)
    have hch := zcc_char i hlt
    have hM : ∀ S : zS, zMet w kChr 3 0 0 [.ref (w.2.2.1 4), .int (nI i)] S (some (.int (zcc i))) S := fun S => by
      have h := sChr (w := w) (S := S) hneg h135 hin (by rw [hcl]; exact hch)
      rw [hcl] at h
      exact h
    refine zR_iload dX10_init_61 3 rfl ?_
    refine zR_ldcS dX10_init_63 rfl ?_
    refine zR_callVs (rest := [.int (nI i)]) (st1 := [.int 135, .int (nI i)]) dX10_init_65 sLen zct_38 rfl rfl rfl (Nat.le_of_ble_eq_true rfl) (Nat.le_of_ble_eq_true rfl) rfl ?_
    refine zR_icmp_ge_f (tgt := 127) dX10_init_68 (by decide) (by rw [Int32.not_le]; exact h135) ?_
    refine zR_ldcS dX10_init_71 rfl ?_
    refine zR_iload dX10_init_73 3 rfl ?_
    refine zR_callVs (rest := []) (st1 := [.int (zcc i)]) dX10_init_75 (hM _) zct_44 rfl rfl rfl (Nat.le_of_ble_eq_true rfl) (Nat.le_of_ble_eq_true rfl) rfl ?_
    refine zR_bipush (x := 32) dX10_init_78 rfl ?_
    by_cases hc : zcc i = 32
    · refine zR_icmp_eq_t (tgt := 100) dX10_init_80 (by decide) hc ?_
      refine zR_iload_n dX10_init_100 1 rfl ?_
      refine zR_aload_n dX10_init_101 0 rfl ?_
      refine zK_get hp dX10_init_102 zf_X10_9 hfs ?_
      refine zK_alen (u := 27) (j0 := 0) hp rfl dX10_init_105 rfl (Nat.le_of_ble_eq_true rfl) rfl ?_
      by_cases h2 : (27 : Int32) ≤ (zwst i).1
      · have hs : zwst (i + 1) = zwst i := by show zwstep (zcc i) (zwst i) = _; unfold zwstep; rw [if_pos hc, if_pos h2]
        refine zR_icmp_ge_t (tgt := 121) dX10_init_106 (by decide) h2 ?_
        refine zR_iinc (u := nI (i + 1)) (lv' := [(0, .ref (w.1 + 2)), (1, .int (zwst i).1), (2, .long (zwst i).2.1), (4, .int (nI (i + 1)))]) dX10_init_121 3 rfl (by rw [nI_succ]; rfl) (Nat.le_of_ble_eq_true rfl) rfl ?_
        refine zR_goto (tgt := 61) dX10_init_124 (by decide) ?_
        have h9 := ih (i + 1) a z (by omega)
        rw [hs] at h9
        exact h9
      · have hs : zwst (i + 1) = ((zwst i).1 + 1, 0, vp_updL (zwst i).2.2 (zwst i).1.toNatClampNeg (zwst i).2.1) := by show zwstep (zcc i) (zwst i) = _; unfold zwstep; rw [if_pos hc, if_neg h2]
        have hj : vp_in (zwst i).1 27 := by
          obtain ⟨q, hq, e⟩ := zwst_1 i
          rcases Nat.lt_or_ge q 27 with h3 | h3
          · rw [e]; exact vp_in_nI h3 (by decide)
          · exact absurd (by rw [e, show q = 27 by omega]; decide) h2
        refine zR_icmp_ge_f (tgt := 121) dX10_init_106 (by decide) h2 ?_
        refine zR_aload_n dX10_init_109 0 rfl ?_
        refine zK_get hp dX10_init_110 zf_X10_9 hfs ?_
        refine zR_iload_n dX10_init_113 1 rfl ?_
        refine zR_lload_n dX10_init_114 2 rfl ?_
        refine zK_last (j0 := 0) hp rfl dX10_init_115 rfl hj ?_
        refine zR_iinc (u := (zwst i).1 + 1) (lv' := [(0, .ref (w.1 + 2)), (1, .int ((zwst i).1 + 1)), (2, .long (zwst i).2.1), (4, .int (nI i))]) dX10_init_116 1 rfl rfl (Nat.le_of_ble_eq_true rfl) rfl ?_
        refine zR_lconst (x := 0) dX10_init_119 rfl ?_
        refine zR_lstore_n (lv' := [(0, .ref (w.1 + 2)), (1, .int ((zwst i).1 + 1)), (4, .int (nI i)), (2, .long 0)]) dX10_init_120 (Nat.le_of_ble_eq_true rfl) rfl ?_
        refine zR_iinc (u := nI (i + 1)) (lv' := [(0, .ref (w.1 + 2)), (1, .int ((zwst i).1 + 1)), (4, .int (nI (i + 1))), (2, .long 0)]) dX10_init_121 2 rfl (by rw [nI_succ]; rfl) (Nat.le_of_ble_eq_true rfl) rfl ?_
        refine zR_goto (tgt := 61) dX10_init_124 (by decide) ?_
        refine zR_sub (lv' := [(0, .ref (w.1 + 2)), (1, .int ((zwst i).1 + 1)), (2, .long 0), (4, .int (nI (i + 1)))]) [0, 1, 3, 2] rfl ?_
        have h9 := ih (i + 1) a z (by omega)
        rw [hs] at h9
        exact h9
    · have hs : zwst (i + 1) = ((zwst i).1, ((zwst i).2.1 <<< ((8 : Int32).toInt64 &&& 63)) ||| (zcc i).toInt64, (zwst i).2.2) := by show zwstep (zcc i) (zwst i) = _; unfold zwstep; rw [if_neg hc]
      refine zR_icmp_eq_f (tgt := 100) dX10_init_80 (by decide) hc ?_
      refine zR_lload_n dX10_init_83 2 rfl ?_
      refine zR_bipush (x := 8) dX10_init_84 rfl ?_
      refine zR_lshl dX10_init_86 ?_
      refine zR_ldcS dX10_init_87 rfl ?_
      refine zR_iload dX10_init_89 3 rfl ?_
      refine zR_callVs (rest := [.long ((zwst i).2.1 <<< ((8 : Int32).toInt64 &&& 63))]) (st1 := [.int (zcc i), .long ((zwst i).2.1 <<< ((8 : Int32).toInt64 &&& 63))]) dX10_init_91 (hM _) zct_44 rfl rfl rfl (Nat.le_of_ble_eq_true rfl) (Nat.le_of_ble_eq_true rfl) rfl ?_
      refine zR_i2l dX10_init_94 ?_
      refine zR_lor dX10_init_95 ?_
      refine zR_lstore_n (lv' := [(0, .ref (w.1 + 2)), (1, .int (zwst i).1), (4, .int (nI i)), (2, .long (((zwst i).2.1 <<< ((8 : Int32).toInt64 &&& 63)) ||| (zcc i).toInt64))]) dX10_init_96 (Nat.le_of_ble_eq_true rfl) rfl ?_
      refine zR_goto (tgt := 121) dX10_init_97 (by decide) ?_
      refine zR_iinc (u := nI (i + 1)) (lv' := [(0, .ref (w.1 + 2)), (1, .int (zwst i).1), (4, .int (nI (i + 1))), (2, .long (((zwst i).2.1 <<< ((8 : Int32).toInt64 &&& 63)) ||| (zcc i).toInt64))]) dX10_init_121 2 rfl (by rw [nI_succ]; rfl) (Nat.le_of_ble_eq_true rfl) rfl ?_
      refine zR_goto (tgt := 61) dX10_init_124 (by decide) ?_
      refine zR_sub (lv' := [(0, .ref (w.1 + 2)), (1, .int (zwst i).1), (2, .long (((zwst i).2.1 <<< ((8 : Int32).toInt64 &&& 63)) ||| (zcc i).toInt64)), (4, .int (nI (i + 1)))]) [0, 1, 3, 2] rfl ?_
      have h9 := ih (i + 1) a z (by omega)
      rw [hs] at h9
      exact h9
