theorem zmw_X1_204 : Cond.methodLink RX1 204 Lib.MathLoose.max_long.x ∈ zT := zT_of 868 (by decide +kernel) (by decide +kernel)
theorem zmw_X10_48 : Cond.methodLink RX10 48 Lib.Math.min.name ∈ zT := zT_of 528 (by decide +kernel) (by decide +kernel)
theorem zmw_X10_89 : Cond.methodLink RX10 89 Lib.Math.max.name ∈ zT := zT_of 553 (by decide +kernel) (by decide +kernel)
theorem zmw_X3_76 : Cond.methodLink RX3 76 Lib.Math.max.name ∈ zT := zT_of 776 (by decide +kernel) (by decide +kernel)
theorem zmw_X3_82 : Cond.methodLink RX3 82 Lib.Math.min.name ∈ zT := zT_of 777 (by decide +kernel) (by decide +kernel)
theorem zmw_X6_56 : Cond.methodLink RX6 56 Lib.Math.min.name ∈ zT := zT_of 707 (by decide +kernel) (by decide +kernel)
theorem zmw_X7_26 : Cond.methodLink RX7 26 Lib.Math.max.name ∈ zT := zT_of 834 (by decide +kernel) (by decide +kernel)
theorem zm_mmax : Cond.static Lib.Math.max.name ∈ zT ∧ Cond.initialized "java/lang/Math" ∈ zT ∧ Cond.code Lib.Math.max.name Lib.Math.max.code 2 (some .int) ∈ zT := ⟨zT_of 554 (by decide +kernel) (by decide +kernel), zT_of 18 (by decide +kernel) (by decide +kernel), zT_of 555 (by decide +kernel) (by decide +kernel)⟩
theorem zR_mmax {w : zW} {k : zM} {d a z : Nat} {v : Option Value} {S' : zS} {pc : Nat} {lv : List (Nat × Value)} {st : List Value} {S : zS} {idx : Nat} {x y : Int32} (hd : decode k.2.1 pc = .ok (.invokestatic idx, 3)) (hw : Cond.methodLink k.1.cls idx Lib.Math.max.name ∈ zT) (hdd : 1 ≤ d) (hcat : (st.map fun v => v.category).sum ≤ 8) (nx : zR w k d a z v S' (pc + 3) lv (.int (if x < y then y else x) :: st) S) : zR w k d a z v S' pc lv (.int y :: .int x :: st) S := by
  intro l p e Rm s m args below meth c fx hd1 hl0 Q H locs cells slots ls hR hS hl hc hs hend
  have hts := fx.2.2.2.2.2.2.1
  refine va_mmax fx.1 fx.2.1 (fx.2.2.2.2.1.trans hl.1.symm) fx.2.2.2.2.2.1 (hts _ hw) (hts _ zm_mmax.1) (hts _ zm_mmax.2.1) (hts _ zm_mmax.2.2) (by omega) (by omega) (by omega) (by omega) hd ?_
  exact nx l p e Rm s m args below meth c fx hd1 hl0 Q H locs cells slots ls hR hS hl hc hs hend
theorem zm_mmin : Cond.static Lib.Math.min.name ∈ zT ∧ Cond.initialized "java/lang/Math" ∈ zT ∧ Cond.code Lib.Math.min.name Lib.Math.min.code 2 (some .int) ∈ zT := ⟨zT_of 529 (by decide +kernel) (by decide +kernel), zT_of 18 (by decide +kernel) (by decide +kernel), zT_of 530 (by decide +kernel) (by decide +kernel)⟩
theorem zR_mmin {w : zW} {k : zM} {d a z : Nat} {v : Option Value} {S' : zS} {pc : Nat} {lv : List (Nat × Value)} {st : List Value} {S : zS} {idx : Nat} {x y : Int32} (hd : decode k.2.1 pc = .ok (.invokestatic idx, 3)) (hw : Cond.methodLink k.1.cls idx Lib.Math.min.name ∈ zT) (hdd : 1 ≤ d) (hcat : (st.map fun v => v.category).sum ≤ 8) (nx : zR w k d a z v S' (pc + 3) lv (.int (if y < x then y else x) :: st) S) : zR w k d a z v S' pc lv (.int y :: .int x :: st) S := by
  intro l p e Rm s m args below meth c fx hd1 hl0 Q H locs cells slots ls hR hS hl hc hs hend
  have hts := fx.2.2.2.2.2.2.1
  refine va_mmin fx.1 fx.2.1 (fx.2.2.2.2.1.trans hl.1.symm) fx.2.2.2.2.2.1 (hts _ hw) (hts _ zm_mmin.1) (hts _ zm_mmin.2.1) (hts _ zm_mmin.2.2) (by omega) (by omega) (by omega) (by omega) hd ?_
  exact nx l p e Rm s m args below meth c fx hd1 hl0 Q H locs cells slots ls hR hS hl hc hs hend
theorem zm_mmaxL : Cond.static Lib.MathLoose.max_long.x ∈ zT ∧ Cond.initialized "java/lang/Math" ∈ zT ∧ Cond.code Lib.MathLoose.max_long.x Lib.MathLoose.max_long.code 4 (some .long) ∈ zT := ⟨zT_of 869 (by decide +kernel) (by decide +kernel), zT_of 18 (by decide +kernel) (by decide +kernel), zT_of 870 (by decide +kernel) (by decide +kernel)⟩
theorem zR_mmaxL {w : zW} {k : zM} {d a z : Nat} {v : Option Value} {S' : zS} {pc : Nat} {lv : List (Nat × Value)} {st : List Value} {S : zS} {idx : Nat} {x y : Int64} (hd : decode k.2.1 pc = .ok (.invokestatic idx, 3)) (hw : Cond.methodLink k.1.cls idx Lib.MathLoose.max_long.x ∈ zT) (hdd : 1 ≤ d) (hcat : (st.map fun v => v.category).sum ≤ 8) (nx : zR w k d a z v S' (pc + 3) lv (.long (if y < x then x else y) :: st) S) : zR w k d a z v S' pc lv (.long y :: .long x :: st) S := by
  intro l p e Rm s m args below meth c fx hd1 hl0 Q H locs cells slots ls hR hS hl hc hs hend
  have hts := fx.2.2.2.2.2.2.1
  refine va_mmax_long fx.1 fx.2.1 (fx.2.2.2.2.1.trans hl.1.symm) fx.2.2.2.2.2.1 (hts _ hw) (hts _ zm_mmaxL.1) (hts _ zm_mmaxL.2.1) (hts _ zm_mmaxL.2.2) (by omega) (by omega) (by omega) (by omega) hd ?_
  exact nx l p e Rm s m args below meth c fx hd1 hl0 Q H locs cells slots ls hR hS hl hc hs hend
abbrev kX12_word : zM := (yX12_word, cX12_word, 6, (some .long))
