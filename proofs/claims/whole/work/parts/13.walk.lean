/-! ===== rows that the printed walks use ===== -/
theorem znar01 {x : Int32} (h : x = 0 ∨ x = 1) : narrow .boolean (.int x) = .int x := by rcases h with rfl | rfl <;> rfl
section ZK
variable {w : zW} {k : zM} {d a z : Nat} {v : Option Value} {S' : zS} {pc : Nat} {lv : List (Nat × Value)} {st : List Value} {S : zS}
theorem zR_nmI {x y : Int32} (h : x = y) (nx : zR w k d a z v S' pc lv (.int y :: st) S) : zR w k d a z v S' pc lv (.int x :: st) S := by subst h; exact nx
theorem zR_nmJ {x y : Int64} (h : x = y) (nx : zR w k d a z v S' pc lv (.long y :: st) S) : zR w k d a z v S' pc lv (.long x :: st) S := by subst h; exact nx
theorem zR_ldc_w {idx : Nat} {x : Int32} (hd : decode k.2.1 pc = .ok (.ldc_w idx, 3)) (hw : Cond.constant k.1.cls idx x ∈ zT) (nx : zR w k d a z v S' (pc + 3) lv (.int x :: st) S) : zR w k d a z v S' pc lv st S := zR.go (fun l p e Rm s m args below meth c fx Q H locs cells slots ls hl kk => lv_ldcw fx.1 fx.2.1 fx.2.2.2.2.2.1 (fx.2.2.2.2.2.2.1 _ hw) hd kk) nx
theorem zR_cV {k2 : zM} {n d2 idx i ci : Nat} {fs As rest st0 st1 : List Value} {v1 : Option Value} {S1 : zS} (hd : decode k.2.1 pc = .ok (.invokevirtual idx, 3)) (hM : zMet w k2 d2 0 0 (.ref (w.1 + i) :: As) S v1 S1) (hw : zCV k.1.cls idx k2 n) (hn : As.length = n)
    (hS0 : S[i]? = some (.inr (ci, fs))) (hci : ∃ T N, zcl[ci]? = some (k2.1.cls, T, N)) (hst : st0 = As.reverse ++ .ref (w.1 + i) :: rest) (hcat : (rest.map fun v => v.category).sum ≤ 8) (hdd : d2 + 1 ≤ d) (hst1 : v1.toList ++ rest = st1)
    (nx : zR w k d 0 0 v S' (pc + 3) lv st1 S1) : zR w k d 0 0 v S' pc lv st0 S := by
  subst hst1
  exact zR_callV hd hM hw hn hS0 hci hst hcat hdd (Nat.le_refl 0) (Nat.le_refl 0) nx
theorem zR_cS {k2 : zM} {n d2 idx : Nat} {As rest st0 st1 : List Value} {v1 : Option Value} {S1 : zS} (hd : decode k.2.1 pc = .ok (.invokestatic idx, 3)) (hM : zMet w k2 d2 0 0 As S v1 S1) (hw : zCS k.1.cls idx k2 n) (hn : As.length = n)
    (hst : st0 = As.reverse ++ rest) (hcat : (rest.map fun v => v.category).sum ≤ 8) (hdd : d2 + 1 ≤ d) (hst1 : v1.toList ++ rest = st1)
    (nx : zR w k d 0 0 v S' (pc + 3) lv st1 S1) : zR w k d 0 0 v S' pc lv st0 S := by
  subst hst1
  exact zR_callS hd hM hw hn hst hcat hdd (Nat.le_refl 0) (Nat.le_refl 0) nx
theorem zR_tabc {dflt lo hi : Int} {offs : Array Int} {len : Nat} {x c : Int32} {tgt : Nat} (hd : decode k.2.1 pc = .ok (.tableswitch dflt lo hi offs, len)) (hx : x = c) (h1 : (decide (c.toInt < lo) || decide (hi < c.toInt)) = false) (h2 : (offs[(c.toInt - lo).toNat]?).map (fun off => (pc : Int) + off) = some (tgt : Int)) (nx : zR w k d a z v S' tgt lv st S) : zR w k d a z v S' pc lv (.int x :: st) S := by
  subst hx
  simp only [Bool.or_eq_false_iff, decide_eq_false_iff_not] at h1
  cases ho : offs[(x.toInt - lo).toNat]? with
  | none => rw [ho] at h2; cases h2
  | some off =>
    rw [ho] at h2
    exact zR_tab hd h1.1 h1.2 ho (Option.some.inj h2) nx
theorem zR_lookc {dflt : Int} {ps : Array (Int × Int)} {len : Nat} {x c : Int32} {tgt : Nat} (hd : decode k.2.1 pc = .ok (.lookupswitch dflt ps, len)) (hx : x = c) (hp : (ps.toList.zip (ps.toList.drop 1)).all (fun (a, next) => a.1 < next.1) = true) (h2 : (pc : Int) + Op.lookupswitch.offset ps.toList dflt c.toInt = (tgt : Int)) (nx : zR w k d a z v S' tgt lv st S) : zR w k d a z v S' pc lv (.int x :: st) S := by
  subst hx
  exact zR_look hd hp rfl h2 nx
theorem zR_looko {dflt : Int} {ps : Array (Int × Int)} {len : Nat} {x : Int32} {tgt : Nat} (hd : decode k.2.1 pc = .ok (.lookupswitch dflt ps, len)) (hp : (ps.toList.zip (ps.toList.drop 1)).all (fun (a, next) => a.1 < next.1) = true) (h1 : Op.lookupswitch.offset ps.toList dflt x.toInt = dflt) (h2 : (pc : Int) + dflt = (tgt : Int)) (nx : zR w k d a z v S' tgt lv st S) : zR w k d a z v S' pc lv (.int x :: st) S := zR_look hd hp h1 h2 nx
end ZK
/-- the place j lies in a row of n -/
abbrev zix (j : Int32) (n : Nat) : Prop := ¬ (j < 0 ∨ n ≤ j.toNatClampNeg)
theorem znar0 : narrow .boolean (.int 0) = .int 0 := rfl
theorem znar1 : narrow .boolean (.int 1) = .int 1 := rfl
