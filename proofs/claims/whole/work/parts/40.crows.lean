/-! ===== constructors: a store pre ++ this :: tl ===== -/
section ZP
variable {w : zW} {k : zM} {d a z : Nat} {v : Option Value} {S' : zS} {pc : Nat} {lv : List (Nat × Value)} {st : List Value} {pre tl : zS} {n : Nat}
theorem zp_at {c : zC} (hn : pre.length = n) : (pre ++ c :: tl)[n]? = some c := by subst hn; simp
theorem zp_set {c c' : zC} (hn : pre.length = n) : (pre ++ c :: tl).set n c' = pre ++ c' :: tl := by subst hn; simp
theorem zp_len {c : zC} (hn : pre.length = n) : (pre ++ c :: tl).length = n + 1 + tl.length := by subst hn; simp; omega
theorem zp_app {c x : zC} : (pre ++ c :: tl) ++ [x] = pre ++ c :: (tl ++ [x]) := by simp
theorem zK_get {idx ci kf : Nat} {fs : List Value} {x : Value} (hn : pre.length = n) (hd : decode k.2.1 pc = .ok (.getfield idx, 3)) (hf : zFld k.1.cls idx ci kf) (hx : fs[kf]? = some x) (nx : zR w k d a z v S' (pc + 3) lv (x :: st) (pre ++ .inr (ci, fs) :: tl)) : zR w k d a z v S' pc lv (.ref (w.1 + n) :: st) (pre ++ .inr (ci, fs) :: tl) := zR_get hd hf (zp_at hn) hx nx
theorem zK_put {idx ci kf : Nat} {fs : List Value} {x : Value} {ty : FieldType} (hn : pre.length = n) (hd : decode k.2.1 pc = .ok (.putfield idx, 3)) (hf : zFld k.1.cls idx ci kf) (hy : zFty ci kf ty false) (hk : kf < fs.length) (hnr : narrow ty x = x) (hfit : fits ty x = true)
    (nx : zR w k d a z v S' (pc + 3) lv st (pre ++ .inr (ci, fs.set kf x) :: tl)) : zR w k d a z v S' pc lv (x :: .ref (w.1 + n) :: st) (pre ++ .inr (ci, fs) :: tl) := by
  refine zR_put hd hf hy (zp_at hn) hk hnr hfit ?_
  rw [zp_set hn]
  exact nx
theorem zK_putF {idx ci kf : Nat} {fs : List Value} {x : Value} {ty : FieldType} (hn : pre.length = n) (hd : decode k.2.1 pc = .ok (.putfield idx, 3)) (hf : zFld k.1.cls idx ci kf) (hy : zFty ci kf ty true) (hin2 : k.1.name = "<init>") (hown2 : ∃ T N, zcl[ci]? = some (k.1.cls, T, N)) (hk : kf < fs.length) (hnr : narrow ty x = x) (hfit : fits ty x = true)
    (nx : zR w k d a z v S' (pc + 3) lv st (pre ++ .inr (ci, fs.set kf x) :: tl)) : zR w k d a z v S' pc lv (x :: .ref (w.1 + n) :: st) (pre ++ .inr (ci, fs) :: tl) := by
  refine zR_putF hd hf hy hin2 hown2 (zp_at hn) hk hnr hfit ?_
  rw [zp_set hn]
  exact nx
theorem zK_new {idx ci N q : Nat} {C : String} {T : u_T} {fs : List Value} {c : zC} (hn : pre.length = n) (hd : decode k.2.1 pc = .ok (.new idx, 3)) (hc0 : zcl[ci]? = some (C, T, N)) (ty : Nat → FieldType) (hty : ∀ j, j < N → parseFieldDescriptor (T j).2.2.1 = some (ty j)) (hfs : ∀ j, j < N → defaultValue (ty j) = vp_V fs j)
    (h1 : ∀ x ∈ u_ws C T N, x ∈ zT) (h2 : Cond.classLink k.1.cls idx C ∈ zT) (h3 : Cond.instantiable C N ∈ zT) (h4 : Cond.initialized C ∈ zT) (ha : 1 ≤ a) (hz : N ≤ z) (hq : n + 1 + tl.length = q)
    (nx : zR w k d (a - 1) (z - N) v S' (pc + 3) lv (.ref (w.1 + q) :: st) (pre ++ c :: (tl ++ [.inr (ci, fs)]))) : zR w k d a z v S' pc lv st (pre ++ c :: tl) := by
  refine zR_new hd hc0 ty hty hfs h1 h2 h3 h4 ha hz ?_
  rw [zp_len hn, hq, zp_app]
  exact nx
theorem zK_newI {x : Int32} {N q : Nat} {c : zC} (hn : pre.length = n) (hd : decode k.2.1 pc = .ok (.newarray .int, 2)) (hw : Cond.arrayClass .int ∈ zT) (hneg : ¬ x < 0) (hN : x.toNatClampNeg = N) (hb : N ≤ 1000000) (ha : 1 ≤ a) (hz : N ≤ z) (hq : n + 1 + tl.length = q)
    (nx : zR w k d (a - 1) (z - N) v S' (pc + 2) lv (.ref (w.1 + q) :: st) (pre ++ c :: (tl ++ [.inl (0, (N, .inl fun _ => 0))]))) : zR w k d a z v S' pc lv (.int x :: st) (pre ++ c :: tl) := by
  refine zR_newarr (at0 := .int) (t := 0) (a0 := (N, .inl fun _ => 0)) hd hw (fun _ => rfl) (fun _ => rfl) hneg hN (Nat.le_trans (Nat.mul_le_mul hb (show componentBytes (newarray.typeOf .int) ≤ 8 from by decide)) (by decide)) (fun _ _ => rfl) ha hz ?_
  rw [zp_len hn, hq, zp_app]
  exact nx
theorem zK_newB {x : Int32} {N q : Nat} {c : zC} (hn : pre.length = n) (hd : decode k.2.1 pc = .ok (.newarray .byte, 2)) (hw : Cond.arrayClass .byte ∈ zT) (hneg : ¬ x < 0) (hN : x.toNatClampNeg = N) (hb : N ≤ 1000000) (ha : 1 ≤ a) (hz : N ≤ z) (hq : n + 1 + tl.length = q)
    (nx : zR w k d (a - 1) (z - N) v S' (pc + 2) lv (.ref (w.1 + q) :: st) (pre ++ c :: (tl ++ [.inl (1, (N, .inl fun _ => 0))]))) : zR w k d a z v S' pc lv (.int x :: st) (pre ++ c :: tl) := by
  refine zR_newarr (at0 := .byte) (t := 1) (a0 := (N, .inl fun _ => 0)) hd hw (fun _ => rfl) (fun _ => rfl) hneg hN (Nat.le_trans (Nat.mul_le_mul hb (show componentBytes (newarray.typeOf .byte) ≤ 8 from by decide)) (by decide)) (fun _ _ => rfl) ha hz ?_
  rw [zp_len hn, hq, zp_app]
  exact nx
theorem zK_newJ {x : Int32} {N q : Nat} {c : zC} (hn : pre.length = n) (hd : decode k.2.1 pc = .ok (.newarray .long, 2)) (hw : Cond.arrayClass .long ∈ zT) (hneg : ¬ x < 0) (hN : x.toNatClampNeg = N) (hb : N ≤ 1000000) (ha : 1 ≤ a) (hz : N ≤ z) (hq : n + 1 + tl.length = q)
    (nx : zR w k d (a - 1) (z - N) v S' (pc + 2) lv (.ref (w.1 + q) :: st) (pre ++ c :: (tl ++ [.inl (2, (N, .inr (.inl fun _ => 0)))]))) : zR w k d a z v S' pc lv (.int x :: st) (pre ++ c :: tl) := by
  refine zR_newarr (at0 := .long) (t := 2) (a0 := (N, .inr (.inl fun _ => 0))) hd hw (fun _ => rfl) (fun _ => rfl) hneg hN (Nat.le_trans (Nat.mul_le_mul hb (show componentBytes (newarray.typeOf .long) ≤ 8 from by decide)) (by decide)) (fun _ _ => rfl) ha hz ?_
  rw [zp_len hn, hq, zp_app]
  exact nx
theorem zK_newZ {x : Int32} {N q : Nat} {c : zC} (hn : pre.length = n) (hd : decode k.2.1 pc = .ok (.newarray .boolean, 2)) (hw : Cond.arrayClass .boolean ∈ zT) (hneg : ¬ x < 0) (hN : x.toNatClampNeg = N) (hb : N ≤ 1000000) (ha : 1 ≤ a) (hz : N ≤ z) (hq : n + 1 + tl.length = q)
    (nx : zR w k d (a - 1) (z - N) v S' (pc + 2) lv (.ref (w.1 + q) :: st) (pre ++ c :: (tl ++ [.inl (3, (N, .inl fun _ => 0))]))) : zR w k d a z v S' pc lv (.int x :: st) (pre ++ c :: tl) := by
  refine zR_newarr (at0 := .boolean) (t := 3) (a0 := (N, .inl fun _ => 0)) hd hw (fun _ => rfl) (fun _ => rfl) hneg hN (Nat.le_trans (Nat.mul_le_mul hb (show componentBytes (newarray.typeOf .boolean) ≤ 8 from by decide)) (by decide)) (fun _ _ => rfl) ha hz ?_
  rw [zp_len hn, hq, zp_app]
  exact nx
theorem zK_callI {k2 : zM} {m d2 a2 z2 idx i : Nat} {As rest st0 : List Value} {c x : zC} {arrs : zS} (hd : decode k.2.1 pc = .ok (.invokespecial idx, 3)) (hM : zMet w k2 d2 a2 z2 (.ref (w.1 + i) :: As) ((pre ++ c :: tl) ++ [x]) none ((pre ++ c :: tl) ++ arrs)) (hw : zCI k.1.cls idx k2 m) (hm : As.length = m)
    (hst : st0 = As.reverse ++ .ref (w.1 + i) :: rest) (hcat : (rest.map fun v => v.category).sum ≤ 8) (hdd : d2 + 1 ≤ d) (ha : a2 ≤ a) (hz : z2 ≤ z)
    (nx : zR w k d (a - a2) (z - z2) v S' (pc + 3) lv rest (pre ++ c :: (tl ++ arrs))) : zR w k d a z v S' pc lv st0 (pre ++ c :: (tl ++ [x])) := by
  rw [zp_app] at hM
  rw [show (pre ++ c :: tl) ++ arrs = pre ++ c :: (tl ++ arrs) from by simp] at hM
  exact zR_callI hd hM hw hm hst hcat hdd ha hz nx
/-- a private constructor of a nest mate -/
theorem zR_callIN {k2 : zM} {n d2 a2 z2 idx i : Nat} {host : String} {As rest st0 : List Value} {S S1 : zS} (hd : decode k.2.1 pc = .ok (.invokespecial idx, 3)) (hM : zMet w k2 d2 a2 z2 (.ref (w.1 + i) :: As) S none S1) (hl : ∀ s : State, zNw s → va_Nw (.methodLinkNest k.1.cls idx k2.1 host) s) (g2 : Cond.initialized k2.1.cls ∈ zT) (g3 : Cond.code k2.1 k2.2.1 k2.2.2.1 k2.2.2.2 ∈ zT) (g4 : k2.1.cls ≠ "java/lang/invoke/MethodHandle" ∧ k2.1.cls ≠ "java/lang/invoke/VarHandle" ∧ (parseMethodDescriptor k2.1.desc).map (fun d => d.parameters.length) = some n) (g5 : k2.2.2.1 ≤ 45) (g6 : Cond.instanceMethod k2.1 ∈ zT) (g7 : k2.1.name = "<init>") (g8 : k2.2.2.2 = none) (hn : As.length = n)
    (hst : st0 = As.reverse ++ .ref (w.1 + i) :: rest) (hcat : (rest.map fun v => v.category).sum ≤ 8) (hdd : d2 + 1 ≤ d) (ha : a2 ≤ a) (hz : z2 ≤ z)
    (nx : zR w k d (a - a2) (z - z2) v S' (pc + 3) lv rest S1) : zR w k d a z v S' pc lv st0 S := by
  refine zR_run (as := .ref (w.1 + i) :: As) (v1 := none) ha hz (fun l p e Rm s m args below meth c fx hd1 hl0 H locs cells slots ls hR hl2 hc hs => ?_) nx
  have hts := fx.2.2.2.2.2.2.1
  have hMl := hM l
  rw [g8] at hMl g3
  have hGood : GoodIn zT (Cond.code k2.1 k2.2.1 k2.2.2.1 none :: zT) := fun x hx => by
    rcases List.mem_cons.mp hx with rfl | hx
    · exact ⟨g3, zGood _ g3⟩
    · exact ⟨hx, zGood _ hx⟩
  have hcn := va_cnB (R := Rm) (own := k.1.cls) (index := idx) (host := host) (y := k2.1) (bytes := k2.2.1) (maxL := k2.2.2.1) (ret := none) (ws' := zT) (rm := { frames := d2, cells := a2, slots := z2, locals := 64 * d2 }) (mc := a2) (ms := z2) n hts hGood rfl rfl rfl (hl s fx.2.2.2.2.2.2.2.2.2.2.2.2) (hts _ g2) g4 ⟨by show d2 + 1 ≤ Rm.frames; omega, by show 8 + (k2.2.2.1 + 11) + 64 * d2 ≤ Rm.locals; omega⟩
  exact va_runIN (Ts := zT) (own := k.1.cls) (host := host) ⟨fx.1, fx.2.1, fx.2.2.2.2.1, fx.2.2.2.2.2.1, hts⟩ hMl ⟨hcn, g7, hts _ g6⟩ ⟨zPre.blind, zPre.at fx hR⟩ rfl hn hl2.1 hst (lv_room (pc := pc) (ls := ls) (rest := st0) hcat) hd ⟨by omega, by omega⟩
theorem zK_callIN {k2 : zM} {m d2 a2 z2 idx i : Nat} {host : String} {As rest st0 : List Value} {c x : zC} {arrs : zS} (hd : decode k.2.1 pc = .ok (.invokespecial idx, 3)) (hM : zMet w k2 d2 a2 z2 (.ref (w.1 + i) :: As) ((pre ++ c :: tl) ++ [x]) none ((pre ++ c :: tl) ++ arrs)) (hl : ∀ s : State, zNw s → va_Nw (.methodLinkNest k.1.cls idx k2.1 host) s) (g2 : Cond.initialized k2.1.cls ∈ zT) (g3 : Cond.code k2.1 k2.2.1 k2.2.2.1 k2.2.2.2 ∈ zT) (g4 : k2.1.cls ≠ "java/lang/invoke/MethodHandle" ∧ k2.1.cls ≠ "java/lang/invoke/VarHandle" ∧ (parseMethodDescriptor k2.1.desc).map (fun d => d.parameters.length) = some m) (g5 : k2.2.2.1 ≤ 45) (g6 : Cond.instanceMethod k2.1 ∈ zT) (g7 : k2.1.name = "<init>") (g8 : k2.2.2.2 = none) (hm : As.length = m)
    (hst : st0 = As.reverse ++ .ref (w.1 + i) :: rest) (hcat : (rest.map fun v => v.category).sum ≤ 8) (hdd : d2 + 1 ≤ d) (ha : a2 ≤ a) (hz : z2 ≤ z)
    (nx : zR w k d (a - a2) (z - z2) v S' (pc + 3) lv rest (pre ++ c :: (tl ++ arrs))) : zR w k d a z v S' pc lv st0 (pre ++ c :: (tl ++ [x])) := by
  rw [zp_app] at hM
  rw [show (pre ++ c :: tl) ++ arrs = pre ++ c :: (tl ++ arrs) from by simp] at hM
  exact zR_callIN hd hM hl g2 g3 g4 g5 g6 g7 g8 hm hst hcat hdd ha hz nx
end ZP
section ZP2
variable {w : zW} {k : zM} {d a z : Nat} {v : Option Value} {S' : zS} {pc : Nat} {lv : List (Nat × Value)} {st : List Value} {pre tl : zS} {n : Nat}
theorem zp_tl {c : zC} {i j : Nat} (hn : pre.length = n) (hq : n + 1 + j = i) : (pre ++ c :: tl)[i]? = tl[j]? := by
  subst hn
  subst hq
  rw [List.getElem?_append_right (by omega), show pre.length + 1 + j - pre.length = j + 1 from by omega, List.getElem?_cons_succ]
theorem zp_tset {c x : zC} {i j : Nat} (hn : pre.length = n) (hq : n + 1 + j = i) : (pre ++ c :: tl).set i x = pre ++ c :: tl.set j x := by
  subst hn
  subst hq
  rw [List.set_append_right _ _ (by omega), show pre.length + 1 + j - pre.length = j + 1 from by omega, List.set_cons_succ]
theorem zK_last {i j0 N : Nat} {f : Nat → Int64} {c : zC} {j : Int32} {x : Int64} (hn : pre.length = n) (hq : n + 1 + j0 = i) (hd : decode k.2.1 pc = .ok (.lastore, 1)) (ht : tl[j0]? = some (.inl (2, N, .inr (.inl f)))) (hj : vp_in j N) (nx : zR w k d a z v S' (pc + 1) lv st (pre ++ c :: tl.set j0 (.inl (2, N, .inr (.inl (vp_updL f j.toNatClampNeg x)))))) : zR w k d a z v S' pc lv (.long x :: .int j :: .ref (w.1 + i) :: st) (pre ++ c :: tl) := by
  refine zR_last hd ((zp_tl hn hq).trans ht) hj ?_
  rw [zp_tset hn hq]
  exact nx
theorem zK_alen {i j0 t : Nat} {x : vp_A} {c : zC} {u : Int32} (hn : pre.length = n) (hq : n + 1 + j0 = i) (hd : decode k.2.1 pc = .ok (.arraylength, 1)) (ht : tl[j0]? = some (.inl (t, x))) (h4 : t < 4) (hu : Int32.ofNat x.1 = u) (nx : zR w k d a z v S' (pc + 1) lv (.int u :: st) (pre ++ c :: tl)) : zR w k d a z v S' pc lv (.ref (w.1 + i) :: st) (pre ++ c :: tl) := zR_alen hd ((zp_tl hn hq).trans ht) h4 hu nx
end ZP2
