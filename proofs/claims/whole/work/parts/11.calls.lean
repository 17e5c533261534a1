/-! ===== methods: from a walk to the method's judgement, and calls ===== -/
theorem zPre.blind {w : zW} {S : zS} {as : List Value} : FrameBlind (va_Pc as (zPre w S)) := by
  intro a U g mk h
  obtain ⟨h1, ⟨h2, h3, h4⟩, h5, h6, h7, h8⟩ := h
  exact ⟨h1, ⟨h2, h3, zOld.moved (u := U) (U := U.calling g mk a) (Vm.Alike.refl U.vm) h4⟩, va_K.moved (u := U) (U := U.calling g mk a) (Vm.Alike.refl U.vm) h5, h6, vk_R.same (u := U) (U := U.calling g mk a) rfl h7, zNw.same (u := U) (U := U.calling g mk a) rfl h8⟩
theorem zCB.use {own : String} {idx : Nat} {k k0 : zM} {n d d0 a z : Nat} {w : zW} {p : Program} {Rm : Room} {s : State} {m : MethodId} {args : Array Value} {meth : Method} {c : Code} (h : zCB own idx k n) (fx : zFx w k0 p s m args meth c) (hd : d + 1 ≤ d0) (h1 : d0 ≤ Rm.frames) (h2 : 64 * d0 ≤ Rm.locals) :
    CallB Rm s args own idx k.1 k.2.1 k.2.2.1 k.2.2.2 (Cond.code k.1 k.2.1 k.2.2.1 k.2.2.2 :: zT) { frames := d, cells := a, slots := z, locals := 64 * d } a z n := by
  obtain ⟨g1, g2, g3, g4, g5⟩ := h
  have hts := fx.2.2.2.2.2.2.1
  refine callB_of (Ts := zT) n hts (fun x hx => ?_) rfl rfl rfl (hts _ g2) (hts _ g1) g4 ⟨by show d + 1 ≤ Rm.frames; omega, by show 8 + (k.2.2.1 + 11) + 64 * d ≤ Rm.locals; omega⟩
  rcases List.mem_cons.mp hx with rfl | hx
  · exact ⟨g3, zGood _ g3⟩
  · exact ⟨hx, zGood _ hx⟩
section ZC
variable {w : zW} {k : zM} {d a z : Nat} {v : Option Value} {S' : zS} {pc : Nat} {lv : List (Nat × Value)} {st : List Value} {S : zS}
/-- behind a call -/
theorem zR_run {a2 z2 : Nat} {as rest st0 : List Value} {v1 : Option Value} {S1 : zS} (ha : a2 ≤ a) (hz : z2 ≤ z)
    (hr : ∀ (l : Launch) (p : Program) (e : Env) (Rm : Room) (s : State) (m : MethodId) (args : Array Value) (below : List Frame) (meth : Method) (c : Code), zFx w k p s m args meth c → d ≤ Rm.frames → 64 * d ≤ Rm.locals → ∀ (H : Heap) (locs : List Loc) (cells slots : Nat) (ls : Array Slot), zRep w s S H → lv_has ls k.2.2.1 lv → cells + a ≤ Rm.cells → slots + z ≤ Rm.slots →
      va_Run p l e Rm s m args below meth c H locs cells slots a2 z2 (F0 m pc ls st0) rest (zPost w v1 S1 as.toArray) (zA0 w))
    (nx : zR w k d (a - a2) (z - z2) v S' (pc + 3) lv (v1.toList ++ rest) S1) : zR w k d a z v S' pc lv st0 S := by
  intro l p e Rm s m args below meth c fx hd1 hl0 Q H locs cells slots ls hR hS hl hc hs hend
  have hr1 := hr l p e Rm s m args below meth c fx hd1 hl0 H locs cells slots ls hR hl hc hs
  intro T hT X
  obtain ⟨v', st₀, t, T', L, h0, X', hL, e1, e2, ⟨ho, hRp, hsz, hk⟩, stp⟩ := hr1 T hT X
  cases ho
  rw [h0] at hsz hk
  have hal : t.vm.Alike s.vm := by rw [← e2]; exact X'.warmed.alike.symm
  have hS1 : va_S (zA0 w) s.heap T'.heap (locs ++ L) := ⟨Nat.le_trans hS.1 (by rw [e1]; exact hsz), fun q h1 h2 => by rw [e1, hk q (Nat.lt_of_lt_of_le h1 hS.1) h2]; exact hS.2.1 q h1 h2, fun q hq => by
    rcases List.mem_append.mp hq with h | h
    · exact hS.2.2 q h
    · exact hL q h⟩
  have hR1 : zRep w s S1 T'.heap := by
    rw [e1]
    exact ⟨hRp.1, hRp.2.1, hRp.2.2.moved hal⟩
  obtain ⟨t2, a1, b1⟩ := nx l p e Rm s m args below meth c fx hd1 hl0 Q T'.heap (locs ++ L) (cells + a2) (slots + z2) ls hR1 hS1 hl (by omega) (by omega)
    (fun H' locs' cells' slots' ls' pc' st' g1 g2 g3 g4 g5 => hend H' locs' cells' slots' ls' pc' st' g1 g2 (by omega) (by omega) g5) T' rfl X'
  exact ⟨t2, stp t2 a1, b1⟩
theorem zPre.at {p : Program} {s : State} {m : MethodId} {args : Array Value} {meth : Method} {c : Code} {H : Heap} (fx : zFx w k p s m args meth c) (hR : zRep w s S H) {as : List Value} : ∀ U : State, U.heap = H → s.WarmedH U.vm → va_Pc as (zPre w S) as.toArray U := by
  intro U hU hW
  exact ⟨rfl, ⟨by rw [hU]; exact hR.1, by rw [hU]; exact hR.2.1, by rw [hU]; exact hR.2.2.moved hW.alike⟩, va_K.moved hW.alike fx.2.2.2.2.2.2.2.2.1, fx.2.2.2.2.2.2.2.2.2.1, fx.2.2.2.2.2.2.2.2.2.2.2.1.warm hW, fx.2.2.2.2.2.2.2.2.2.2.2.2.warm hW⟩
theorem zR_callV {k2 : zM} {n d2 a2 z2 idx i ci : Nat} {fs As rest st0 : List Value} {v1 : Option Value} {S1 : zS} (hd : decode k.2.1 pc = .ok (.invokevirtual idx, 3)) (hM : zMet w k2 d2 a2 z2 (.ref (w.1 + i) :: As) S v1 S1) (hw : zCV k.1.cls idx k2 n) (hn : As.length = n)
    (hS0 : S[i]? = some (.inr (ci, fs))) (hci : ∃ T N, zcl[ci]? = some (k2.1.cls, T, N)) (hst : st0 = As.reverse ++ .ref (w.1 + i) :: rest) (hcat : (rest.map fun v => v.category).sum ≤ 8) (hdd : d2 + 1 ≤ d) (ha : a2 ≤ a) (hz : z2 ≤ z)
    (nx : zR w k d (a - a2) (z - z2) v S' (pc + 3) lv (v1.toList ++ rest) S1) : zR w k d a z v S' pc lv st0 S := by
  refine zR_run (as := .ref (w.1 + i) :: As) ha hz (fun l p e Rm s m args below meth c fx hd1 hl0 H locs cells slots ls hR hl hc hs => ?_) nx
  obtain ⟨h1, h2, h3⟩ := hw
  obtain ⟨T, N, hci⟩ := hci
  have hts := fx.2.2.2.2.2.2.1
  exact va_runV (Ts := zT) (own := k.1.cls) (C := k2.1.cls) ⟨fx.1, fx.2.1, fx.2.2.2.2.1, fx.2.2.2.2.2.1, hts⟩ (hM l) ⟨h1.use fx hdd hd1 hl0, hts _ h2, hts _ h3⟩ ⟨zPre.blind, va_recv fx.2.2.2.2.2.2.2.2.1 hR.2.1 hci (zws_at hS0), zPre.at fx hR⟩ rfl hn hl.1 hst (lv_room (pc := pc) (ls := ls) (rest := st0) hcat) hd ⟨by omega, by omega⟩
theorem zR_callS {k2 : zM} {n d2 a2 z2 idx : Nat} {As rest st0 : List Value} {v1 : Option Value} {S1 : zS} (hd : decode k.2.1 pc = .ok (.invokestatic idx, 3)) (hM : zMet w k2 d2 a2 z2 As S v1 S1) (hw : zCS k.1.cls idx k2 n) (hn : As.length = n)
    (hst : st0 = As.reverse ++ rest) (hcat : (rest.map fun v => v.category).sum ≤ 8) (hdd : d2 + 1 ≤ d) (ha : a2 ≤ a) (hz : z2 ≤ z)
    (nx : zR w k d (a - a2) (z - z2) v S' (pc + 3) lv (v1.toList ++ rest) S1) : zR w k d a z v S' pc lv st0 S := by
  refine zR_run (as := As) ha hz (fun l p e Rm s m args below meth c fx hd1 hl0 H locs cells slots ls hR hl hc hs => ?_) nx
  have hts := fx.2.2.2.2.2.2.1
  exact va_runS (Ts := zT) (own := k.1.cls) ⟨fx.1, fx.2.1, fx.2.2.2.2.1, fx.2.2.2.2.2.1, hts⟩ (hM l) ⟨hw.1.use fx hdd hd1 hl0, hts _ hw.2⟩ ⟨zPre.blind, zPre.at fx hR⟩ rfl hn hl.1 hst (lv_room (pc := pc) (ls := ls) (rest := st0) hcat) hd ⟨by omega, by omega⟩
theorem zR_callI {k2 : zM} {n d2 a2 z2 idx i : Nat} {As rest st0 : List Value} {v1 : Option Value} {S1 : zS} (hd : decode k.2.1 pc = .ok (.invokespecial idx, 3)) (hM : zMet w k2 d2 a2 z2 (.ref (w.1 + i) :: As) S v1 S1) (hw : zCI k.1.cls idx k2 n) (hn : As.length = n)
    (hst : st0 = As.reverse ++ .ref (w.1 + i) :: rest) (hcat : (rest.map fun v => v.category).sum ≤ 8) (hdd : d2 + 1 ≤ d) (ha : a2 ≤ a) (hz : z2 ≤ z)
    (nx : zR w k d (a - a2) (z - z2) v S' (pc + 3) lv (v1.toList ++ rest) S1) : zR w k d a z v S' pc lv st0 S := by
  refine zR_run (as := .ref (w.1 + i) :: As) ha hz (fun l p e Rm s m args below meth c fx hd1 hl0 H locs cells slots ls hR hl hc hs => ?_) nx
  obtain ⟨h1, h2, h3, h4⟩ := hw
  have hts := fx.2.2.2.2.2.2.1
  have hcb := h1.use (a := a2) (z := z2) fx hdd hd1 hl0
  have hMl := hM l
  rw [h4] at hcb hMl
  exact va_runI (Ts := zT) (own := k.1.cls) ⟨fx.1, fx.2.1, fx.2.2.2.2.1, fx.2.2.2.2.2.1, hts⟩ hMl ⟨hcb, h3, hts _ h2⟩ ⟨zPre.blind, zPre.at fx hR⟩ rfl hn hl.1 hst (lv_room (pc := pc) (ls := ls) (rest := st0) hcat) hd ⟨by omega, by omega⟩
/-- a method's judgement out of the walk of its body -/
theorem zMet_of {as : List Value} (hy : plainName k.1.cls = true) (hlen : (lg_sl as).length ≤ k.2.2.1) (hz : a ≤ a) (h : ∀ q : w.2.2.2.1 < w.1, zR w k d a z v S' 0 (lv_args 0 as) [] S) : zMet w k d a z as S v S' := by
  intro l
  refine Met.ofW (cc := k.2.1) (maxL := k.2.2.1) (ret := k.2.2.2) hy rfl ?_
  intro p e s m args below meth c s₁ B hml hv
  obtain ⟨rfl, hRp, hK, hb, hsr⟩ := hv
  have hts0 := atoms_spec (ws := Cond.code k.1 k.2.1 k.2.2.1 k.2.2.2 :: zT) B.pre
  have fx : zFx w k p s m as.toArray meth c := ⟨B.exec, B.bytes, B.returns, B.notSynchronized, hml, findClass_of_methodNamed B.named, fun x hx => hts0 x (List.mem_cons_of_mem _ hx), (name_of_methodNamed B.named B.method).1, hK, hb, by rw [hRp.1]; exact Nat.le_add_right _ _, hsr⟩
  have hl := lv_entry as (n := k.2.2.1) hlen
  rw [lg_entry_eq]
  refine h hb l p e _ s m as.toArray below meth c fx (Nat.le_refl d) (Nat.le_refl (64 * d)) _ s.heap [] 0 0 _ hRp va_S.rf hl (by show 0 + a ≤ a; omega) (by show 0 + z ≤ z; omega) ?_
  intro H' locs' cells' slots' ls' pc' st' hR' hS' hc' hs' hend
  refine W.widen (k := a) (n := z) (by omega) (by omega) ?_
  have hpost : ∀ (t : State), t.heap = H' → s.WarmedH t.vm → zRep w t S' t.heap ∧ s.heap.size ≤ t.heap.size ∧ ∀ q : Nat, q < s.heap.size → ¬ zA0 w q → t.heap[q]? = s.heap[q]? := fun t ht hW => by
    rw [ht]
    exact ⟨⟨hR'.1, hR'.2.1, hR'.2.2.moved hW.alike⟩, hS'.1, hS'.2.1⟩
  rcases hend with ⟨x, ty, g1, rfl, rfl, g2, g3⟩ | ⟨x, g1, rfl, rfl, g2⟩ | ⟨g1, rfl, rfl, g2⟩
  · exact W.zret fx.1 fx.2.1 (fx.2.2.1.trans g2) g3 (fun t ht hW => ⟨rfl, hpost t ht hW⟩) hS'.2.2 g1
  · exact W.lret fx.1 fx.2.1 (fx.2.2.1.trans g2) (fun t ht hW => ⟨rfl, hpost t ht hW⟩) hS'.2.2 g1
  · exact W.vret fx.1 fx.2.1 (fx.2.2.1.trans g2) (fun t ht hW => ⟨rfl, hpost t ht hW⟩) hS'.2.2 g1
/-- a method's judgement with more room -/
theorem zR_objInit {idx i : Nat} (hd : decode k.2.1 pc = .ok (.invokespecial idx, 3)) (h1 : Cond.methodLink k.1.cls idx objectInit ∈ zT) (h2 : Cond.instanceMethod objectInit ∈ zT) (h3 : Cond.code objectInit ⟨#[0xb1]⟩ 1 none ∈ zT) (hdd : 1 ≤ d) (hcat : (st.map fun v => v.category).sum ≤ 8)
    (nx : zR w k d a z v S' (pc + 3) lv st S) : zR w k d a z v S' pc lv (.ref (w.1 + i) :: st) S := by
  intro l p e Rm s m args below meth c fx hd1 hl0 Q H locs cells slots ls hR hS hl hc hs hend
  have hts := fx.2.2.2.2.2.2.1
  refine W.objInit fx.1 fx.2.1 fx.2.2.2.2.2.1 (hts _ h1) (hts _ h2) (hts _ h3) rfl (by rw [fx.2.2.2.2.1]; exact hl.1) rfl hd (by omega) ?_ (nx l p e Rm s m args below meth c fx hd1 hl0 Q H locs cells slots ls hR hS hl hc hs hend)
  have hq := lv_room (pc := pc) (ls := ls) (m := m) (rest := .ref (w.1 + i) :: st) hcat
  have hq2 : 2 * (F0 m pc ls (.ref (w.1 + i) :: st)).monitorRoom + (st.map fun v => v.category).sum ≤ 8 := hq
  omega
/-- new: the object's number is the store's length -/
theorem zR_new {idx ci N : Nat} {C : String} {T : u_T} {fs : List Value} (hd : decode k.2.1 pc = .ok (.new idx, 3)) (hc0 : zcl[ci]? = some (C, T, N)) (ty : Nat → FieldType) (hty : ∀ j, j < N → parseFieldDescriptor (T j).2.2.1 = some (ty j)) (hfs : ∀ j, j < N → defaultValue (ty j) = vp_V fs j)
    (h1 : ∀ x ∈ u_ws C T N, x ∈ zT) (h2 : Cond.classLink k.1.cls idx C ∈ zT) (h3 : Cond.instantiable C N ∈ zT) (h4 : Cond.initialized C ∈ zT) (ha : 1 ≤ a) (hz : N ≤ z)
    (nx : zR w k d (a - 1) (z - N) v S' (pc + 3) lv (.ref (w.1 + S.length) :: st) (S ++ [.inr (ci, fs)])) : zR w k d a z v S' pc lv st S := by
  intro l p e Rm s m args below meth c fx hd1 hl0 Q H locs cells slots ls hR hS hl hc hs hend
  have hts := fx.2.2.2.2.2.2.1
  have hKn := fx.2.2.2.2.2.2.2.2.1.1 ci _ hc0
  refine W.newcK fx.1 fx.2.1 fx.2.2.2.2.2.1 (hts _ h2) (hts _ h3) (hts _ h4) rfl hd (by omega) (by omega) hKn.2.1 rfl fun H1 kC hkC e1 z1 o1 => ?_
  have hsz := hR.1
  have hS1 : va_S (zA0 w) s.heap H1 locs := ⟨Nat.le_trans hS.1 (by omega), fun x h1 h2 => (o1 x (Nat.lt_of_lt_of_le h1 hS.1)).trans (hS.2.1 x h1 h2), hS.2.2⟩
  have hR1 : zRep w s (S ++ [.inr (ci, fs)]) H1 := hR.push fx.2.2.2.2.2.2.2.2.2.1 (by rw [← hsz]; exact ⟨_, hc0, (u_born ty hts h1 hKn hkC e1 hty).to hfs⟩) z1 o1
  have hgo := nx l p e Rm s m args below meth c fx hd1 hl0 Q H1 locs (cells + 1) (slots + N) ls hR1 hS1 hl (by omega) (by omega)
    (fun H' locs' cells' slots' ls' pc' st' g1 g2 g3 g4 g5 => hend H' locs' cells' slots' ls' pc' st' g1 g2 (by omega) (by omega) g5)
  rw [← hsz] at hgo
  exact hgo
theorem zR_newarr {at0 : ArrayType} {t N : Nat} {x : Int32} {a0 : vp_A} (hd : decode k.2.1 pc = .ok (.newarray at0, 2)) (hw : Cond.arrayClass (newarray.typeOf at0) ∈ zT) (ht : ∀ w : zW, (zts w)[t]? = some (w.2.2.1 t, newarray.typeOf at0)) (ha0 : ∀ cA : ClassId, vp_cell cA a0 = arrV cA N (fun _ => defaultValue (newarray.typeOf at0)))
    (hneg : ¬ x < 0) (hN : x.toNatClampNeg = N) (hbytes : N * componentBytes (newarray.typeOf at0) ≤ 536870912) (hprim : ∀ (U : State) (cA : ClassId), va_RA U cA (newarray.typeOf at0) = (U.vm.findClass ("[" ++ (newarray.typeOf at0).toString) = some cA)) (ha : 1 ≤ a) (hz : N ≤ z)
    (nx : zR w k d (a - 1) (z - N) v S' (pc + 2) lv (.ref (w.1 + S.length) :: st) (S ++ [.inl (t, a0)])) : zR w k d a z v S' pc lv (.int x :: st) S := by
  intro l p e Rm s m args below meth c fx hd1 hl0 Q H locs cells slots ls hR hS hl hc hs hend
  have hts := fx.2.2.2.2.2.2.1
  refine va_newaK fx.1 fx.2.1 (hts _ hw) rfl hd rfl hneg hN hbytes (by omega) (by omega) rfl fun H1 cA e1 z1 o1 hAr hNm => ?_
  have hsz := hR.1
  have hcA : cA = w.2.2.1 t := by
    have h := (fx.2.2.2.2.2.2.2.2.1.2 t _ (ht w)).2
    rw [hprim] at h
    exact Option.some.inj (hNm.symm.trans h)
  have hS1 : va_S (zA0 w) s.heap H1 locs := ⟨Nat.le_trans hS.1 (by omega), fun x h1 h2 => (o1 x (Nat.lt_of_lt_of_le h1 hS.1)).trans (hS.2.1 x h1 h2), hS.2.2⟩
  have hR1 : zRep w s (S ++ [.inl (t, a0)]) H1 := hR.push fx.2.2.2.2.2.2.2.2.2.1 (by rw [← hsz]; show H1[H.size]? = some (vp_cell _ _); rw [ha0, e1, hcA]) z1 o1
  have hgo := nx l p e Rm s m args below meth c fx hd1 hl0 Q H1 locs (cells + 1) (slots + N) ls hR1 hS1 hl (by omega) (by omega)
    (fun H' locs' cells' slots' ls' pc' st' g1 g2 g3 g4 g5 => hend H' locs' cells' slots' ls' pc' st' g1 g2 (by omega) (by omega) g5)
  rw [← hsz] at hgo
  exact hgo
end ZC
