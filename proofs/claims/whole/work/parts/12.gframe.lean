/-! ===== the store of both systems by components: what each component holds, as functions of an object's number in it and of a field's ===== -/
abbrev zV : Type := (Nat → Nat → Int32) × (Nat → Nat → Int64) × (Nat → Nat → Int32) × (Nat → Nat → Int64) × (Nat → Nat → Nat) × (Nat → Nat)
def zI (V : zV) (r k : Nat) : Int32 := V.1 r k
def zL (V : zV) (r k : Nat) : Int64 := V.2.1 r k
def zA (V : zV) (r : Nat) : Nat → Int32 := V.2.2.1 r
def zB (V : zV) (r : Nat) : Nat → Int64 := V.2.2.2.1 r
def zP (V : zV) (r k : Nat) : Nat := V.2.2.2.2.1 r k
def zN (V : zV) (r : Nat) : Nat := V.2.2.2.2.2 r
def zsI (V : zV) (r k : Nat) (x : Int32) : zV := (fun a b => if a = r ∧ b = k then x else V.1 a b, V.2)
def zsL (V : zV) (r k : Nat) (x : Int64) : zV := (V.1, fun a b => if a = r ∧ b = k then x else V.2.1 a b, V.2.2)
def zsA (V : zV) (r : Nat) (f : Nat → Int32) : zV := (V.1, V.2.1, fun a => if a = r then f else V.2.2.1 a, V.2.2.2)
def zsB (V : zV) (r : Nat) (f : Nat → Int64) : zV := (V.1, V.2.1, V.2.2.1, fun a => if a = r then f else V.2.2.2.1 a, V.2.2.2.2)
def zsP (V : zV) (r k : Nat) (x : Nat) : zV := (V.1, V.2.1, V.2.2.1, V.2.2.2.1, fun a b => if a = r ∧ b = k then x else V.2.2.2.2.1 a b, V.2.2.2.2.2)
def z0 : zV := (fun _ _ => 0, fun _ _ => 0, fun _ _ => 0, fun _ _ => 0, fun _ _ => 0, fun _ => 0)
def zfv (w : zW) (V : zV) (r k : Nat) (s : Nat × Nat) : Value := match s.1 with
  | 0 => .int (zI V r k)
  | 1 => .long (zL V r k)
  | 2 => .ref (w.1 + s.2)
  | _ => .ref (w.1 + (s.2 + zP V r k))
def zal (V : zV) (r dy n : Nat) : Nat := match dy with
  | 0 => n
  | _ => zN V r
def zac (V : zV) (r t : Nat) : (Nat → Int32) ⊕ (Nat → Int64) ⊕ (Nat → UInt32) ⊕ (Nat → UInt64) ⊕ (Nat → Option Nat) := match t with
  | 2 => .inr (.inl (zB V r))
  | _ => .inl (zA V r)
def zgc (G : List zV) (c : Nat) : zV := (G[c]?).getD z0
def zbld (w : zW) (G : List zV) : zD → zC
  | .inl o => .inr (o.1, o.2.2.2.mapIdx fun k s => zfv w (zgc G o.2.1) o.2.2.1 k s)
  | .inr a => .inl (a.1, zal (zgc G a.2.1) a.2.2.1 a.2.2.2.1 a.2.2.2.2, zac (zgc G a.2.1) a.2.2.1 a.1)
theorem zbld_l {w : zW} {G : List zV} {ci c r : Nat} {ss : List (Nat × Nat)} : zbld w G (.inl (ci, c, r, ss)) = .inr (ci, ss.mapIdx fun k s => zfv w (zgc G c) r k s) := rfl
theorem zbld_r {w : zW} {G : List zV} {t c r dy n : Nat} : zbld w G (.inr (t, c, r, dy, n)) = .inl (t, zal (zgc G c) r dy n, zac (zgc G c) r t) := rfl
def zE (ds : List zD) (w : zW) (G : List zV) : zS := ds.map (zbld w G)
/-- the same at object r -/
def zsm (V V' : zV) (r : Nat) : Prop := (∀ k, zI V r k = zI V' r k) ∧ (∀ k, zL V r k = zL V' r k) ∧ zA V r = zA V' r ∧ zB V r = zB V' r ∧ (∀ k, zP V r k = zP V' r k) ∧ zN V r = zN V' r
theorem zfv_sm {w : zW} {V V' : zV} {r k : Nat} {s : Nat × Nat} (h1 : zI V r k = zI V' r k) (h2 : zL V r k = zL V' r k) (h3 : zP V r k = zP V' r k) : zfv w V r k s = zfv w V' r k s := by
  unfold zfv
  rw [h1, h2, h3]
theorem zbld_sm {w : zW} {G G' : List zV} {d : zD} (h : zsm (zgc G (zcr d).1) (zgc G' (zcr d).1) (zcr d).2) : zbld w G d = zbld w G' d := by
  obtain ⟨h1, h2, h3, h4, h5, h6⟩ := h
  cases d with
  | inl o =>
    show (Sum.inr _ : zC) = Sum.inr _
    have e : ∀ k s, zfv w (zgc G o.2.1) o.2.2.1 k s = zfv w (zgc G' o.2.1) o.2.2.1 k s := fun k s => zfv_sm (h1 k) (h2 k) (h5 k)
    simp only [e]
  | inr a =>
    show (Sum.inl _ : zC) = Sum.inl _
    have e1 : zal (zgc G a.2.1) a.2.2.1 a.2.2.2.1 a.2.2.2.2 = zal (zgc G' a.2.1) a.2.2.1 a.2.2.2.1 a.2.2.2.2 := by
      unfold zal
      split
      · rfl
      · exact h6
    have e2 : zac (zgc G a.2.1) a.2.2.1 a.1 = zac (zgc G' a.2.1) a.2.2.1 a.1 := by
      unfold zac
      split
      · exact congrArg (fun f => Sum.inr (Sum.inl f)) h4
      · exact congrArg Sum.inl h3
    rw [e1, e2]
theorem zgc_at {G : List zV} {c : Nat} {V : zV} (h : G[c]? = some V) : zgc G c = V := by unfold zgc; rw [h]; rfl
theorem zgc_set {G : List zV} {c : Nat} {V V' : zV} (h : G[c]? = some V) : zgc (G.set c V') c = V' := by
  unfold zgc
  rw [List.getElem?_set_self (List.getElem?_eq_some_iff.mp h).1]
  rfl
theorem zgc_set_ne {G : List zV} {c c' : Nat} {V' : zV} (h : c ≠ c') : zgc (G.set c V') c' = zgc G c' := by
  unfold zgc
  rw [List.getElem?_set_ne h]
/-- one cell written: one component changed at one object -/
theorem zE_set {ds : List zD} {w : zW} {G : List zV} {i c r : Nat} {d : zD} {V V' : zV} {x : zC} (hok : zok ds) (hi : ds[i]? = some d) (hcr : zcr d = (c, r)) (hV : G[c]? = some V) (hx : x = zbld w (G.set c V') d) (hsm : ∀ r', r' ≠ r → zsm V V' r') : (zE ds w G).set i x = zE ds w (G.set c V') := by
  unfold zE
  have hlt : i < ds.length := (List.getElem?_eq_some_iff.mp hi).1
  apply List.ext_getElem?
  intro j
  rw [List.getElem?_set, List.getElem?_map, List.length_map, List.getElem?_map]
  by_cases hij : i = j
  · subst hij
    rw [if_pos rfl, if_pos hlt, hi, hx]
    rfl
  · rw [if_neg hij]
    cases hj : ds[j]? with
    | none => rfl
    | some q =>
      show some _ = some _
      congr 1
      refine zbld_sm ?_
      by_cases hc : c = (zcr q).1
      · rw [← hc, zgc_set hV, zgc_at hV]
        refine hsm _ fun hr => hij (hok i j d q hi hj ?_)
        rw [hcr]
        exact Prod.ext hc hr.symm
      · rw [zgc_set_ne hc]
        exact ⟨fun _ => rfl, fun _ => rfl, rfl, rfl, fun _ => rfl, rfl⟩
theorem zE_at {ds : List zD} {w : zW} {G : List zV} {i : Nat} {d : zD} (hi : ds[i]? = some d) : (zE ds w G)[i]? = some (zbld w G d) := by
  unfold zE
  rw [List.getElem?_map, hi]
  rfl
theorem zsI_sm {V : zV} {r k : Nat} {x : Int32} : ∀ r', r' ≠ r → zsm V (zsI V r k x) r' := fun r' h => ⟨fun k' => by simp [zI, zsI, h], fun _ => rfl, rfl, rfl, fun _ => rfl, rfl⟩
theorem zsL_sm {V : zV} {r k : Nat} {x : Int64} : ∀ r', r' ≠ r → zsm V (zsL V r k x) r' := fun r' h => ⟨fun _ => rfl, fun k' => by simp [zL, zsL, h], rfl, rfl, fun _ => rfl, rfl⟩
theorem zsA_sm {V : zV} {r : Nat} {f : Nat → Int32} : ∀ r', r' ≠ r → zsm V (zsA V r f) r' := fun r' h => ⟨fun _ => rfl, fun _ => rfl, by simp [zA, zsA, h], rfl, fun _ => rfl, rfl⟩
theorem zsB_sm {V : zV} {r : Nat} {f : Nat → Int64} : ∀ r', r' ≠ r → zsm V (zsB V r f) r' := fun r' h => ⟨fun _ => rfl, fun _ => rfl, rfl, by simp [zB, zsB, h], fun _ => rfl, rfl⟩
theorem zsP_sm {V : zV} {r k x : Nat} : ∀ r', r' ≠ r → zsm V (zsP V r k x) r' := fun r' h => ⟨fun _ => rfl, fun _ => rfl, rfl, rfl, fun k' => by simp [zP, zsP, h], rfl⟩
/-- an object's fields, one of them set -/
theorem zfs_set {w : zW} {V V' : zV} {r kf : Nat} {x : Value} {ss : List (Nat × Nat)} {s : Nat × Nat} (hs : ss[kf]? = some s) (hx : zfv w V' r kf s = x) (hne : ∀ k s', k ≠ kf → zfv w V r k s' = zfv w V' r k s') : (ss.mapIdx fun k s => zfv w V r k s).set kf x = ss.mapIdx fun k s => zfv w V' r k s := by
  have hlt := (List.getElem?_eq_some_iff.mp hs).1
  apply List.ext_getElem?
  intro j
  rw [List.getElem?_set, List.getElem?_mapIdx, List.length_mapIdx, List.getElem?_mapIdx]
  by_cases hj : kf = j
  · subst hj
    rw [if_pos rfl, if_pos hlt, hs, ← hx]
    rfl
  · rw [if_neg hj]
    cases hq : ss[j]? with
    | none => rfl
    | some q => exact congrArg some (hne j q (Ne.symm hj))
section ZG
variable {ds : List zD} {w : zW} {k : zM} {d a z : Nat} {v : Option Value} {S' : zS} {pc : Nat} {lv : List (Nat × Value)} {st : List Value} {G : List zV}
theorem zG_get {idx i ci kf c r : Nat} {ss : List (Nat × Nat)} {s : Nat × Nat} {V : zV} (hd : decode k.2.1 pc = .ok (.getfield idx, 3)) (hf : zFld k.1.cls idx ci kf) (hi : ds[i]? = some (.inl (ci, c, r, ss))) (hs : ss[kf]? = some s) (hV : G[c]? = some V) (nx : zR w k d a z v S' (pc + 3) lv (zfv w V r kf s :: st) (zE ds w G)) : zR w k d a z v S' pc lv (.ref (w.1 + i) :: st) (zE ds w G) := by
  refine zR_get (fs := ss.mapIdx fun k s => zfv w V r k s) hd hf (by rw [zE_at hi, zbld_l, zgc_at hV]) ?_ nx
  rw [List.getElem?_mapIdx, hs]
  rfl
theorem zG_getI {idx i ci kf c r j : Nat} {ss : List (Nat × Nat)} {V : zV} (hd : decode k.2.1 pc = .ok (.getfield idx, 3)) (hf : zFld k.1.cls idx ci kf) (hi : ds[i]? = some (.inl (ci, c, r, ss))) (hs : ss[kf]? = some (0, j)) (hV : G[c]? = some V) (nx : zR w k d a z v S' (pc + 3) lv (.int (zI V r kf) :: st) (zE ds w G)) : zR w k d a z v S' pc lv (.ref (w.1 + i) :: st) (zE ds w G) := zG_get hd hf hi hs hV nx
theorem zG_getL {idx i ci kf c r j : Nat} {ss : List (Nat × Nat)} {V : zV} (hd : decode k.2.1 pc = .ok (.getfield idx, 3)) (hf : zFld k.1.cls idx ci kf) (hi : ds[i]? = some (.inl (ci, c, r, ss))) (hs : ss[kf]? = some (1, j)) (hV : G[c]? = some V) (nx : zR w k d a z v S' (pc + 3) lv (.long (zL V r kf) :: st) (zE ds w G)) : zR w k d a z v S' pc lv (.ref (w.1 + i) :: st) (zE ds w G) := zG_get hd hf hi hs hV nx
theorem zG_getR {idx i ci kf c r j : Nat} {ss : List (Nat × Nat)} {V : zV} (hd : decode k.2.1 pc = .ok (.getfield idx, 3)) (hf : zFld k.1.cls idx ci kf) (hi : ds[i]? = some (.inl (ci, c, r, ss))) (hs : ss[kf]? = some (2, j)) (hV : G[c]? = some V) (nx : zR w k d a z v S' (pc + 3) lv (.ref (w.1 + j) :: st) (zE ds w G)) : zR w k d a z v S' pc lv (.ref (w.1 + i) :: st) (zE ds w G) := zG_get hd hf hi hs hV nx
theorem zG_getP {idx i ci kf c r j : Nat} {ss : List (Nat × Nat)} {V : zV} (hd : decode k.2.1 pc = .ok (.getfield idx, 3)) (hf : zFld k.1.cls idx ci kf) (hi : ds[i]? = some (.inl (ci, c, r, ss))) (hs : ss[kf]? = some (3, j)) (hV : G[c]? = some V) (nx : zR w k d a z v S' (pc + 3) lv (.ref (w.1 + (j + zP V r kf)) :: st) (zE ds w G)) : zR w k d a z v S' pc lv (.ref (w.1 + i) :: st) (zE ds w G) := zG_get hd hf hi hs hV nx
theorem zG_put {idx i ci kf c r : Nat} {ss : List (Nat × Nat)} {s : Nat × Nat} {V V' : zV} {x : Value} {ty : FieldType} (hok : zok ds) (hd : decode k.2.1 pc = .ok (.putfield idx, 3)) (hf : zFld k.1.cls idx ci kf) (hy : zFty ci kf ty false) (hi : ds[i]? = some (.inl (ci, c, r, ss))) (hs : ss[kf]? = some s) (hV : G[c]? = some V) (hn : narrow ty x = x) (hfit : fits ty x = true)
    (hx : zfv w V' r kf s = x) (hne : ∀ k s', k ≠ kf → zfv w V r k s' = zfv w V' r k s') (hsm : ∀ r', r' ≠ r → zsm V V' r') (nx : zR w k d a z v S' (pc + 3) lv st (zE ds w (G.set c V'))) : zR w k d a z v S' pc lv (x :: .ref (w.1 + i) :: st) (zE ds w G) := by
  refine zR_put (fs := ss.mapIdx fun k s => zfv w V r k s) hd hf hy (by rw [zE_at hi, zbld_l, zgc_at hV]) (by rw [List.length_mapIdx]; exact (List.getElem?_eq_some_iff.mp hs).1) hn hfit ?_
  rw [zE_set (V := V) (V' := V') hok hi rfl hV ?_ hsm]
  · exact nx
  · rw [zbld_l, zgc_set hV, zfs_set hs hx hne]
theorem zG_putI {idx i ci kf c r j : Nat} {ss : List (Nat × Nat)} {V V' : zV} {G' : List zV} {x : Int32} (hok : zok ds) (hd : decode k.2.1 pc = .ok (.putfield idx, 3)) (hf : zFld k.1.cls idx ci kf) (hy : zFty ci kf .int false) (hi : ds[i]? = some (.inl (ci, c, r, ss))) (hs : ss[kf]? = some (0, j)) (hV : G[c]? = some V) (hV' : zsI V r kf x = V') (hG : G.set c V' = G') (nx : zR w k d a z v S' (pc + 3) lv st (zE ds w G')) : zR w k d a z v S' pc lv (.int x :: .ref (w.1 + i) :: st) (zE ds w G) := by
  subst hG
  subst hV'
  refine zG_put (V' := zsI V r kf x) hok hd hf hy hi hs hV rfl rfl ?_ (fun k s' hk => zfv_sm ?_ rfl rfl) zsI_sm nx
  · simp [zfv, zI, zsI]
  · simp [zI, zsI, hk]
theorem zG_putZ {idx i ci kf c r j : Nat} {ss : List (Nat × Nat)} {V V' : zV} {G' : List zV} {x : Int32} (hok : zok ds) (hd : decode k.2.1 pc = .ok (.putfield idx, 3)) (hf : zFld k.1.cls idx ci kf) (hy : zFty ci kf .boolean false) (hi : ds[i]? = some (.inl (ci, c, r, ss))) (hs : ss[kf]? = some (0, j)) (hV : G[c]? = some V) (h01 : x = 0 ∨ x = 1) (hV' : zsI V r kf x = V') (hG : G.set c V' = G') (nx : zR w k d a z v S' (pc + 3) lv st (zE ds w G')) : zR w k d a z v S' pc lv (.int x :: .ref (w.1 + i) :: st) (zE ds w G) := by
  subst hG
  subst hV'
  refine zG_put (V' := zsI V r kf x) hok hd hf hy hi hs hV (by rcases h01 with rfl | rfl <;> rfl) (by rcases h01 with rfl | rfl <;> rfl) ?_ (fun k s' hk => zfv_sm ?_ rfl rfl) zsI_sm nx
  · simp [zfv, zI, zsI]
  · simp [zI, zsI, hk]
theorem zG_putL {idx i ci kf c r j : Nat} {ss : List (Nat × Nat)} {V V' : zV} {G' : List zV} {x : Int64} (hok : zok ds) (hd : decode k.2.1 pc = .ok (.putfield idx, 3)) (hf : zFld k.1.cls idx ci kf) (hy : zFty ci kf .long false) (hi : ds[i]? = some (.inl (ci, c, r, ss))) (hs : ss[kf]? = some (1, j)) (hV : G[c]? = some V) (hV' : zsL V r kf x = V') (hG : G.set c V' = G') (nx : zR w k d a z v S' (pc + 3) lv st (zE ds w G')) : zR w k d a z v S' pc lv (.long x :: .ref (w.1 + i) :: st) (zE ds w G) := by
  subst hG
  subst hV'
  refine zG_put (V' := zsL V r kf x) hok hd hf hy hi hs hV rfl rfl ?_ (fun k s' hk => zfv_sm rfl ?_ rfl) zsL_sm nx
  · simp [zfv, zL, zsL]
  · simp [zL, zsL, hk]
theorem zG_putP {idx i ci kf c r j x : Nat} {ss : List (Nat × Nat)} {V V' : zV} {G' : List zV} (hok : zok ds) (hd : decode k.2.1 pc = .ok (.putfield idx, 3)) (hf : zFld k.1.cls idx ci kf) (hy : zFty ci kf (.array .int) false) (hi : ds[i]? = some (.inl (ci, c, r, ss))) (hs : ss[kf]? = some (3, j)) (hV : G[c]? = some V) (hV' : zsP V r kf x = V') (hG : G.set c V' = G') (nx : zR w k d a z v S' (pc + 3) lv st (zE ds w G')) : zR w k d a z v S' pc lv (.ref (w.1 + (j + x)) :: .ref (w.1 + i) :: st) (zE ds w G) := by
  subst hG
  subst hV'
  refine zG_put (V' := zsP V r kf x) hok hd hf hy hi hs hV rfl rfl ?_ (fun k s' hk => zfv_sm rfl rfl ?_) zsP_sm nx
  · simp [zfv, zP, zsP]
  · simp [zP, zsP, hk]
theorem zE_arr {i t c r dy n N : Nat} {V : zV} (hi : ds[i]? = some (.inr (t, c, r, dy, n))) (hV : G[c]? = some V) (hN : zal V r dy n = N) : (zE ds w G)[i]? = some (.inl (t, N, zac V r t)) := by
  rw [zE_at hi, zbld_r, zgc_at hV, ← hN]
theorem zG_iald {i c r dy n N : Nat} {V : zV} {j : Int32} (hd : decode k.2.1 pc = .ok (.iaload, 1)) (hi : ds[i]? = some (.inr (0, c, r, dy, n))) (hV : G[c]? = some V) (hN : zal V r dy n = N) (hj : vp_in j N) (nx : zR w k d a z v S' (pc + 1) lv (.int (zA V r j.toNatClampNeg) :: st) (zE ds w G)) : zR w k d a z v S' pc lv (.int j :: .ref (w.1 + i) :: st) (zE ds w G) := zR_iald hd (zE_arr hi hV hN) hj nx
theorem zG_bald {i c r dy n N : Nat} {V : zV} {j : Int32} (hd : decode k.2.1 pc = .ok (.baload, 1)) (hi : ds[i]? = some (.inr (1, c, r, dy, n))) (hV : G[c]? = some V) (hN : zal V r dy n = N) (hj : vp_in j N) (nx : zR w k d a z v S' (pc + 1) lv (.int (zA V r j.toNatClampNeg) :: st) (zE ds w G)) : zR w k d a z v S' pc lv (.int j :: .ref (w.1 + i) :: st) (zE ds w G) := zR_bald hd (zE_arr hi hV hN) hj nx
theorem zG_zald {i c r dy n N : Nat} {V : zV} {j : Int32} (hd : decode k.2.1 pc = .ok (.baload, 1)) (hi : ds[i]? = some (.inr (3, c, r, dy, n))) (hV : G[c]? = some V) (hN : zal V r dy n = N) (hj : vp_in j N) (nx : zR w k d a z v S' (pc + 1) lv (.int (zA V r j.toNatClampNeg) :: st) (zE ds w G)) : zR w k d a z v S' pc lv (.int j :: .ref (w.1 + i) :: st) (zE ds w G) := zR_zald hd (zE_arr hi hV hN) hj nx
theorem zG_lald {i c r dy n N : Nat} {V : zV} {j : Int32} (hd : decode k.2.1 pc = .ok (.laload, 1)) (hi : ds[i]? = some (.inr (2, c, r, dy, n))) (hV : G[c]? = some V) (hN : zal V r dy n = N) (hj : vp_in j N) (nx : zR w k d a z v S' (pc + 1) lv (.long (zB V r j.toNatClampNeg) :: st) (zE ds w G)) : zR w k d a z v S' pc lv (.int j :: .ref (w.1 + i) :: st) (zE ds w G) := zR_lald hd (zE_arr hi hV hN) hj nx
theorem zG_alen {i t c r dy n N : Nat} {V : zV} {u : Int32} (hd : decode k.2.1 pc = .ok (.arraylength, 1)) (hi : ds[i]? = some (.inr (t, c, r, dy, n))) (ht : t < 4) (hV : G[c]? = some V) (hN : zal V r dy n = N) (hu : Int32.ofNat N = u) (nx : zR w k d a z v S' (pc + 1) lv (.int u :: st) (zE ds w G)) : zR w k d a z v S' pc lv (.ref (w.1 + i) :: st) (zE ds w G) := zR_alen hd (zE_arr hi hV hN) ht hu nx
theorem zG_iast {i c r dy n N : Nat} {V V' : zV} {G' : List zV} {j : Int32} {x : Int32} (hok : zok ds) (hd : decode k.2.1 pc = .ok (.iastore, 1)) (hi : ds[i]? = some (.inr (0, c, r, dy, n))) (hV : G[c]? = some V) (hN : zal V r dy n = N) (hj : vp_in j N) (hV' : zsA V r (upd (zA V r) j.toNatClampNeg x) = V') (hG : G.set c V' = G') (nx : zR w k d a z v S' (pc + 1) lv st (zE ds w G')) : zR w k d a z v S' pc lv (.int x :: .int j :: .ref (w.1 + i) :: st) (zE ds w G) := by
  subst hG
  subst hV'
  refine zR_iast hd (zE_arr hi hV hN) hj ?_
  rw [zE_set (V := V) (V' := zsA V r (upd (zA V r) j.toNatClampNeg x)) hok hi rfl hV ?_ zsA_sm]
  · exact nx
  · rw [zbld_r, zgc_set hV, ← hN]
    simp [zac, zal, zA, zsA, zN]
theorem zG_bast {i c r dy n N : Nat} {V V' : zV} {G' : List zV} {j : Int32} {x : Int32} (hok : zok ds) (hd : decode k.2.1 pc = .ok (.bastore, 1)) (hi : ds[i]? = some (.inr (1, c, r, dy, n))) (hV : G[c]? = some V) (hN : zal V r dy n = N) (hj : vp_in j N) (hV' : zsA V r (upd (zA V r) j.toNatClampNeg (vp_nar .byte x)) = V') (hG : G.set c V' = G') (nx : zR w k d a z v S' (pc + 1) lv st (zE ds w G')) : zR w k d a z v S' pc lv (.int x :: .int j :: .ref (w.1 + i) :: st) (zE ds w G) := by
  subst hG
  subst hV'
  refine zR_bast hd (zE_arr hi hV hN) hj ?_
  rw [zE_set (V := V) (V' := zsA V r (upd (zA V r) j.toNatClampNeg (vp_nar .byte x))) hok hi rfl hV ?_ zsA_sm]
  · exact nx
  · rw [zbld_r, zgc_set hV, ← hN]
    simp [zac, zal, zA, zsA, zN]
theorem zG_zast {i c r dy n N : Nat} {V V' : zV} {G' : List zV} {j : Int32} {x : Int32} (hok : zok ds) (hd : decode k.2.1 pc = .ok (.bastore, 1)) (hi : ds[i]? = some (.inr (3, c, r, dy, n))) (hV : G[c]? = some V) (hN : zal V r dy n = N) (hj : vp_in j N) (hV' : zsA V r (upd (zA V r) j.toNatClampNeg (vp_nar .boolean x)) = V') (hG : G.set c V' = G') (nx : zR w k d a z v S' (pc + 1) lv st (zE ds w G')) : zR w k d a z v S' pc lv (.int x :: .int j :: .ref (w.1 + i) :: st) (zE ds w G) := by
  subst hG
  subst hV'
  refine zR_zast hd (zE_arr hi hV hN) hj ?_
  rw [zE_set (V := V) (V' := zsA V r (upd (zA V r) j.toNatClampNeg (vp_nar .boolean x))) hok hi rfl hV ?_ zsA_sm]
  · exact nx
  · rw [zbld_r, zgc_set hV, ← hN]
    simp [zac, zal, zA, zsA, zN]
theorem zG_last {i c r dy n N : Nat} {V V' : zV} {G' : List zV} {j : Int32} {x : Int64} (hok : zok ds) (hd : decode k.2.1 pc = .ok (.lastore, 1)) (hi : ds[i]? = some (.inr (2, c, r, dy, n))) (hV : G[c]? = some V) (hN : zal V r dy n = N) (hj : vp_in j N) (hV' : zsB V r (vp_updL (zB V r) j.toNatClampNeg x) = V') (hG : G.set c V' = G') (nx : zR w k d a z v S' (pc + 1) lv st (zE ds w G')) : zR w k d a z v S' pc lv (.long x :: .int j :: .ref (w.1 + i) :: st) (zE ds w G) := by
  subst hG
  subst hV'
  refine zR_last hd (zE_arr hi hV hN) hj ?_
  rw [zE_set (V := V) (V' := zsB V r (vp_updL (zB V r) j.toNatClampNeg x)) hok hi rfl hV ?_ zsB_sm]
  · exact nx
  · rw [zbld_r, zgc_set hV, ← hN]
    simp [zac, zal, zB, zsB, zN]
end ZG
def zchk {α : Type} (c : Prop) [Decidable c] (x : Option α) : Option α := if c then x else none
theorem zchk_some {α : Type} {c : Prop} [Decidable c] {x : Option α} {r : α} (h : zchk c x = some r) : c ∧ x = some r := by
  unfold zchk at h
  split at h
  · exact ⟨by assumption, h⟩
  · cases h
theorem zchk_t {α : Type} {c : Prop} [Decidable c] {x : Option α} (h : c) : zchk c x = x := if_pos h
def zbd {α β : Type} (x : Option α) (f : α → Option β) : Option β := match x with
  | none => none
  | some y => f y
theorem zbd_some {α β : Type} {x : Option α} {f : α → Option β} {r : β} (h : zbd x f = some r) : ∃ y, x = some y ∧ f y = some r := by
  cases x with
  | none => cases h
  | some y => exact ⟨y, rfl, h⟩
theorem zbd_t {α β : Type} {x : Option α} {y : α} {f : α → Option β} (h : x = some y) : zbd x f = f y := by rw [h]; rfl
def zlet {α β : Type} (x : α) (f : α → β) : β := f x
theorem zlet_some {α β : Type} {x : α} {f : α → Option β} {r : β} (h : zlet x f = some r) : ∃ y, x = y ∧ f y = some r := ⟨x, rfl, h⟩
theorem zif_t {α : Type} {c : Prop} [Decidable c] {x y r : α} (h : (if c then x else y) = r) (hc : c) : x = r := by rw [if_pos hc] at h; exact h
theorem zif_f {α : Type} {c : Prop} [Decidable c] {x y r : α} (h : (if c then x else y) = r) (hc : ¬ c) : y = r := by rw [if_neg hc] at h; exact h
def zin (j : Int32) (n : Nat) : Prop := ¬ (j < 0 ∨ n ≤ j.toNatClampNeg)
theorem zne {x c : Int32} {n : Int} (h : ¬ x = c) (hc : c.toInt = n) : x.toInt ≠ n := fun e => h (Int32.toInt_inj.mp (e.trans hc.symm))
