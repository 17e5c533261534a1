/-! ===== the frame of these proofs: a store of numbered cells, a judgement for a frame (zR), one for a method (zMet) ===== -/
/-- links of private constructors within the nest: they aren't among the good words -/
def zNw (U : State) : Prop := va_Nw (.methodLinkNest RX11 45 yX9_init "SilverBall") U ∧ va_Nw (.methodLinkNest RX9 50 yX6_init "SilverBall") U
theorem zNw.warm {s U : State} (hW : s.WarmedH U.vm) (h : zNw s) : zNw U := ⟨va_Nw.warmM hW h.1, va_Nw.warmM hW h.2⟩
theorem zNw.same {u U : State} (hv : u.vm = U.vm) (h : zNw u) : zNw U := ⟨va_tabs rfl hv h.1, va_tabs rfl hv h.2⟩
abbrev zW : Type := Nat × va_G × (Nat → ClassId) × Nat × Nat × (Nat → Int32)
abbrev zC : Type := (Nat × vp_A) ⊕ (Nat × List Value)
abbrev zS : Type := List zC
def zts (w : zW) : List (ClassId × FieldType) := [(w.2.2.1 0, .int), (w.2.2.1 1, .byte), (w.2.2.1 2, .long), (w.2.2.1 3, .boolean)]
def zcv (w : zW) : zC → va_E
  | .inl q => .inl (w.2.2.1 q.1, q.2)
  | .inr o => .inr o
def zws (w : zW) (S : zS) : va_W := S.mapIdx fun i c => (w.1 + i, zcv w c)
def zA0 (w : zW) : Nat → Prop := fun q => w.1 ≤ q
def zbytes : List Int32 := [115, 119, 105, 116, 99, 104, 32, 99, 111, 105, 108, 32, 97, 112, 97, 114, 116, 32, 108, 97, 109, 112, 32, 112, 108, 97, 99, 101, 32, 119, 97, 121, 32, 118, 97, 114, 32, 109, 111, 100, 101, 32, 98, 121, 32, 116, 105, 109, 101, 32, 101, 110, 100, 32, 111, 110, 32, 98, 101, 103, 105, 110, 32, 115, 116, 111, 112, 32, 105, 102, 32, 97, 110, 100, 32, 115, 99, 111, 114, 101, 32, 115, 101, 116, 32, 115, 116, 97, 114, 116, 32, 108, 101, 97, 118, 101, 32, 102, 105, 114, 101, 32, 104, 111, 108, 100, 32, 100, 114, 97, 105, 110, 32, 115, 101, 114, 118, 101, 32, 116, 105, 108, 116, 32, 108, 101, 102, 116, 32, 98, 97, 108, 108, 115, 32]
def zwords : String := "switch coil apart lamp place way var mode by time end on begin stop if and score set start leave fire hold drain serve tilt left balls "
/-- what stands in the old heap and is read: the script, the text of the words, two statics -/
def zOld (w : zW) (U : State) (H : Heap) : Prop := va_X w.2.2.2.1 w.2.2.2.2.1 w.2.2.2.2.2 U H ∧ vk_S 1 [135] [zbytes] (fun _ => w.2.2.1 4) (fun _ => w.2.2.1 5) (zA0 w) U H ∧ va_Z "java/lang/String" "COMPACT_STRINGS" "Z" (.int 1) (zA0 w) U H ∧ va_Zq "jdk/internal/util/Preconditions" "SIOOBE_FORMATTER" "Ljava/util/function/BiFunction;" (zA0 w) U H
theorem zOld.moved {w : zW} {u U : State} {H : Heap} (hvm : u.vm.Alike U.vm) (h : zOld w u H) : zOld w U H := ⟨va_X.moved hvm h.1, h.2.1.moved hvm, h.2.2.1.moved hvm, h.2.2.2.moved hvm⟩
theorem zOld.kept {w : zW} {U : State} {H H1 : Heap} (h : zOld w U H) (hb : w.2.2.2.1 < w.1) (hk : ∀ q : Nat, ¬ zA0 w q → H1[q]? = H[q]?) : zOld w U H1 := ⟨h.1.kept (hk _ (Nat.not_le.mpr hb)), h.2.1.kept fun a _ ha => hk a ha, h.2.2.1.kept fun a _ ha => hk a ha, h.2.2.2.kept fun a _ ha => hk a ha⟩
def zRep (w : zW) (U : State) (S : zS) (H : Heap) : Prop := H.size = w.1 + S.length ∧ va_P w.2.1 zcl (zws w S) H ∧ zOld w U H
def zFx (w : zW) (k : zM) (p : Program) (s : State) (m : MethodId) (args : Array Value) (meth : Method) (c : Code) : Prop :=
  p.tables.exec = Jvm.exec ∧ c.code = k.2.1 ∧ meth.sig.returnType = k.2.2.2 ∧ meth.locks = false ∧ c.maxLocals = k.2.2.1 ∧ s.vm.findClass k.1.cls = some m.cls ∧ (∀ x ∈ zT, x.before args s = true) ∧ meth.name = k.1.name ∧ va_K w.2.1 zcl (zts w) s ∧ w.2.2.2.1 < w.1 ∧ w.1 ≤ s.heap.size ∧ vk_R RX10 36 zwords (w.2.2.1 4) s ∧ zNw s
/-- what stands where the method returns -/
def zEnd (k : zM) (v : Option Value) (pc : Nat) (st : List Value) : Prop :=
  (∃ (x : Int32) (ty : FieldType), decode k.2.1 pc = .ok (.ireturn, 1) ∧ v = some (.int x) ∧ st = [.int x] ∧ k.2.2.2 = some ty ∧ narrow ty (.int x) = .int x) ∨
  (∃ x : Int64, decode k.2.1 pc = .ok (.lreturn, 1) ∧ v = some (.long x) ∧ st = [.long x] ∧ k.2.2.2 = some .long) ∨
  (decode k.2.1 pc = .ok (.return_, 1) ∧ v = none ∧ st = [] ∧ k.2.2.2 = none)
/-- from here (pc, locals, stack, store) the method comes to its end with the answer v and the store S' -/
def zR (w : zW) (k : zM) (d a z : Nat) (v : Option Value) (S' : zS) (pc : Nat) (lv : List (Nat × Value)) (st : List Value) (S : zS) : Prop :=
  ∀ (l : Launch) (p : Program) (e : Env) (Rm : Room) (s : State) (m : MethodId) (args : Array Value) (below : List Frame) (meth : Method) (c : Code), zFx w k p s m args meth c → d ≤ Rm.frames → 64 * d ≤ Rm.locals →
  ∀ (Q : State → Prop) (H : Heap) (locs : List Loc) (cells slots : Nat) (ls : Array Slot), zRep w s S H → va_S (zA0 w) s.heap H locs → lv_has ls k.2.2.1 lv → cells + a ≤ Rm.cells → slots + z ≤ Rm.slots →
  (∀ (H' : Heap) (locs' : List Loc) (cells' slots' : Nat) (ls' : Array Slot) (pc' : Nat) (st' : List Value), zRep w s S' H' → va_S (zA0 w) s.heap H' locs' → cells' ≤ cells + a → slots' ≤ slots + z → zEnd k v pc' st' → W p l e Rm s m args below meth c H' locs' cells' slots' Q (F0 m pc' ls' st')) →
  W p l e Rm s m args below meth c H locs cells slots Q (F0 m pc ls st)
def zPre (w : zW) (S : zS) (U : State) : Prop := zRep w U S U.heap ∧ va_K w.2.1 zcl (zts w) U ∧ w.2.2.2.1 < w.1 ∧ vk_R RX10 36 zwords (w.2.2.1 4) U ∧ zNw U
def zPost (w : zW) (v : Option Value) (S' : zS) : Array Value → State → Outcome → State → Prop := fun _ st oc t =>
  oc = .returned v ∧ zRep w t S' t.heap ∧ st.heap.size ≤ t.heap.size ∧ ∀ q : Nat, q < st.heap.size → ¬ zA0 w q → t.heap[q]? = st.heap[q]?
/-- called with these values in this store the method returns v and leaves S' -/
def zMet (w : zW) (k : zM) (d a z : Nat) (as : List Value) (S : zS) (v : Option Value) (S' : zS) : Prop :=
  ∀ l : Launch, Met l k.1 (Cond.code k.1 k.2.1 k.2.2.1 k.2.2.2 :: zT) { frames := d, cells := a, slots := z, locals := 64 * d } (va_Pc as (zPre w S)) (zPost w v S') a z (zA0 w)
theorem zws_at {w : zW} {S : zS} {i : Nat} {c : zC} (h : S[i]? = some c) : (zws w S)[i]? = some (w.1 + i, zcv w c) := by
  unfold zws
  rw [List.getElem?_mapIdx, h]
  rfl
theorem zws_set {w : zW} {S : zS} {i : Nat} {c : zC} : (zws w S).set i (w.1 + i, zcv w c) = zws w (S.set i c) := by
  unfold zws
  apply List.ext_getElem?
  intro j
  rw [List.getElem?_set, List.getElem?_mapIdx, List.getElem?_mapIdx, List.getElem?_set, List.length_mapIdx]
  by_cases h : i = j
  · subst h
    by_cases h2 : i < S.length
    · simp [h2]
    · simp [h2]
  · simp [h]
theorem zws_app {w : zW} {S : zS} {c : zC} : zws w S ++ [(w.1 + S.length, zcv w c)] = zws w (S ++ [c]) := by
  unfold zws
  rw [List.mapIdx_append]
  simp
theorem zws_D {w : zW} {S : zS} : va_D (zA0 w) (zws w S) := by
  have key : ∀ (i : Nat) (p : Nat × va_E), (zws w S)[i]? = some p → p.1 = w.1 + i := by
    intro i p h
    unfold zws at h
    rw [List.getElem?_mapIdx] at h
    cases hc : S[i]? with
    | none => rw [hc] at h; cases h
    | some c => rw [hc] at h; cases h; rfl
  refine ⟨fun i j p q hi hj hpq => ?_, fun i p hi => ?_⟩
  · have h1 := key i p hi
    have h2 := key j q hj
    omega
  · have h1 := key i p hi
    show w.1 ≤ p.1
    omega
theorem zRep.size {w : zW} {U : State} {S : zS} {H : Heap} (h : zRep w U S H) : H.size = w.1 + S.length := h.1
section ZR
variable {w : zW} {k : zM} {d a z : Nat} {v : Option Value} {S' : zS} {pc : Nat} {lv : List (Nat × Value)} {st : List Value} {S : zS}
/-- an instruction that touches neither locals nor store -/
theorem zR.go {pc' : Nat} {st' : List Value} (h : ∀ (l : Launch) (p : Program) (e : Env) (Rm : Room) (s : State) (m : MethodId) (args : Array Value) (below : List Frame) (meth : Method) (c : Code), zFx w k p s m args meth c → ∀ (Q : State → Prop) (H : Heap) (locs : List Loc) (cells slots : Nat) (ls : Array Slot), lv_has ls k.2.2.1 lv → W p l e Rm s m args below meth c H locs cells slots Q (F0 m pc' ls st') → W p l e Rm s m args below meth c H locs cells slots Q (F0 m pc ls st))
    (nx : zR w k d a z v S' pc' lv st' S) : zR w k d a z v S' pc lv st S := by
  intro l p e Rm s m args below meth c fx hd hl0 Q H locs cells slots ls hR hS hl hc hs hend
  exact h l p e Rm s m args below meth c fx Q H locs cells slots ls hl (nx l p e Rm s m args below meth c fx hd hl0 Q H locs cells slots ls hR hS hl hc hs hend)
theorem zR.end (h : zEnd k v pc st) (hS : S' = S) : zR w k d a z v S' pc lv st S := by
  subst hS
  intro l p e Rm s m args below meth c fx hd hl0 Q H locs cells slots ls hR hS hl hc hs hend
  exact hend H locs cells slots ls pc st hR hS (Nat.le_add_right _ _) (Nat.le_add_right _ _) h
theorem zR_iret {x : Int32} {ty : FieldType} (hd : decode k.2.1 pc = .ok (.ireturn, 1)) (hr : k.2.2.2 = some ty) (hn : narrow ty (.int x) = .int x) : zR w k d a z (some (.int x)) S pc lv [.int x] S := zR.end (Or.inl ⟨x, ty, hd, rfl, rfl, hr, hn⟩) rfl
theorem zR_lret {x : Int64} (hd : decode k.2.1 pc = .ok (.lreturn, 1)) (hr : k.2.2.2 = some .long) : zR w k d a z (some (.long x)) S pc lv [.long x] S := zR.end (Or.inr (Or.inl ⟨x, hd, rfl, rfl, hr⟩)) rfl
theorem zR_ret (hd : decode k.2.1 pc = .ok (.return_, 1)) (hr : k.2.2.2 = none) : zR w k d a z none S pc lv [] S := zR.end (Or.inr (Or.inr ⟨hd, rfl, rfl, hr⟩)) rfl
/-- fewer locals, in another order -/
theorem zR_sub {lv' : List (Nat × Value)} (ks : List Nat) (hk : lv_pick lv ks = lv') (nx : zR w k d a z v S' pc lv' st S) : zR w k d a z v S' pc lv st S := by
  intro l p e Rm s m args below meth c fx hd hl0 Q H locs cells slots ls hR hS hl hc hs hend
  exact nx l p e Rm s m args below meth c fx hd hl0 Q H locs cells slots ls hR hS (lv_sub hl ks hk) hc hs hend
/-- less room is asked further on -/
theorem zR_less {d' a' z' : Nat} (h1 : d' ≤ d) (h2 : a' ≤ a) (h3 : z' ≤ z) (nx : zR w k d' a' z' v S' pc lv st S) : zR w k d a z v S' pc lv st S := by
  intro l p e Rm s m args below meth c fx hd hl0 Q H locs cells slots ls hR hS hl hc hs hend
  exact nx l p e Rm s m args below meth c fx (Nat.le_trans h1 hd) (Nat.le_trans (Nat.mul_le_mul_left 64 h1) hl0) Q H locs cells slots ls hR hS hl (by omega) (by omega) (fun H' locs' cells' slots' ls' pc' st' g1 g2 g3 g4 g5 => hend H' locs' cells' slots' ls' pc' st' g1 g2 (by omega) (by omega) g5)
/-- the locals behind a store: in its place if it has one, else at the end -/
def zst (i : Nat) (x : Value) (lv : List (Nat × Value)) : List (Nat × Value) :=
  let l := lv.filter fun q => !(q.1 + 1 == i && q.2.category == 2)
  if l.any (fun q => q.1 == i) then l.map (fun q => if q.1 == i then (i, x) else q) else l ++ [(i, x)]
theorem zst_in {i : Nat} {x : Value} {lv : List (Nat × Value)} : ∀ q ∈ zst i x lv, q ∈ (i, x) :: lv.filter (fun q => !(q.1 == i) && !(q.1 + 1 == i && q.2.category == 2)) := by
  intro q hq
  unfold zst at hq
  simp only at hq
  by_cases hi : q = (i, x)
  · rw [hi]; exact List.mem_cons_self
  · refine List.mem_cons_of_mem _ ?_
    split at hq
    · obtain ⟨r, hr, he⟩ := List.mem_map.mp hq
      by_cases h1 : (r.1 == i) = true
      · rw [if_pos h1] at he; exact absurd he.symm hi
      · rw [if_neg h1] at he
        subst he
        have hr' := List.mem_filter.mp hr
        exact List.mem_filter.mpr ⟨hr'.1, by simp only [Bool.and_eq_true]; exact ⟨by simpa using h1, hr'.2⟩⟩
    · rename_i hno
      rcases List.mem_append.mp hq with h1 | h1
      · have hr' := List.mem_filter.mp h1
        have h2 : ¬ (q.1 == i) = true := fun h => hno (List.any_eq_true.mpr ⟨q, h1, h⟩)
        exact List.mem_filter.mpr ⟨hr'.1, by simp only [Bool.and_eq_true]; exact ⟨by simpa using h2, hr'.2⟩⟩
      · exact absurd (List.mem_singleton.mp h1) hi
theorem lv_has.mem {ls : Array Slot} {nL : Nat} {l l' : List (Nat × Value)} (h : lv_has ls nL l) (hl : ∀ q ∈ l', q ∈ l) : lv_has ls nL l' := ⟨h.1, h.2.1, fun q hq => h.2.2 q (hl q hq)⟩
def zst2 (i : Nat) (x : Value) (lv : List (Nat × Value)) : List (Nat × Value) := lv.filter (fun q => !(q.1 == i) && (!(q.1 == i + 1) && !(q.1 + 1 == i && q.2.category == 2))) ++ [(i, x)]
theorem zst2_in {i : Nat} {x : Value} {lv : List (Nat × Value)} : ∀ q ∈ zst2 i x lv, q ∈ (i, x) :: lv.filter (fun q => !(q.1 == i) && (!(q.1 == i + 1) && !(q.1 + 1 == i && q.2.category == 2))) := by
  intro q hq
  rcases List.mem_append.mp hq with h | h
  · exact List.mem_cons_of_mem _ h
  · rw [List.mem_singleton.mp h]; exact List.mem_cons_self
theorem zR_iadd {x y : Int32} (hd : decode k.2.1 pc = .ok (.iadd, 1)) (nx : zR w k d a z v S' (pc + 1) lv (.int (x + y) :: st) S) : zR w k d a z v S' pc lv (.int y :: .int x :: st) S := zR.go (fun l p e Rm s m args below meth c fx Q H locs cells slots ls hl kk => lv_iadd fx.1 fx.2.1 hd kk) nx
theorem zR_isub {x y : Int32} (hd : decode k.2.1 pc = .ok (.isub, 1)) (nx : zR w k d a z v S' (pc + 1) lv (.int (x - y) :: st) S) : zR w k d a z v S' pc lv (.int y :: .int x :: st) S := zR.go (fun l p e Rm s m args below meth c fx Q H locs cells slots ls hl kk => lv_isub fx.1 fx.2.1 hd kk) nx
theorem zR_imul {x y : Int32} (hd : decode k.2.1 pc = .ok (.imul, 1)) (nx : zR w k d a z v S' (pc + 1) lv (.int (x * y) :: st) S) : zR w k d a z v S' pc lv (.int y :: .int x :: st) S := zR.go (fun l p e Rm s m args below meth c fx Q H locs cells slots ls hl kk => lv_imul fx.1 fx.2.1 hd kk) nx
theorem zR_iand {x y : Int32} (hd : decode k.2.1 pc = .ok (.iand, 1)) (nx : zR w k d a z v S' (pc + 1) lv (.int (x &&& y) :: st) S) : zR w k d a z v S' pc lv (.int y :: .int x :: st) S := zR.go (fun l p e Rm s m args below meth c fx Q H locs cells slots ls hl kk => lv_iand fx.1 fx.2.1 hd kk) nx
theorem zR_ior {x y : Int32} (hd : decode k.2.1 pc = .ok (.ior, 1)) (nx : zR w k d a z v S' (pc + 1) lv (.int (x ||| y) :: st) S) : zR w k d a z v S' pc lv (.int y :: .int x :: st) S := zR.go (fun l p e Rm s m args below meth c fx Q H locs cells slots ls hl kk => lv_ior fx.1 fx.2.1 hd kk) nx
theorem zR_ishl {x y : Int32} (hd : decode k.2.1 pc = .ok (.ishl, 1)) (nx : zR w k d a z v S' (pc + 1) lv (.int (x <<< (y &&& 31)) :: st) S) : zR w k d a z v S' pc lv (.int y :: .int x :: st) S := zR.go (fun l p e Rm s m args below meth c fx Q H locs cells slots ls hl kk => lv_ishl fx.1 fx.2.1 hd kk) nx
theorem zR_ishr {x y : Int32} (hd : decode k.2.1 pc = .ok (.ishr, 1)) (nx : zR w k d a z v S' (pc + 1) lv (.int (x >>> (y &&& 31)) :: st) S) : zR w k d a z v S' pc lv (.int y :: .int x :: st) S := zR.go (fun l p e Rm s m args below meth c fx Q H locs cells slots ls hl kk => lv_ishr fx.1 fx.2.1 hd kk) nx
theorem zR_idiv {x y : Int32} (hd : decode k.2.1 pc = .ok (.idiv, 1)) (hy : ¬ y = 0) (nx : zR w k d a z v S' (pc + 1) lv (.int (x / y) :: st) S) : zR w k d a z v S' pc lv (.int y :: .int x :: st) S := zR.go (fun l p e Rm s m args below meth c fx Q H locs cells slots ls hl kk => lv_idiv fx.1 fx.2.1 hd hy kk) nx
theorem zR_irem {x y : Int32} (hd : decode k.2.1 pc = .ok (.irem, 1)) (hy : ¬ y = 0) (nx : zR w k d a z v S' (pc + 1) lv (.int (x - x / y * y) :: st) S) : zR w k d a z v S' pc lv (.int y :: .int x :: st) S := zR.go (fun l p e Rm s m args below meth c fx Q H locs cells slots ls hl kk => lv_irem fx.1 fx.2.1 hd hy kk) nx
theorem zR_ineg {x : Int32} (hd : decode k.2.1 pc = .ok (.ineg, 1)) (nx : zR w k d a z v S' (pc + 1) lv (.int (-x) :: st) S) : zR w k d a z v S' pc lv (.int x :: st) S := zR.go (fun l p e Rm s m args below meth c fx Q H locs cells slots ls hl kk => lv_ineg fx.1 fx.2.1 hd kk) nx
theorem zR_iushr {x y : Int32} (hd : decode k.2.1 pc = .ok (.iushr, 1)) (nx : zR w k d a z v S' (pc + 1) lv (.int ((x.toUInt32 >>> (y.toUInt32 &&& Int32.toUInt32 31)).toInt32) :: st) S) : zR w k d a z v S' pc lv (.int y :: .int x :: st) S := zR.go (fun l p e Rm s m args below meth c fx Q H locs cells slots ls hl kk => lv_iushr fx.1 fx.2.1 hd rfl kk) nx
theorem zR_ladd {x y : Int64} (hd : decode k.2.1 pc = .ok (.ladd, 1)) (nx : zR w k d a z v S' (pc + 1) lv (.long (x + y) :: st) S) : zR w k d a z v S' pc lv (.long y :: .long x :: st) S := zR.go (fun l p e Rm s m args below meth c fx Q H locs cells slots ls hl kk => lv_ladd fx.1 fx.2.1 hd kk) nx
theorem zR_lsub {x y : Int64} (hd : decode k.2.1 pc = .ok (.lsub, 1)) (nx : zR w k d a z v S' (pc + 1) lv (.long (x - y) :: st) S) : zR w k d a z v S' pc lv (.long y :: .long x :: st) S := zR.go (fun l p e Rm s m args below meth c fx Q H locs cells slots ls hl kk => lv_lsub fx.1 fx.2.1 hd kk) nx
theorem zR_lmul {x y : Int64} (hd : decode k.2.1 pc = .ok (.lmul, 1)) (nx : zR w k d a z v S' (pc + 1) lv (.long (x * y) :: st) S) : zR w k d a z v S' pc lv (.long y :: .long x :: st) S := zR.go (fun l p e Rm s m args below meth c fx Q H locs cells slots ls hl kk => lv_lmul fx.1 fx.2.1 hd kk) nx
theorem zR_lor {x y : Int64} (hd : decode k.2.1 pc = .ok (.lor, 1)) (nx : zR w k d a z v S' (pc + 1) lv (.long (x ||| y) :: st) S) : zR w k d a z v S' pc lv (.long y :: .long x :: st) S := zR.go (fun l p e Rm s m args below meth c fx Q H locs cells slots ls hl kk => lv_lor fx.1 fx.2.1 hd kk) nx
theorem zR_land {x y : Int64} (hd : decode k.2.1 pc = .ok (.land, 1)) (nx : zR w k d a z v S' (pc + 1) lv (.long (x &&& y) :: st) S) : zR w k d a z v S' pc lv (.long y :: .long x :: st) S := zR.go (fun l p e Rm s m args below meth c fx Q H locs cells slots ls hl kk => lv_land fx.1 fx.2.1 hd kk) nx
theorem zR_lshl {x : Int64} {y : Int32} (hd : decode k.2.1 pc = .ok (.lshl, 1)) (nx : zR w k d a z v S' (pc + 1) lv (.long (x <<< (y.toInt64 &&& 63)) :: st) S) : zR w k d a z v S' pc lv (.int y :: .long x :: st) S := zR.go (fun l p e Rm s m args below meth c fx Q H locs cells slots ls hl kk => lv_lshl fx.1 fx.2.1 hd rfl kk) nx
theorem zR_lcmp {x y : Int64} (hd : decode k.2.1 pc = .ok (.lcmp, 1)) (nx : zR w k d a z v S' (pc + 1) lv (.int (lg_cmp x y) :: st) S) : zR w k d a z v S' pc lv (.long y :: .long x :: st) S := zR.go (fun l p e Rm s m args below meth c fx Q H locs cells slots ls hl kk => W.lcmp fx.1 fx.2.1 hd kk) nx
theorem zR_i2l {x : Int32} (hd : decode k.2.1 pc = .ok (.i2l, 1)) (nx : zR w k d a z v S' (pc + 1) lv (.long x.toInt64 :: st) S) : zR w k d a z v S' pc lv (.int x :: st) S := zR.go (fun l p e Rm s m args below meth c fx Q H locs cells slots ls hl kk => lv_i2l fx.1 fx.2.1 hd rfl kk) nx
theorem zR_l2i {x : Int64} (hd : decode k.2.1 pc = .ok (.l2i, 1)) (nx : zR w k d a z v S' (pc + 1) lv (.int x.toInt32 :: st) S) : zR w k d a z v S' pc lv (.long x :: st) S := zR.go (fun l p e Rm s m args below meth c fx Q H locs cells slots ls hl kk => lv_l2i fx.1 fx.2.1 hd rfl kk) nx
theorem zR_i2b {x : Int32} (hd : decode k.2.1 pc = .ok (.i2b, 1)) (nx : zR w k d a z v S' (pc + 1) lv (.int x.toInt8.toInt32 :: st) S) : zR w k d a z v S' pc lv (.int x :: st) S := zR.go (fun l p e Rm s m args below meth c fx Q H locs cells slots ls hl kk => lv_i2b fx.1 fx.2.1 hd rfl kk) nx
theorem zR_i2c {x : Int32} (hd : decode k.2.1 pc = .ok (.i2c, 1)) (nx : zR w k d a z v S' (pc + 1) lv (.int (x.toUInt32 % 65536).toInt32 :: st) S) : zR w k d a z v S' pc lv (.int x :: st) S := zR.go (fun l p e Rm s m args below meth c fx Q H locs cells slots ls hl kk => lv_i2c fx.1 fx.2.1 hd rfl kk) nx
theorem zR_dup {x : Value} (hd : decode k.2.1 pc = .ok (.dup, 1)) (h1 : x.category = 1) (nx : zR w k d a z v S' (pc + 1) lv (x :: x :: st) S) : zR w k d a z v S' pc lv (x :: st) S := zR.go (fun l p e Rm s m args below meth c fx Q H locs cells slots ls hl kk => lv_dup fx.1 fx.2.1 hd h1 kk) nx
theorem zR_dup_x1 {x y : Value} (hd : decode k.2.1 pc = .ok (.dup_x1, 1)) (h1 : x.category = 1) (h2 : y.category = 1) (nx : zR w k d a z v S' (pc + 1) lv (x :: y :: x :: st) S) : zR w k d a z v S' pc lv (x :: y :: st) S := zR.go (fun l p e Rm s m args below meth c fx Q H locs cells slots ls hl kk => lv_dup_x1 fx.1 fx.2.1 hd h1 h2 kk) nx
theorem zR_dup_x2 {x y u : Value} (hd : decode k.2.1 pc = .ok (.dup_x2, 1)) (h1 : x.category = 1) (h2 : y.category = 1) (h3 : u.category = 1) (nx : zR w k d a z v S' (pc + 1) lv (x :: y :: u :: x :: st) S) : zR w k d a z v S' pc lv (x :: y :: u :: st) S := zR.go (fun l p e Rm s m args below meth c fx Q H locs cells slots ls hl kk => lv_dup_x2 fx.1 fx.2.1 hd h1 h2 h3 kk) nx
theorem zR_dup2 {x y : Value} (hd : decode k.2.1 pc = .ok (.dup2, 1)) (h1 : x.category = 1) (h2 : y.category = 1) (nx : zR w k d a z v S' (pc + 1) lv (x :: y :: x :: y :: st) S) : zR w k d a z v S' pc lv (x :: y :: st) S := zR.go (fun l p e Rm s m args below meth c fx Q H locs cells slots ls hl kk => lv_dup2_11 fx.1 fx.2.1 hd h1 h2 kk) nx
theorem zR_pop {x : Value} (hd : decode k.2.1 pc = .ok (.pop, 1)) (h1 : x.category = 1) (nx : zR w k d a z v S' (pc + 1) lv (st) S) : zR w k d a z v S' pc lv (x :: st) S := zR.go (fun l p e Rm s m args below meth c fx Q H locs cells slots ls hl kk => lv_pop fx.1 fx.2.1 hd h1 kk) nx
theorem zR_iconst {n : Int} {x : Int32} (hd : decode k.2.1 pc = .ok (.iconst n, 1)) (hv : Int32.ofInt n = x) (nx : zR w k d a z v S' (pc + 1) lv (.int x :: st) S) : zR w k d a z v S' pc lv (st) S := zR.go (fun l p e Rm s m args below meth c fx Q H locs cells slots ls hl kk => lv_iconst fx.1 fx.2.1 hd hv kk) nx
theorem zR_bipush {n : Int} {x : Int32} (hd : decode k.2.1 pc = .ok (.bipush n, 2)) (hv : (Int8.ofInt n).toInt32 = x) (nx : zR w k d a z v S' (pc + 2) lv (.int x :: st) S) : zR w k d a z v S' pc lv (st) S := zR.go (fun l p e Rm s m args below meth c fx Q H locs cells slots ls hl kk => lv_bipush fx.1 fx.2.1 hd hv kk) nx
theorem zR_sipush {n : Int} {x : Int32} (hd : decode k.2.1 pc = .ok (.sipush n, 3)) (hv : (Int16.ofInt n).toInt32 = x) (nx : zR w k d a z v S' (pc + 3) lv (.int x :: st) S) : zR w k d a z v S' pc lv (st) S := zR.go (fun l p e Rm s m args below meth c fx Q H locs cells slots ls hl kk => lv_sipush fx.1 fx.2.1 hd hv kk) nx
theorem zR_lconst {n : Fin 2} {x : Int64} (hd : decode k.2.1 pc = .ok (.lconst n, 1)) (hv : Int64.ofNat (n : Nat) = x) (nx : zR w k d a z v S' (pc + 1) lv (.long x :: st) S) : zR w k d a z v S' pc lv (st) S := zR.go (fun l p e Rm s m args below meth c fx Q H locs cells slots ls hl kk => lv_lconst fx.1 fx.2.1 hd hv kk) nx
theorem zR_iload_n {j : Fin 4} {x : Int32} (hd : decode k.2.1 pc = .ok (.iload_n j, 1)) (q : Nat) (hq : lv[q]? = some ((j : Nat), Value.int x)) (nx : zR w k d a z v S' (pc + 1) lv (.int x :: st) S) : zR w k d a z v S' pc lv st S := zR.go (fun l p e Rm s m args below meth c fx Q H locs cells slots ls hl kk => lv_iload_n fx.1 fx.2.1 hd rfl (lv_at hl q hq) kk) nx
theorem zR_iload {j : Nat} {x : Int32} (hd : decode k.2.1 pc = .ok (.iload j, 2)) (q : Nat) (hq : lv[q]? = some (j, Value.int x)) (nx : zR w k d a z v S' (pc + 2) lv (.int x :: st) S) : zR w k d a z v S' pc lv st S := zR.go (fun l p e Rm s m args below meth c fx Q H locs cells slots ls hl kk => lv_iload fx.1 fx.2.1 hd (lv_at hl q hq) kk) nx
theorem zR_lload_n {j : Fin 4} {x : Int64} (hd : decode k.2.1 pc = .ok (.lload_n j, 1)) (q : Nat) (hq : lv[q]? = some ((j : Nat), Value.long x)) (nx : zR w k d a z v S' (pc + 1) lv (.long x :: st) S) : zR w k d a z v S' pc lv st S := zR.go (fun l p e Rm s m args below meth c fx Q H locs cells slots ls hl kk => lv_lload_n fx.1 fx.2.1 hd rfl (lv_at hl q hq) kk) nx
theorem zR_lload {j : Nat} {x : Int64} (hd : decode k.2.1 pc = .ok (.lload j, 2)) (q : Nat) (hq : lv[q]? = some (j, Value.long x)) (nx : zR w k d a z v S' (pc + 2) lv (.long x :: st) S) : zR w k d a z v S' pc lv st S := zR.go (fun l p e Rm s m args below meth c fx Q H locs cells slots ls hl kk => lv_lload fx.1 fx.2.1 hd (lv_at hl q hq) kk) nx
theorem zR_aload_n {j : Fin 4} {x : Nat} (hd : decode k.2.1 pc = .ok (.aload_n j, 1)) (q : Nat) (hq : lv[q]? = some ((j : Nat), Value.ref x)) (nx : zR w k d a z v S' (pc + 1) lv (.ref x :: st) S) : zR w k d a z v S' pc lv st S := zR.go (fun l p e Rm s m args below meth c fx Q H locs cells slots ls hl kk => lv_aload_n fx.1 fx.2.1 hd rfl (lv_at hl q hq) kk) nx
theorem zR_aload {j : Nat} {x : Nat} (hd : decode k.2.1 pc = .ok (.aload j, 2)) (q : Nat) (hq : lv[q]? = some (j, Value.ref x)) (nx : zR w k d a z v S' (pc + 2) lv (.ref x :: st) S) : zR w k d a z v S' pc lv st S := zR.go (fun l p e Rm s m args below meth c fx Q H locs cells slots ls hl kk => lv_aload fx.1 fx.2.1 hd (lv_at hl q hq) kk) nx
theorem zR_istore_n {j : Fin 4} {x : Int32} {lv' : List (Nat × Value)} (hd : decode k.2.1 pc = .ok (.istore_n j, 1)) (hj : (j : Nat) < k.2.2.1) (hz : zst (j : Nat) (.int x) lv = lv') (nx : zR w k d a z v S' (pc + 1) lv' st S) : zR w k d a z v S' pc lv (.int x :: st) S := by
  subst hz
  intro l p e Rm s m args below meth c fx hd1 hl0 Q H locs cells slots ls hR hS hl hc hs hend
  exact lv_istore_n fx.1 fx.2.1 hd rfl hl hj rfl (fun ls' hl' => nx l p e Rm s m args below meth c fx hd1 hl0 Q H locs cells slots ls' hR hS (hl'.mem zst_in) hc hs hend)
theorem zR_istore {j : Nat} {x : Int32} {lv' : List (Nat × Value)} (hd : decode k.2.1 pc = .ok (.istore j, 2)) (hj : (j : Nat) < k.2.2.1) (hz : zst (j : Nat) (.int x) lv = lv') (nx : zR w k d a z v S' (pc + 2) lv' st S) : zR w k d a z v S' pc lv (.int x :: st) S := by
  subst hz
  intro l p e Rm s m args below meth c fx hd1 hl0 Q H locs cells slots ls hR hS hl hc hs hend
  exact lv_istore fx.1 fx.2.1 hd hl hj rfl (fun ls' hl' => nx l p e Rm s m args below meth c fx hd1 hl0 Q H locs cells slots ls' hR hS (hl'.mem zst_in) hc hs hend)
theorem zR_astore_n {j : Fin 4} {x : Nat} {lv' : List (Nat × Value)} (hd : decode k.2.1 pc = .ok (.astore_n j, 1)) (hj : (j : Nat) < k.2.2.1) (hz : zst (j : Nat) (.ref x) lv = lv') (nx : zR w k d a z v S' (pc + 1) lv' st S) : zR w k d a z v S' pc lv (.ref x :: st) S := by
  subst hz
  intro l p e Rm s m args below meth c fx hd1 hl0 Q H locs cells slots ls hR hS hl hc hs hend
  exact lv_astore_n fx.1 fx.2.1 hd rfl hl hj rfl (fun ls' hl' => nx l p e Rm s m args below meth c fx hd1 hl0 Q H locs cells slots ls' hR hS (hl'.mem zst_in) hc hs hend)
theorem zR_astore {j : Nat} {x : Nat} {lv' : List (Nat × Value)} (hd : decode k.2.1 pc = .ok (.astore j, 2)) (hj : (j : Nat) < k.2.2.1) (hz : zst (j : Nat) (.ref x) lv = lv') (nx : zR w k d a z v S' (pc + 2) lv' st S) : zR w k d a z v S' pc lv (.ref x :: st) S := by
  subst hz
  intro l p e Rm s m args below meth c fx hd1 hl0 Q H locs cells slots ls hR hS hl hc hs hend
  exact lv_astore fx.1 fx.2.1 hd hl hj rfl (fun ls' hl' => nx l p e Rm s m args below meth c fx hd1 hl0 Q H locs cells slots ls' hR hS (hl'.mem zst_in) hc hs hend)
theorem zR_lstore_n {j : Fin 4} {x : Int64} {lv' : List (Nat × Value)} (hd : decode k.2.1 pc = .ok (.lstore_n j, 1)) (hj : (j : Nat) + 1 < k.2.2.1) (hz : zst2 (j : Nat) (.long x) lv = lv') (nx : zR w k d a z v S' (pc + 1) lv' st S) : zR w k d a z v S' pc lv (.long x :: st) S := by
  subst hz
  intro l p e Rm s m args below meth c fx hd1 hl0 Q H locs cells slots ls hR hS hl hc hs hend
  exact lv_lstore_n fx.1 fx.2.1 hd rfl hl hj rfl (fun ls' hl' => nx l p e Rm s m args below meth c fx hd1 hl0 Q H locs cells slots ls' hR hS (hl'.mem zst2_in) hc hs hend)
theorem zR_lstore {j : Nat} {x : Int64} {lv' : List (Nat × Value)} (hd : decode k.2.1 pc = .ok (.lstore j, 2)) (hj : (j : Nat) + 1 < k.2.2.1) (hz : zst2 (j : Nat) (.long x) lv = lv') (nx : zR w k d a z v S' (pc + 2) lv' st S) : zR w k d a z v S' pc lv (.long x :: st) S := by
  subst hz
  intro l p e Rm s m args below meth c fx hd1 hl0 Q H locs cells slots ls hR hS hl hc hs hend
  exact lv_lstore fx.1 fx.2.1 hd hl hj rfl (fun ls' hl' => nx l p e Rm s m args below meth c fx hd1 hl0 Q H locs cells slots ls' hR hS (hl'.mem zst2_in) hc hs hend)
theorem zR_iinc {i : Nat} {n : Int} {x u : Int32} {lv' : List (Nat × Value)} (hd : decode k.2.1 pc = .ok (.iinc i n, 3)) (q : Nat) (hq : lv[q]? = some (i, .int x)) (hv : x + Int32.ofInt n = u) (hj : i < k.2.2.1) (hz : zst i (.int u) lv = lv') (nx : zR w k d a z v S' (pc + 3) lv' st S) : zR w k d a z v S' pc lv st S := by
  subst hz
  intro l p e Rm s m args below meth c fx hd1 hl0 Q H locs cells slots ls hR hS hl hc hs hend
  exact lv_iinc fx.1 fx.2.1 hd hl hq hv hj rfl (fun ls' hl' => nx l p e Rm s m args below meth c fx hd1 hl0 Q H locs cells slots ls' hR hS (hl'.mem zst_in) hc hs hend)
theorem zR_if_eq_t {x : Int32} {off : Int} {tgt : Nat} (hd : decode k.2.1 pc = .ok (.ifCond .eq off, 3)) (ht : (pc : Int) + off = (tgt : Int)) (hc : x = 0) (nx : zR w k d a z v S' tgt lv st S) : zR w k d a z v S' pc lv (.int x :: st) S := zR.go (fun l p e Rm s m args below meth c fx Q H locs cells slots ls hl kk => lv_if_eq fx.1 fx.2.1 hd ht (fun _ => kk) (fun h => by first | exact absurd hc h | exact absurd h hc)) nx
theorem zR_if_eq_f {x : Int32} {off : Int} {tgt : Nat} (hd : decode k.2.1 pc = .ok (.ifCond .eq off, 3)) (ht : (pc : Int) + off = (tgt : Int)) (hc : (¬ x = 0)) (nx : zR w k d a z v S' (pc + 3) lv st S) : zR w k d a z v S' pc lv (.int x :: st) S := zR.go (fun l p e Rm s m args below meth c fx Q H locs cells slots ls hl kk => lv_if_eq fx.1 fx.2.1 hd ht (fun h => by first | exact absurd hc h | exact absurd h hc) (fun _ => kk)) nx
theorem zR_icmp_eq_t {x y : Int32} {off : Int} {tgt : Nat} (hd : decode k.2.1 pc = .ok (.if_icmp .eq off, 3)) (ht : (pc : Int) + off = (tgt : Int)) (hc : x = y) (nx : zR w k d a z v S' tgt lv st S) : zR w k d a z v S' pc lv (.int y :: .int x :: st) S := zR.go (fun l p e Rm s m args below meth c fx Q H locs cells slots ls hl kk => lv_icmp_eq fx.1 fx.2.1 hd ht (fun _ => kk) (fun h => by first | exact absurd hc h | exact absurd h hc)) nx
theorem zR_icmp_eq_f {x y : Int32} {off : Int} {tgt : Nat} (hd : decode k.2.1 pc = .ok (.if_icmp .eq off, 3)) (ht : (pc : Int) + off = (tgt : Int)) (hc : (¬ x = y)) (nx : zR w k d a z v S' (pc + 3) lv st S) : zR w k d a z v S' pc lv (.int y :: .int x :: st) S := zR.go (fun l p e Rm s m args below meth c fx Q H locs cells slots ls hl kk => lv_icmp_eq fx.1 fx.2.1 hd ht (fun h => by first | exact absurd hc h | exact absurd h hc) (fun _ => kk)) nx
theorem zR_if_ne_t {x : Int32} {off : Int} {tgt : Nat} (hd : decode k.2.1 pc = .ok (.ifCond .ne off, 3)) (ht : (pc : Int) + off = (tgt : Int)) (hc : ¬ x = 0) (nx : zR w k d a z v S' tgt lv st S) : zR w k d a z v S' pc lv (.int x :: st) S := zR.go (fun l p e Rm s m args below meth c fx Q H locs cells slots ls hl kk => lv_if_ne fx.1 fx.2.1 hd ht (fun _ => kk) (fun h => by first | exact absurd hc h | exact absurd h hc)) nx
theorem zR_if_ne_f {x : Int32} {off : Int} {tgt : Nat} (hd : decode k.2.1 pc = .ok (.ifCond .ne off, 3)) (ht : (pc : Int) + off = (tgt : Int)) (hc : (x = 0)) (nx : zR w k d a z v S' (pc + 3) lv st S) : zR w k d a z v S' pc lv (.int x :: st) S := zR.go (fun l p e Rm s m args below meth c fx Q H locs cells slots ls hl kk => lv_if_ne fx.1 fx.2.1 hd ht (fun h => by first | exact absurd hc h | exact absurd h hc) (fun _ => kk)) nx
theorem zR_icmp_ne_t {x y : Int32} {off : Int} {tgt : Nat} (hd : decode k.2.1 pc = .ok (.if_icmp .ne off, 3)) (ht : (pc : Int) + off = (tgt : Int)) (hc : ¬ x = y) (nx : zR w k d a z v S' tgt lv st S) : zR w k d a z v S' pc lv (.int y :: .int x :: st) S := zR.go (fun l p e Rm s m args below meth c fx Q H locs cells slots ls hl kk => lv_icmp_ne fx.1 fx.2.1 hd ht (fun _ => kk) (fun h => by first | exact absurd hc h | exact absurd h hc)) nx
theorem zR_icmp_ne_f {x y : Int32} {off : Int} {tgt : Nat} (hd : decode k.2.1 pc = .ok (.if_icmp .ne off, 3)) (ht : (pc : Int) + off = (tgt : Int)) (hc : (x = y)) (nx : zR w k d a z v S' (pc + 3) lv st S) : zR w k d a z v S' pc lv (.int y :: .int x :: st) S := zR.go (fun l p e Rm s m args below meth c fx Q H locs cells slots ls hl kk => lv_icmp_ne fx.1 fx.2.1 hd ht (fun h => by first | exact absurd hc h | exact absurd h hc) (fun _ => kk)) nx
theorem zR_if_lt_t {x : Int32} {off : Int} {tgt : Nat} (hd : decode k.2.1 pc = .ok (.ifCond .lt off, 3)) (ht : (pc : Int) + off = (tgt : Int)) (hc : x < 0) (nx : zR w k d a z v S' tgt lv st S) : zR w k d a z v S' pc lv (.int x :: st) S := zR.go (fun l p e Rm s m args below meth c fx Q H locs cells slots ls hl kk => lv_if_lt fx.1 fx.2.1 hd ht (fun _ => kk) (fun h => by first | exact absurd hc h | exact absurd h hc)) nx
theorem zR_if_lt_f {x : Int32} {off : Int} {tgt : Nat} (hd : decode k.2.1 pc = .ok (.ifCond .lt off, 3)) (ht : (pc : Int) + off = (tgt : Int)) (hc : (¬ x < 0)) (nx : zR w k d a z v S' (pc + 3) lv st S) : zR w k d a z v S' pc lv (.int x :: st) S := zR.go (fun l p e Rm s m args below meth c fx Q H locs cells slots ls hl kk => lv_if_lt fx.1 fx.2.1 hd ht (fun h => by first | exact absurd hc h | exact absurd h hc) (fun _ => kk)) nx
theorem zR_icmp_lt_t {x y : Int32} {off : Int} {tgt : Nat} (hd : decode k.2.1 pc = .ok (.if_icmp .lt off, 3)) (ht : (pc : Int) + off = (tgt : Int)) (hc : x < y) (nx : zR w k d a z v S' tgt lv st S) : zR w k d a z v S' pc lv (.int y :: .int x :: st) S := zR.go (fun l p e Rm s m args below meth c fx Q H locs cells slots ls hl kk => lv_icmp_lt fx.1 fx.2.1 hd ht (fun _ => kk) (fun h => by first | exact absurd hc h | exact absurd h hc)) nx
theorem zR_icmp_lt_f {x y : Int32} {off : Int} {tgt : Nat} (hd : decode k.2.1 pc = .ok (.if_icmp .lt off, 3)) (ht : (pc : Int) + off = (tgt : Int)) (hc : (¬ x < y)) (nx : zR w k d a z v S' (pc + 3) lv st S) : zR w k d a z v S' pc lv (.int y :: .int x :: st) S := zR.go (fun l p e Rm s m args below meth c fx Q H locs cells slots ls hl kk => lv_icmp_lt fx.1 fx.2.1 hd ht (fun h => by first | exact absurd hc h | exact absurd h hc) (fun _ => kk)) nx
theorem zR_if_ge_t {x : Int32} {off : Int} {tgt : Nat} (hd : decode k.2.1 pc = .ok (.ifCond .ge off, 3)) (ht : (pc : Int) + off = (tgt : Int)) (hc : 0 ≤ x) (nx : zR w k d a z v S' tgt lv st S) : zR w k d a z v S' pc lv (.int x :: st) S := zR.go (fun l p e Rm s m args below meth c fx Q H locs cells slots ls hl kk => lv_if_ge fx.1 fx.2.1 hd ht (fun _ => kk) (fun h => by first | exact absurd hc h | exact absurd h hc)) nx
theorem zR_if_ge_f {x : Int32} {off : Int} {tgt : Nat} (hd : decode k.2.1 pc = .ok (.ifCond .ge off, 3)) (ht : (pc : Int) + off = (tgt : Int)) (hc : (¬ 0 ≤ x)) (nx : zR w k d a z v S' (pc + 3) lv st S) : zR w k d a z v S' pc lv (.int x :: st) S := zR.go (fun l p e Rm s m args below meth c fx Q H locs cells slots ls hl kk => lv_if_ge fx.1 fx.2.1 hd ht (fun h => by first | exact absurd hc h | exact absurd h hc) (fun _ => kk)) nx
theorem zR_icmp_ge_t {x y : Int32} {off : Int} {tgt : Nat} (hd : decode k.2.1 pc = .ok (.if_icmp .ge off, 3)) (ht : (pc : Int) + off = (tgt : Int)) (hc : y ≤ x) (nx : zR w k d a z v S' tgt lv st S) : zR w k d a z v S' pc lv (.int y :: .int x :: st) S := zR.go (fun l p e Rm s m args below meth c fx Q H locs cells slots ls hl kk => lv_icmp_ge fx.1 fx.2.1 hd ht (fun _ => kk) (fun h => by first | exact absurd hc h | exact absurd h hc)) nx
theorem zR_icmp_ge_f {x y : Int32} {off : Int} {tgt : Nat} (hd : decode k.2.1 pc = .ok (.if_icmp .ge off, 3)) (ht : (pc : Int) + off = (tgt : Int)) (hc : (¬ y ≤ x)) (nx : zR w k d a z v S' (pc + 3) lv st S) : zR w k d a z v S' pc lv (.int y :: .int x :: st) S := zR.go (fun l p e Rm s m args below meth c fx Q H locs cells slots ls hl kk => lv_icmp_ge fx.1 fx.2.1 hd ht (fun h => by first | exact absurd hc h | exact absurd h hc) (fun _ => kk)) nx
theorem zR_if_gt_t {x : Int32} {off : Int} {tgt : Nat} (hd : decode k.2.1 pc = .ok (.ifCond .gt off, 3)) (ht : (pc : Int) + off = (tgt : Int)) (hc : 0 < x) (nx : zR w k d a z v S' tgt lv st S) : zR w k d a z v S' pc lv (.int x :: st) S := zR.go (fun l p e Rm s m args below meth c fx Q H locs cells slots ls hl kk => lv_if_gt fx.1 fx.2.1 hd ht (fun _ => kk) (fun h => by first | exact absurd hc h | exact absurd h hc)) nx
theorem zR_if_gt_f {x : Int32} {off : Int} {tgt : Nat} (hd : decode k.2.1 pc = .ok (.ifCond .gt off, 3)) (ht : (pc : Int) + off = (tgt : Int)) (hc : (¬ 0 < x)) (nx : zR w k d a z v S' (pc + 3) lv st S) : zR w k d a z v S' pc lv (.int x :: st) S := zR.go (fun l p e Rm s m args below meth c fx Q H locs cells slots ls hl kk => lv_if_gt fx.1 fx.2.1 hd ht (fun h => by first | exact absurd hc h | exact absurd h hc) (fun _ => kk)) nx
theorem zR_icmp_gt_t {x y : Int32} {off : Int} {tgt : Nat} (hd : decode k.2.1 pc = .ok (.if_icmp .gt off, 3)) (ht : (pc : Int) + off = (tgt : Int)) (hc : y < x) (nx : zR w k d a z v S' tgt lv st S) : zR w k d a z v S' pc lv (.int y :: .int x :: st) S := zR.go (fun l p e Rm s m args below meth c fx Q H locs cells slots ls hl kk => lv_icmp_gt fx.1 fx.2.1 hd ht (fun _ => kk) (fun h => by first | exact absurd hc h | exact absurd h hc)) nx
theorem zR_icmp_gt_f {x y : Int32} {off : Int} {tgt : Nat} (hd : decode k.2.1 pc = .ok (.if_icmp .gt off, 3)) (ht : (pc : Int) + off = (tgt : Int)) (hc : (¬ y < x)) (nx : zR w k d a z v S' (pc + 3) lv st S) : zR w k d a z v S' pc lv (.int y :: .int x :: st) S := zR.go (fun l p e Rm s m args below meth c fx Q H locs cells slots ls hl kk => lv_icmp_gt fx.1 fx.2.1 hd ht (fun h => by first | exact absurd hc h | exact absurd h hc) (fun _ => kk)) nx
theorem zR_if_le_t {x : Int32} {off : Int} {tgt : Nat} (hd : decode k.2.1 pc = .ok (.ifCond .le off, 3)) (ht : (pc : Int) + off = (tgt : Int)) (hc : x ≤ 0) (nx : zR w k d a z v S' tgt lv st S) : zR w k d a z v S' pc lv (.int x :: st) S := zR.go (fun l p e Rm s m args below meth c fx Q H locs cells slots ls hl kk => lv_if_le fx.1 fx.2.1 hd ht (fun _ => kk) (fun h => by first | exact absurd hc h | exact absurd h hc)) nx
theorem zR_if_le_f {x : Int32} {off : Int} {tgt : Nat} (hd : decode k.2.1 pc = .ok (.ifCond .le off, 3)) (ht : (pc : Int) + off = (tgt : Int)) (hc : (¬ x ≤ 0)) (nx : zR w k d a z v S' (pc + 3) lv st S) : zR w k d a z v S' pc lv (.int x :: st) S := zR.go (fun l p e Rm s m args below meth c fx Q H locs cells slots ls hl kk => lv_if_le fx.1 fx.2.1 hd ht (fun h => by first | exact absurd hc h | exact absurd h hc) (fun _ => kk)) nx
theorem zR_icmp_le_t {x y : Int32} {off : Int} {tgt : Nat} (hd : decode k.2.1 pc = .ok (.if_icmp .le off, 3)) (ht : (pc : Int) + off = (tgt : Int)) (hc : x ≤ y) (nx : zR w k d a z v S' tgt lv st S) : zR w k d a z v S' pc lv (.int y :: .int x :: st) S := zR.go (fun l p e Rm s m args below meth c fx Q H locs cells slots ls hl kk => lv_icmp_le fx.1 fx.2.1 hd ht (fun _ => kk) (fun h => by first | exact absurd hc h | exact absurd h hc)) nx
theorem zR_icmp_le_f {x y : Int32} {off : Int} {tgt : Nat} (hd : decode k.2.1 pc = .ok (.if_icmp .le off, 3)) (ht : (pc : Int) + off = (tgt : Int)) (hc : (¬ x ≤ y)) (nx : zR w k d a z v S' (pc + 3) lv st S) : zR w k d a z v S' pc lv (.int y :: .int x :: st) S := zR.go (fun l p e Rm s m args below meth c fx Q H locs cells slots ls hl kk => lv_icmp_le fx.1 fx.2.1 hd ht (fun h => by first | exact absurd hc h | exact absurd h hc) (fun _ => kk)) nx
theorem zR_goto {off : Int} {tgt : Nat} (hd : decode k.2.1 pc = .ok (.goto off, 3)) (ht : (pc : Int) + off = (tgt : Int)) (nx : zR w k d a z v S' tgt lv st S) : zR w k d a z v S' pc lv st S := zR.go (fun l p e Rm s m args below meth c fx Q H locs cells slots ls hl kk => lv_goto fx.1 fx.2.1 hd ht kk) nx
theorem zR_tab {dflt lo hi : Int} {offs : Array Int} {len : Nat} {x : Int32} {off : Int} {tgt : Nat} (hd : decode k.2.1 pc = .ok (.tableswitch dflt lo hi offs, len)) (h1 : ¬ x.toInt < lo) (h2 : ¬ hi < x.toInt) (ho : offs[(x.toInt - lo).toNat]? = some off) (ht : (pc : Int) + off = (tgt : Int)) (nx : zR w k d a z v S' tgt lv st S) : zR w k d a z v S' pc lv (.int x :: st) S := zR.go (fun l p e Rm s m args below meth c fx Q H locs cells slots ls hl kk => lv_tableIn fx.1 fx.2.1 hd h1 h2 ho ht kk) nx
theorem zR_tabO {dflt lo hi : Int} {offs : Array Int} {len : Nat} {x : Int32} {tgt : Nat} (hd : decode k.2.1 pc = .ok (.tableswitch dflt lo hi offs, len)) (h : x.toInt < lo ∨ hi < x.toInt) (ht : (pc : Int) + dflt = (tgt : Int)) (nx : zR w k d a z v S' tgt lv st S) : zR w k d a z v S' pc lv (.int x :: st) S := zR.go (fun l p e Rm s m args below meth c fx Q H locs cells slots ls hl kk => lv_tableOut fx.1 fx.2.1 hd h ht kk) nx
theorem zR_look {dflt : Int} {ps : Array (Int × Int)} {len : Nat} {x : Int32} {off : Int} {tgt : Nat} (hd : decode k.2.1 pc = .ok (.lookupswitch dflt ps, len)) (hp : (ps.toList.zip (ps.toList.drop 1)).all (fun (a, next) => a.1 < next.1) = true) (ho : Op.lookupswitch.offset ps.toList dflt x.toInt = off) (ht : (pc : Int) + off = (tgt : Int)) (nx : zR w k d a z v S' tgt lv st S) : zR w k d a z v S' pc lv (.int x :: st) S := zR.go (fun l p e Rm s m args below meth c fx Q H locs cells slots ls hl kk => lv_lookup fx.1 fx.2.1 hd hp ho ht kk) nx
theorem zR_ldc {idx : Nat} {x : Int32} (hd : decode k.2.1 pc = .ok (.ldc idx, 2)) (hw : Cond.constant k.1.cls idx x ∈ zT) (nx : zR w k d a z v S' (pc + 2) lv (.int x :: st) S) : zR w k d a z v S' pc lv st S := zR.go (fun l p e Rm s m args below meth c fx Q H locs cells slots ls hl kk => lv_ldc fx.1 fx.2.1 fx.2.2.2.2.2.1 (fx.2.2.2.2.2.2.1 _ hw) hd kk) nx
theorem zR_ldc2 {idx : Nat} {x : Int64} (hd : decode k.2.1 pc = .ok (.ldc2_w idx, 3)) (hw : Cond.constantLong k.1.cls idx x ∈ zT) (nx : zR w k d a z v S' (pc + 3) lv (.long x :: st) S) : zR w k d a z v S' pc lv st S := zR.go (fun l p e Rm s m args below meth c fx Q H locs cells slots ls hl kk => lv_ldc2 fx.1 fx.2.1 fx.2.2.2.2.2.1 (fx.2.2.2.2.2.2.1 _ hw) hd kk) nx
/-! fields and arrays -/
theorem zRep.set {s : State} {H H1 : Heap} {i : Nat} {c0 c : zC} (hR : zRep w s S H) (hb : w.2.2.2.1 < w.1) (hi : S[i]? = some c0) (he : va_at w.2.1 zcl (w.1 + i, zcv w c) H1) (z : H1.size = H.size) (oq : ∀ q : Nat, q ≠ w.1 + i → H1[q]? = H[q]?) : zRep w s (S.set i c) H1 :=
  ⟨by rw [z, hR.1, List.length_set], by rw [← zws_set]; exact hR.2.1.set zws_D (zws_at hi) he oq, hR.2.2.kept hb fun q hq => oq q (fun e => hq (by rw [e]; exact Nat.le_add_right _ _))⟩
theorem zRep.push {s : State} {H H1 : Heap} {c : zC} (hR : zRep w s S H) (hb : w.2.2.2.1 < w.1) (he : va_at w.2.1 zcl (w.1 + S.length, zcv w c) H1) (z : H1.size = H.size + 1) (oq : ∀ q : Nat, q < H.size → H1[q]? = H[q]?) : zRep w s (S ++ [c]) H1 := by
  have hs := hR.1
  refine ⟨by rw [z, hR.1, List.length_append]; rfl, ?_, hR.2.2.kept hb fun q hq => oq q (by have h9 := Nat.not_le.mp hq; omega)⟩
  rw [← zws_app]
  refine (hR.2.1.kept (fun j x hx => oq x.1 (hR.2.1 j x hx).lt)).app (fun j x hx => ?_)
  have hz : j < 1 := (List.getElem?_eq_some_iff.mp hx).1
  rw [show j = 0 by omega] at hx
  cases hx
  exact he
theorem zR_get {idx i ci kf : Nat} {fs : List Value} {x : Value} (hd : decode k.2.1 pc = .ok (.getfield idx, 3)) (hf : zFld k.1.cls idx ci kf) (hS0 : S[i]? = some (.inr (ci, fs))) (hx : fs[kf]? = some x) (nx : zR w k d a z v S' (pc + 3) lv (x :: st) S) : zR w k d a z v S' pc lv (.ref (w.1 + i) :: st) S := by
  intro l p e Rm s m args below meth c fx hd1 hl0 Q H locs cells slots ls hR hS hl hc hs hend
  obtain ⟨C, T, N, h1, h2, h3, h4, h5⟩ := hf
  refine va_get (D := w.2.1) (cl := zcl) (tys := zts w) (ws := zws w S) (Ts := zT) (own := k.1.cls) (ref := C) fx.1 fx.2.1 fx.2.2.2.2.2.2.1 h3 fx.2.2.2.2.2.1 fx.2.2.2.2.2.2.2.2.1 hR.2.1 i (zws_at hS0) h1 kf h2 (fx.2.2.2.2.2.2.1 _ h5) (fun x hx => by rw [h4] at hx; exact hx) hx hd ?_
  exact nx l p e Rm s m args below meth c fx hd1 hl0 Q H locs cells slots ls hR hS hl hc hs hend
theorem zR_put {idx i ci kf : Nat} {fs : List Value} {x : Value} {ty : FieldType} (hd : decode k.2.1 pc = .ok (.putfield idx, 3)) (hf : zFld k.1.cls idx ci kf) (hy : zFty ci kf ty false) (hS0 : S[i]? = some (.inr (ci, fs))) (hk : kf < fs.length) (hn : narrow ty x = x) (hfit : fits ty x = true)
    (nx : zR w k d a z v S' (pc + 3) lv st (S.set i (.inr (ci, fs.set kf x)))) : zR w k d a z v S' pc lv (x :: .ref (w.1 + i) :: st) S := by
  intro l p e Rm s m args below meth c fx hd1 hl0 Q H locs cells slots ls hR hS hl hc hs hend
  have hts := fx.2.2.2.2.2.2.1
  have hown := fx.2.2.2.2.2.1
  have hK := fx.2.2.2.2.2.2.2.2.1
  obtain ⟨C, T, N, h1, h2, h3, h4, h5⟩ := hf
  obtain ⟨y1, y2, ⟨ty0, y3⟩, y4⟩ := hy C T N h1
  have hap := va_apart (own := k.1.cls) hts h3 ty0 y3 y4 hK h1
  obtain ⟨r, r1, cell, q1, q2, q3, q4⟩ := hR.2.1 i _ (zws_at hS0)
  have hr : r = (C, T, N) := Option.some.inj (r1.symm.trans h1)
  subst hr
  obtain ⟨hSl, hfc, kC, hkC, hkind⟩ := hK.1 ci _ h1
  obtain ⟨cf, kf0, fi, f, hi, hsl⟩ := hSl kf h2
  have hlay := hts _ (h3 _ (u_in_lay h2))
  unfold u_lay at hlay
  rw [if_neg (by rw [y1]; decide)] at hlay
  have hst := (u_facts hfc hkC (u_lays hts h3 h2) hi).1
  have h6 := u_store hfc hkC hkind hlay hi y2 hn hfit
  have hsame : s.fieldFound? C (T kf).2.1 (T kf).2.2.1 = some (cf, kf0, fi, f) := by rw [h4] at hi; exact hi
  refine W.putK fx.1 fx.2.1 (f := f) ⟨hown, hts _ h5, ⟨_, _, _, hsame⟩, hst⟩ (by rw [q2]; exact h6) q1 q3 (by rw [hsl]; exact k2_hasslot (q4 kf h2)) rfl rfl hd fun H' e1 e2 e3 => ?_
  rw [hsl] at e1 ⊢
  exact nx l p e Rm s m args below meth c fx hd1 hl0 Q H' _ cells slots ls (hR.set fx.2.2.2.2.2.2.2.2.2.1 hS0 ⟨_, h1, t_OB.to (V := updV (vp_V fs) kf x) ⟨_, e1, q2, q3, t_set q4 hap h2 x⟩ (fun j _ => vp_updV_set hk x j)⟩ e2 e3) (hS.put e2 e3 (show w.1 ≤ w.1 + i by omega)) hl hc hs hend
theorem zR_putF {idx i ci kf : Nat} {fs : List Value} {x : Value} {ty : FieldType} (hd : decode k.2.1 pc = .ok (.putfield idx, 3)) (hf : zFld k.1.cls idx ci kf) (hy : zFty ci kf ty true) (hin2 : k.1.name = "<init>") (hown2 : ∃ T N, zcl[ci]? = some (k.1.cls, T, N)) (hS0 : S[i]? = some (.inr (ci, fs))) (hk : kf < fs.length) (hn : narrow ty x = x) (hfit : fits ty x = true)
    (nx : zR w k d a z v S' (pc + 3) lv st (S.set i (.inr (ci, fs.set kf x)))) : zR w k d a z v S' pc lv (x :: .ref (w.1 + i) :: st) S := by
  intro l p e Rm s m args below meth c fx hd1 hl0 Q H locs cells slots ls hR hS hl hc hs hend
  have hts := fx.2.2.2.2.2.2.1
  have hown := fx.2.2.2.2.2.1
  have hK := fx.2.2.2.2.2.2.2.2.1
  obtain ⟨C, T, N, h1, h2, h3, h4, h5⟩ := hf
  obtain ⟨y1, y2, ⟨ty0, y3⟩, y4⟩ := hy C T N h1
  have hap := va_apart (own := k.1.cls) hts h3 ty0 y3 y4 hK h1
  obtain ⟨r, r1, cell, q1, q2, q3, q4⟩ := hR.2.1 i _ (zws_at hS0)
  have hr : r = (C, T, N) := Option.some.inj (r1.symm.trans h1)
  subst hr
  obtain ⟨hSl, hfc, kC, hkC, hkind⟩ := hK.1 ci _ h1
  obtain ⟨cf, kf0, fi, f, hi, hsl⟩ := hSl kf h2
  have hlay := hts _ (h3 _ (u_in_lay h2))
  unfold u_lay at hlay
  rw [if_pos y1] at hlay
  have hst := (u_facts hfc hkC (u_lays hts h3 h2) hi).1
  have hCo : C = k.1.cls := by
    obtain ⟨T2, N2, e⟩ := hown2
    exact (Prod.mk.inj (Option.some.inj (h1.symm.trans e))).1
  have hcf : m.cls = cf := by
    obtain ⟨_, _, c', _, _, _, -, -, hf', -, -, -, hown3, -⟩ := Cond.laysFinal_spec hlay
    have e1 : c' = cf := by have := hi.symm.trans hf'; simp at this; exact this.1.symm
    rw [h4, hCo] at hown3
    rw [← e1]; exact Option.some.inj (hown.symm.trans hown3)
  have h6 := u_fits hfc hkC hkind (Or.inr hlay) hi y2 hn hfit
  have hsame : s.fieldFound? C (T kf).2.1 (T kf).2.2.1 = some (cf, kf0, fi, f) := by rw [h4] at hi; exact hi
  refine W.putFinK fx.1 fx.2.1 hown (hts _ h5) hsame hst hcf (fx.2.2.2.2.2.2.2.1.trans hin2) (by rw [q2]; exact h6) q1 q3 (by rw [hsl]; exact k2_hasslot (q4 kf h2)) rfl rfl hd fun H' e1 e2 e3 => ?_
  rw [hsl] at e1 ⊢
  exact nx l p e Rm s m args below meth c fx hd1 hl0 Q H' _ cells slots ls (hR.set fx.2.2.2.2.2.2.2.2.2.1 hS0 ⟨_, h1, t_OB.to (V := updV (vp_V fs) kf x) ⟨_, e1, q2, q3, t_set q4 hap h2 x⟩ (fun j _ => vp_updV_set hk x j)⟩ e2 e3) (hS.put e2 e3 (show w.1 ≤ w.1 + i by omega)) hl hc hs hend
theorem zR_iald {i n : Nat} {f : Nat → Int32} {j : Int32} (hd : decode k.2.1 pc = .ok (.iaload, 1)) (hS0 : S[i]? = some (.inl (0, n, .inl f))) (hj : vp_in j n) (nx : zR w k d a z v S' (pc + 1) lv (.int (f j.toNatClampNeg) :: st) S) : zR w k d a z v S' pc lv (.int j :: .ref (w.1 + i) :: st) S := by
  intro l p e Rm s m args below meth c fx hd1 hl0 Q H locs cells slots ls hR hS hl hc hs hend
  refine va_iald (D := w.2.1) (cl := zcl) (tys := zts w) (ws := zws w S) fx.1 fx.2.1 fx.2.2.2.2.2.2.2.2.1 hR.2.1 i 0 (zws_at hS0) rfl hj hd ?_
  exact nx l p e Rm s m args below meth c fx hd1 hl0 Q H locs cells slots ls hR hS hl hc hs hend
theorem zR_bald {i n : Nat} {f : Nat → Int32} {j : Int32} (hd : decode k.2.1 pc = .ok (.baload, 1)) (hS0 : S[i]? = some (.inl (1, n, .inl f))) (hj : vp_in j n) (nx : zR w k d a z v S' (pc + 1) lv (.int (f j.toNatClampNeg) :: st) S) : zR w k d a z v S' pc lv (.int j :: .ref (w.1 + i) :: st) S := by
  intro l p e Rm s m args below meth c fx hd1 hl0 Q H locs cells slots ls hR hS hl hc hs hend
  refine va_bald (D := w.2.1) (cl := zcl) (tys := zts w) (ws := zws w S) fx.1 fx.2.1 fx.2.2.2.2.2.2.2.2.1 hR.2.1 i 1 (zws_at hS0) rfl hj hd ?_
  exact nx l p e Rm s m args below meth c fx hd1 hl0 Q H locs cells slots ls hR hS hl hc hs hend
theorem zR_zald {i n : Nat} {f : Nat → Int32} {j : Int32} (hd : decode k.2.1 pc = .ok (.baload, 1)) (hS0 : S[i]? = some (.inl (3, n, .inl f))) (hj : vp_in j n) (nx : zR w k d a z v S' (pc + 1) lv (.int (f j.toNatClampNeg) :: st) S) : zR w k d a z v S' pc lv (.int j :: .ref (w.1 + i) :: st) S := by
  intro l p e Rm s m args below meth c fx hd1 hl0 Q H locs cells slots ls hR hS hl hc hs hend
  refine va_zald (D := w.2.1) (cl := zcl) (tys := zts w) (ws := zws w S) fx.1 fx.2.1 fx.2.2.2.2.2.2.2.2.1 hR.2.1 i 3 (zws_at hS0) rfl hj hd ?_
  exact nx l p e Rm s m args below meth c fx hd1 hl0 Q H locs cells slots ls hR hS hl hc hs hend
theorem zR_lald {i n : Nat} {f : Nat → Int64} {j : Int32} (hd : decode k.2.1 pc = .ok (.laload, 1)) (hS0 : S[i]? = some (.inl (2, n, .inr (.inl f)))) (hj : vp_in j n) (nx : zR w k d a z v S' (pc + 1) lv (.long (f j.toNatClampNeg) :: st) S) : zR w k d a z v S' pc lv (.int j :: .ref (w.1 + i) :: st) S := by
  intro l p e Rm s m args below meth c fx hd1 hl0 Q H locs cells slots ls hR hS hl hc hs hend
  refine va_lald (D := w.2.1) (cl := zcl) (tys := zts w) (ws := zws w S) fx.1 fx.2.1 fx.2.2.2.2.2.2.2.2.1 hR.2.1 i 2 (zws_at hS0) rfl hj hd ?_
  exact nx l p e Rm s m args below meth c fx hd1 hl0 Q H locs cells slots ls hR hS hl hc hs hend
theorem zR_alen {i t : Nat} {x : vp_A} {u : Int32} (hd : decode k.2.1 pc = .ok (.arraylength, 1)) (hS0 : S[i]? = some (.inl (t, x))) (ht : t < 4) (hu : Int32.ofNat x.1 = u) (nx : zR w k d a z v S' (pc + 1) lv (.int u :: st) S) : zR w k d a z v S' pc lv (.ref (w.1 + i) :: st) S := by
  intro l p e Rm s m args below meth c fx hd1 hl0 Q H locs cells slots ls hR hS hl hc hs hend
  obtain ⟨ty, hty⟩ : ∃ ty, (zts w)[t]? = some (w.2.2.1 t, ty) := by
    match t, ht with
    | 0, _ => exact ⟨_, rfl⟩
    | 1, _ => exact ⟨_, rfl⟩
    | 2, _ => exact ⟨_, rfl⟩
    | 3, _ => exact ⟨_, rfl⟩
  refine va_alen (D := w.2.1) (cl := zcl) (tys := zts w) (ws := zws w S) fx.1 fx.2.1 fx.2.2.2.2.2.2.2.2.1 hR.2.1 i t (zws_at hS0) hty hu hd ?_
  exact nx l p e Rm s m args below meth c fx hd1 hl0 Q H locs cells slots ls hR hS hl hc hs hend
theorem zR_iast {i n : Nat} {f : Nat → Int32} {j : Int32} {x : Int32} (hd : decode k.2.1 pc = .ok (.iastore, 1)) (hS0 : S[i]? = some (.inl (0, n, .inl f))) (hj : vp_in j n) (nx : zR w k d a z v S' (pc + 1) lv st (S.set i (.inl (0, n, .inl (upd f j.toNatClampNeg (x)))))) : zR w k d a z v S' pc lv (.int x :: .int j :: .ref (w.1 + i) :: st) S := by
  intro l p e Rm s m args below meth c fx hd1 hl0 Q H locs cells slots ls hR hS hl hc hs hend
  refine W.iast fx.1 fx.2.1 (hR.2.1 i _ (zws_at hS0)) ((fx.2.2.2.2.2.2.2.2.1.2 0 _ rfl).1 n (fun j => .int (f j))) (fun q => by cases q) (by show ¬ (j < 0 ∨ (arrV _ _ _).slots.size ≤ _); rw [arrV_size]; exact hj) rfl rfl hd fun H1 e1 e2 e3 => ?_
  refine nx l p e Rm s m args below meth c fx hd1 hl0 Q H1 _ cells slots ls (hR.set fx.2.2.2.2.2.2.2.2.2.1 hS0 ?_ e2 e3) (hS.put e2 e3 (show w.1 ≤ w.1 + i by omega)) hl hc hs hend
  show H1[w.1 + i]? = some (vp_cell _ _)
  rw [e1]
  rw [show vp_cell (w.2.2.1 0) (n, .inl f) = arrV (w.2.2.1 0) n (fun j => .int (f j)) from rfl, vp_cell_i, arrV_store]
  congr 2
  funext q
  by_cases hq : q = j.toNatClampNeg
  · subst hq
    simp [updV, upd]
    try rfl
  · simp [updV, upd, hq]
theorem zR_bast {i n : Nat} {f : Nat → Int32} {j : Int32} {x : Int32} (hd : decode k.2.1 pc = .ok (.bastore, 1)) (hS0 : S[i]? = some (.inl (1, n, .inl f))) (hj : vp_in j n) (nx : zR w k d a z v S' (pc + 1) lv st (S.set i (.inl (1, n, .inl (upd f j.toNatClampNeg (vp_nar .byte x)))))) : zR w k d a z v S' pc lv (.int x :: .int j :: .ref (w.1 + i) :: st) S := by
  intro l p e Rm s m args below meth c fx hd1 hl0 Q H locs cells slots ls hR hS hl hc hs hend
  refine W.bast fx.1 fx.2.1 (hR.2.1 i _ (zws_at hS0)) ((fx.2.2.2.2.2.2.2.2.1.2 1 _ rfl).1 n (fun j => .int (f j))) (fun q => by cases q) (by show ¬ (j < 0 ∨ (arrV _ _ _).slots.size ≤ _); rw [arrV_size]; exact hj) rfl rfl hd fun H1 e1 e2 e3 => ?_
  refine nx l p e Rm s m args below meth c fx hd1 hl0 Q H1 _ cells slots ls (hR.set fx.2.2.2.2.2.2.2.2.2.1 hS0 ?_ e2 e3) (hS.put e2 e3 (show w.1 ≤ w.1 + i by omega)) hl hc hs hend
  show H1[w.1 + i]? = some (vp_cell _ _)
  rw [e1]
  rw [show vp_cell (w.2.2.1 1) (n, .inl f) = arrV (w.2.2.1 1) n (fun j => .int (f j)) from rfl, vp_cell_i, arrV_store]
  congr 2
  funext q
  by_cases hq : q = j.toNatClampNeg
  · subst hq
    simp [updV, upd, vp_nar]
    try rfl
  · simp [updV, upd, hq]
theorem zR_zast {i n : Nat} {f : Nat → Int32} {j : Int32} {x : Int32} (hd : decode k.2.1 pc = .ok (.bastore, 1)) (hS0 : S[i]? = some (.inl (3, n, .inl f))) (hj : vp_in j n) (nx : zR w k d a z v S' (pc + 1) lv st (S.set i (.inl (3, n, .inl (upd f j.toNatClampNeg (vp_nar .boolean x)))))) : zR w k d a z v S' pc lv (.int x :: .int j :: .ref (w.1 + i) :: st) S := by
  intro l p e Rm s m args below meth c fx hd1 hl0 Q H locs cells slots ls hR hS hl hc hs hend
  refine W.zast fx.1 fx.2.1 (hR.2.1 i _ (zws_at hS0)) ((fx.2.2.2.2.2.2.2.2.1.2 3 _ rfl).1 n (fun j => .int (f j))) (fun q => by cases q) (by show ¬ (j < 0 ∨ (arrV _ _ _).slots.size ≤ _); rw [arrV_size]; exact hj) rfl rfl hd fun H1 e1 e2 e3 => ?_
  refine nx l p e Rm s m args below meth c fx hd1 hl0 Q H1 _ cells slots ls (hR.set fx.2.2.2.2.2.2.2.2.2.1 hS0 ?_ e2 e3) (hS.put e2 e3 (show w.1 ≤ w.1 + i by omega)) hl hc hs hend
  show H1[w.1 + i]? = some (vp_cell _ _)
  rw [e1]
  rw [show vp_cell (w.2.2.1 3) (n, .inl f) = arrV (w.2.2.1 3) n (fun j => .int (f j)) from rfl, vp_cell_i, arrV_store]
  congr 2
  funext q
  by_cases hq : q = j.toNatClampNeg
  · subst hq
    simp [updV, upd, vp_nar]
    try rfl
  · simp [updV, upd, hq]
theorem zR_last {i n : Nat} {f : Nat → Int64} {j : Int32} {x : Int64} (hd : decode k.2.1 pc = .ok (.lastore, 1)) (hS0 : S[i]? = some (.inl (2, n, .inr (.inl f)))) (hj : vp_in j n) (nx : zR w k d a z v S' (pc + 1) lv st (S.set i (.inl (2, n, .inr (.inl (vp_updL f j.toNatClampNeg (x))))))) : zR w k d a z v S' pc lv (.long x :: .int j :: .ref (w.1 + i) :: st) S := by
  intro l p e Rm s m args below meth c fx hd1 hl0 Q H locs cells slots ls hR hS hl hc hs hend
  refine W.last fx.1 fx.2.1 (hR.2.1 i _ (zws_at hS0)) ((fx.2.2.2.2.2.2.2.2.1.2 2 _ rfl).1 n (fun j => .long (f j))) (fun q => by cases q) (by show ¬ (j < 0 ∨ (arrV _ _ _).slots.size ≤ _); rw [arrV_size]; exact hj) rfl rfl hd fun H1 e1 e2 e3 => ?_
  refine nx l p e Rm s m args below meth c fx hd1 hl0 Q H1 _ cells slots ls (hR.set fx.2.2.2.2.2.2.2.2.2.1 hS0 ?_ e2 e3) (hS.put e2 e3 (show w.1 ≤ w.1 + i by omega)) hl hc hs hend
  show H1[w.1 + i]? = some (vp_cell _ _)
  rw [e1]
  rw [show vp_cell (w.2.2.1 2) (n, .inr (.inl f)) = arrV (w.2.2.1 2) n (fun j => .long (f j)) from rfl, vp_cell_l, arrV_store]
  congr 2
  funext q
  by_cases hq : q = j.toNatClampNeg
  · subst hq
    simp [updV, vp_updL]
    try rfl
  · simp [updV, vp_updL, hq]
theorem zR_slen {u : Int32} (hd : decode k.2.1 pc = .ok (.arraylength, 1)) (hu : Int32.ofNat w.2.2.2.2.1 = u) (nx : zR w k d a z v S' (pc + 1) lv (.int u :: st) S) : zR w k d a z v S' pc lv (.ref w.2.2.2.1 :: st) S := by
  intro l p e Rm s m args below meth c fx hd1 hl0 Q H locs cells slots ls hR hS hl hc hs hend
  subst hu
  refine va_slen (A := zA0 w) (H0 := H) fx.1 fx.2.1 hR.2.2.1 (by rw [hR.1]; exact Nat.lt_of_lt_of_le fx.2.2.2.2.2.2.2.2.2.1 (Nat.le_add_right _ _)) (Nat.not_le.mpr fx.2.2.2.2.2.2.2.2.2.1) (locs := locs) ⟨Nat.le_refl _, fun _ _ _ => rfl, hS.2.2⟩ hd ?_
  exact nx l p e Rm s m args below meth c fx hd1 hl0 Q H locs cells slots ls hR hS hl hc hs hend
theorem zR_sld {j : Int32} (hd : decode k.2.1 pc = .ok (.iaload, 1)) (hj : vp_in j w.2.2.2.2.1) (nx : zR w k d a z v S' (pc + 1) lv (.int (w.2.2.2.2.2 j.toNatClampNeg) :: st) S) : zR w k d a z v S' pc lv (.int j :: .ref w.2.2.2.1 :: st) S := by
  intro l p e Rm s m args below meth c fx hd1 hl0 Q H locs cells slots ls hR hS hl hc hs hend
  refine va_sld (A := zA0 w) (H0 := H) fx.1 fx.2.1 hR.2.2.1 (by rw [hR.1]; exact Nat.lt_of_lt_of_le fx.2.2.2.2.2.2.2.2.2.1 (Nat.le_add_right _ _)) (Nat.not_le.mpr fx.2.2.2.2.2.2.2.2.2.1) (locs := locs) ⟨Nat.le_refl _, fun _ _ _ => rfl, hS.2.2⟩ hj hd ?_
  exact nx l p e Rm s m args below meth c fx hd1 hl0 Q H locs cells slots ls hR hS hl hc hs hend
end ZR
