/-! THE CLAIM OUT OF ONE WALK OF THE LAW'S BODY. Your part is whole_start (and what it stands on); all else here is the same for every law, but numbers. -/
def R_law : String := "SilverBallLaw"
def lw_P (b : Addr) (xs : List Int32) (args : Array Value) (s : State) : Prop := args = #[.ref b] ∧ s.IntsAt b xs ∧ xs.length ≤ 3072 ∧ (Jvm.Cond.and given_1 narrow_1).before args s = true
def lw_Q (_ : Array Value) (s : State) (o : Outcome) (t : State) : Prop := o = .returned (some (.int 1)) ∧ Framed s o t [] 600000 7302250
def lw_Z (below : List Frame) (a : Array Value) (s : State) : State → Prop := fun t => ∃ o, t.status = .running ∧ Ended t below o ∧ lw_Q a s o t
/-- the law's own end, with 1 on the stack, nothing written that was there before, its room as the claim has it -/
theorem lw_ret {p : Program} {l : Launch} {e : Env} {s : State} {m : MethodId} {below : List Frame} {meth : Method} {c : Code} {b : Nat} (hx : p.tables.exec = Jvm.exec) (hb : c.code = code) (hr : meth.sig.returnType = ret) (hlocks : meth.locks = false) {pc : Nat} {H : Heap} {ls : Array Slot} (hdg : decode code pc = .ok (.ireturn, 1)) : W p l e room_1 s m #[Value.ref b] below meth c H [] 600000 7302250 (lw_Z below #[Value.ref b] s) (F0 m pc ls [.int 1]) := by
  intro T hT X
  obtain ⟨fs, hret, hrun, hended, hW, hframe⟩ := X.leave (v := some (.int 1)) (hlocks := hlocks) (fun h => by rw [hr] at h; cases h)
  have hmeth' : T.vm.method? m = some meth := X.method'
  refine ⟨T.setFrames fs, ?_, .returned (some (.int 1)), hrun, hended, rfl, ⟨_, rfl⟩, hW, hframe⟩
  jvm_step X.here [X.here.top, hx, hb, hdg, hmeth', hr, ret, narrow_b1]
  (try refine ⟨rfl, ?_⟩); (try refine ⟨rfl, ?_⟩)
  first | (intro acts; rw [hret _ acts rfl rfl rfl]) | rw [hret _ _ rfl rfl rfl]
  exact Steps.refl _
/-- what holds at the law's entry: the machine, the code, the tables' words (any of lw_tbl by 'hts w (by decide +kernel)'), the script of L ints xs at the cell b, what the Statement gives of the start (any of its parts by flat_of_before) -/
def lw_At (p : Program) (s : State) (m : MethodId) (meth : Method) (c : Code) (b L : Nat) (xs : Nat → Int32) : Prop :=
  p.tables.exec = Jvm.exec ∧ c.code = code ∧ meth.sig.returnType = ret ∧ c.maxLocals = 4 ∧ s.vm.findClass R_law = some m.cls ∧ (∀ w ∈ lw_tbl, w.before #[Value.ref b] s = true) ∧ va_X b L xs s s.heap ∧ b < s.heap.size ∧ meth.locks = false ∧ meth.name = "law" ∧ (Jvm.Cond.and given_1 narrow_1).before #[Value.ref b] s = true
theorem zis_X0 : Cond.instantiable RX0 5 ∈ zT := zT_of 316 (by decide +kernel) (by decide +kernel)
theorem zis_X1 : Cond.instantiable RX1 15 ∈ zT := zT_of 266 (by decide +kernel) (by decide +kernel)
theorem zis_X2 : Cond.instantiable RX2 3 ∈ zT := zT_of 113 (by decide +kernel) (by decide +kernel)
theorem zis_X3 : Cond.instantiable RX3 9 ∈ zT := zT_of 340 (by decide +kernel) (by decide +kernel)
theorem zis_X4 : Cond.instantiable RX4 7 ∈ zT := zT_of 378 (by decide +kernel) (by decide +kernel)
theorem zis_X5 : Cond.instantiable RX5 7 ∈ zT := zT_of 129 (by decide +kernel) (by decide +kernel)
theorem zis_X6 : Cond.instantiable RX6 12 ∈ zT := zT_of 163 (by decide +kernel) (by decide +kernel)
theorem zis_X7 : Cond.instantiable RX7 4 ∈ zT := zT_of 272 (by decide +kernel) (by decide +kernel)
theorem zis_X8 : Cond.instantiable RX8 5 ∈ zT := zT_of 292 (by decide +kernel) (by decide +kernel)
theorem zis_X9 : Cond.instantiable RX9 13 ∈ zT := zT_of 157 (by decide +kernel) (by decide +kernel)
theorem zis_X10 : Cond.instantiable RX10 7 ∈ zT := zT_of 29 (by decide +kernel) (by decide +kernel)
theorem zis_X11 : Cond.instantiable RX11 14 ∈ zT := zT_of 21 (by decide +kernel) (by decide +kernel)
theorem zis_X12 : Cond.instantiable RX12 103 ∈ zT := zT_of 1037 (by decide +kernel) (by decide +kernel)
theorem lw_tab {c : Cond} (i : Nat) (h : tables_1[i]? = some c) : c ∈ lw_tbl := List.mem_append_right _ (List.mem_of_getElem? h)
/-- the Statement's words of the start, one by one -/
def lw_flat : List Cond := flatC (Jvm.Cond.and given_1 narrow_1)
theorem lw_el : ∀ j : Fin 135, lw_flat[13 + j.1]? = some (Cond.eq (.elem (.field (.string RX10 36) "java/lang/String" "value" "[B") (.int (Int32.ofNat j.1))) (.int (zbytes.getD j.1 0))) := by decide +kernel
theorem lw_known {s : State} {b : Addr} (htz : ∀ x ∈ zT, x.before #[Value.ref b] s = true) : ∀ c : Nat, ∃ d : ClassId × (Nat → Nat), ∀ q : vw_C, zcl[c]? = some q → u_Kn s q.1 q.2.1 q.2.2 d.1 d.2 := by
  have one : ∀ {C : String} {T : u_T} {N : Nat}, (∀ x ∈ u_ws C T N, x ∈ zT) → Cond.instantiable C N ∈ zT → ∃ d : ClassId × (Nat → Nat), u_Kn s C T N d.1 d.2 := fun h1 h2 => by
    obtain ⟨a, iS, h⟩ := u_known htz h1 (htz _ h2)
    exact ⟨(a, iS), h⟩
  intro c
  match c with
  | 0 => obtain ⟨d, h⟩ := one zin_X0 zis_X0; exact ⟨d, fun q hq => by cases hq; exact h⟩
  | 1 => obtain ⟨d, h⟩ := one zin_X1 zis_X1; exact ⟨d, fun q hq => by cases hq; exact h⟩
  | 2 => obtain ⟨d, h⟩ := one zin_X2 zis_X2; exact ⟨d, fun q hq => by cases hq; exact h⟩
  | 3 => obtain ⟨d, h⟩ := one zin_X3 zis_X3; exact ⟨d, fun q hq => by cases hq; exact h⟩
  | 4 => obtain ⟨d, h⟩ := one zin_X4 zis_X4; exact ⟨d, fun q hq => by cases hq; exact h⟩
  | 5 => obtain ⟨d, h⟩ := one zin_X5 zis_X5; exact ⟨d, fun q hq => by cases hq; exact h⟩
  | 6 => obtain ⟨d, h⟩ := one zin_X6 zis_X6; exact ⟨d, fun q hq => by cases hq; exact h⟩
  | 7 => obtain ⟨d, h⟩ := one zin_X7 zis_X7; exact ⟨d, fun q hq => by cases hq; exact h⟩
  | 8 => obtain ⟨d, h⟩ := one zin_X8 zis_X8; exact ⟨d, fun q hq => by cases hq; exact h⟩
  | 9 => obtain ⟨d, h⟩ := one zin_X9 zis_X9; exact ⟨d, fun q hq => by cases hq; exact h⟩
  | 10 => obtain ⟨d, h⟩ := one zin_X10 zis_X10; exact ⟨d, fun q hq => by cases hq; exact h⟩
  | 11 => obtain ⟨d, h⟩ := one zin_X11 zis_X11; exact ⟨d, fun q hq => by cases hq; exact h⟩
  | 12 => obtain ⟨d, h⟩ := one zin_X12 zis_X12; exact ⟨d, fun q hq => by cases hq; exact h⟩
  | n + 13 => exact ⟨(0, fun _ => 0), fun q hq => by cases hq⟩
theorem lw_arr {s : State} {b : Addr} {ty : FieldType} (h : (Cond.arrayClass ty).before #[Value.ref b] s = true) : ∃ cA : ClassId, ArrOfT s cA ty ∧ s.vm.findClass ("[" ++ ty.toString) = some cA := by
  obtain ⟨c, k, comp, h1, h2, h3⟩ := Cond.arrayClass_spec h
  exact ⟨c, fun n z => ⟨fun k h => (by cases h), k, h2, comp, h3⟩, h1⟩
-- ===== YOUR PART BEGINS =====
theorem whole_start {p : Program} {e : Env} {s : State} {m : MethodId} {below : List Frame} {meth : Method} {c : Code} (l : Launch) {b L : Nat} {xs : Nat → Int32} (hL : L ≤ 3072) (C0 : lw_At p s m meth c b L xs) : W p l e room_1 s m #[Value.ref b] below meth c s.heap [] 0 0 (lw_Z below #[Value.ref b] s) (entryFrame m ([Value.ref b] : List Value).toArray 4) := by
  obtain ⟨hx, hb, hr, hml, hown, hts, hX, hbl, hlocks, hnm, hgv⟩ := id C0
  have htz : ∀ x ∈ zT, x.before #[Value.ref b] s = true := fun x hx => hts x (List.mem_filter.mp hx).1
  have hA : ∀ q : Nat, q < s.heap.size → ¬ (fun q : Nat => s.heap.size ≤ q) q := fun q h => Nat.not_le.mpr h
  have hfl := flat_of_before _ hgv
  obtain ⟨D, hD⟩ := Classical.axiomOfChoice (lw_known htz)
  obtain ⟨cI, i1, i2⟩ := lw_arr (htz _ zar_int)
  obtain ⟨cB, b1, b2⟩ := lw_arr (htz _ zar_byte)
  obtain ⟨cL, l1, l2⟩ := lw_arr (htz _ zar_long)
  obtain ⟨cZ, z1, z2⟩ := lw_arr (htz _ zar_boolean)
  obtain ⟨adK, adV, hS, hSt⟩ := vk_Sof (args := #[Value.ref b]) (s := s) (N := 1) (tm := fun _ => Term.string RX10 36) (len := [135]) (byt := [zbytes]) (A := fun q : Nat => s.heap.size ≤ q)
    (fun i hi => by have : i = 0 := by omega
                    subst this; decide)
    (fun i hi => hfl _ (List.mem_of_getElem? (i := 9) (by decide +kernel)))
    (fun i hi => hfl _ (List.mem_of_getElem? (i := 10) (by decide +kernel)))
    (fun i hi => hfl _ (List.mem_of_getElem? (i := 11) (by decide +kernel)))
    (fun i hi => by have : i = 0 := by omega
                    subst this; exact hfl _ (List.mem_of_getElem? (i := 12) (by decide +kernel)))
    (fun i hi j hj => by have : i = 0 := by omega
                         subst this
                         have hj : j < 135 := hj
                         exact hfl _ (List.mem_of_getElem? (lw_el ⟨j, hj⟩)))
    (fun i j hi hj hne => absurd (show i = j by omega) hne) hA
  have hw : ∃ w : zW, w = (s.heap.size, (fun c => (D c).1, fun c => (D c).2), fun t => (if t = 0 then cI else if t = 1 then cB else if t = 2 then cL else if t = 3 then cZ else if t = 4 then adK 0 else adV 0), b, L, xs) := ⟨_, rfl⟩
  obtain ⟨w, hw⟩ := hw
  have hw1 : w.1 = s.heap.size := by rw [hw]
  have hwb : w.2.2.2.1 = b := by rw [hw]
  have hwL : w.2.2.2.2.1 = L := by rw [hw]
  have hA0 : zA0 w = fun q : Nat => s.heap.size ≤ q := by unfold zA0; rw [hw1]
  have hK : va_K w.2.1 zcl (zts w) s := by
    subst hw
    refine ⟨fun c q h => hD c q h, fun k q hq => ?_⟩
    match k, hq with
    | 0, hq => cases hq; exact ⟨i1, i2⟩
    | 1, hq => cases hq; exact ⟨b1, b2⟩
    | 2, hq => cases hq; exact ⟨l1, l2⟩
    | 3, hq => cases hq; exact ⟨z1, z2⟩
    | n + 4, hq => cases hq
  have hStr : vk_S 1 [135] [zbytes] (fun _ => w.2.2.1 4) (fun _ => w.2.2.1 5) (zA0 w) s s.heap := by
    rw [hA0]
    subst hw
    refine ⟨fun i hi => ?_, fun i j hi hj _ => by omega⟩
    have : i = 0 := by omega
    subst this
    exact hS.1 0 (by omega)
  have hR : vk_R RX10 36 zwords (w.2.2.1 4) s := by
    refine vk_R.of (A := #[Value.ref b]) (hts _ (lw_tab 34 (by decide +kernel))) ?_
    have := hSt 0 (by omega)
    subst hw
    exact this
  have hOld : zOld w s s.heap := by
    refine ⟨?_, hStr, ?_, ?_⟩
    · subst hw; exact hX
    · rw [hA0]
      exact va_Zof (args := #[Value.ref b]) (hts _ (lw_tab 44 (by decide +kernel))) (hts _ (lw_tab 3 (by decide +kernel))) (va_eqi (hfl _ (List.mem_of_getElem? (i := 4) (by decide +kernel)))) hA
    · rw [hA0]
      exact va_Zqof (args := #[Value.ref b]) (hts _ (lw_tab 60 (by decide +kernel))) (hts _ (lw_tab 5 (by decide +kernel))) (hfl _ (List.mem_of_getElem? (i := 5) (by decide +kernel))) hA
  have hNw : zNw s := ⟨va_Nw.of (A := #[Value.ref b]) rfl (hts _ (lw_tab 158 (by decide +kernel))), va_Nw.of (A := #[Value.ref b]) rfl (hts _ (lw_tab 164 (by decide +kernel)))⟩
  have hfx : zFx w kL_law p s m #[Value.ref b] meth c := ⟨hx, hb, hr, hlocks, hml, hown, htz, hnm, hK, by rw [hwb, hw1]; exact hbl, by rw [hw1]; exact Nat.le_refl _, hR, hNw⟩
  have hRep : zRep w s [] s.heap := ⟨by rw [hw1]; rfl, fun k q h => by simp [zws] at h, hOld⟩
  obtain ⟨S', hz⟩ := zLaw (w := w) (by rw [hwL]; exact hL)
  have hl := lv_entry ([.ref b]) (n := 4) (Nat.le_of_ble_eq_true rfl)
  rw [lg_entry_eq]
  have hl : lv_has ((lg_sl ([.ref b]) ++ List.replicate (4 - (lg_sl ([.ref b])).length) Slot.unset).toArray) 4 [(0, .ref w.2.2.2.1)] := by rw [hwb]; exact hl
  refine hz l p e room_1 s m #[Value.ref b] below meth c hfx (Nat.le_of_ble_eq_true rfl) (Nat.le_of_ble_eq_true rfl) (lw_Z below #[Value.ref b] s) s.heap [] 0 0 _ hRep va_S.rf hl (Nat.le_of_ble_eq_true rfl) (Nat.le_of_ble_eq_true rfl) ?_
  intro H' locs' cells' slots' ls' pc' st' hR' hS' hc' hs' hend
  refine va_forget (fun q hq => by have := hS'.2.2 q hq; rw [hA0] at this; exact this) ?_
  refine W.widen (k := 600000) (n := 7302250) (Nat.le_trans hc' (Nat.le_of_ble_eq_true rfl)) (Nat.le_trans hs' (Nat.le_of_ble_eq_true rfl)) ?_
  rcases hend with ⟨x, ty, g1, g0, rfl, g2, g3⟩ | ⟨x, g1, g0, g2⟩ | ⟨g1, g0, g2⟩
  · cases g0
    exact lw_ret hx hb hr hlocks g1
  · cases g0
  · cases g0
-- ===== YOUR PART ENDS =====
set_option maxHeartbeats 4000000 in
theorem lw_walk (l : Launch) (hflags : l.flags = flags0) (b : Addr) (xs : List Int32) : MetFree l x (headSpec (Jvm.Cond.code x code maxLocals ret :: tables_1) room_1) (lw_P b xs) (fun _ _ _ _ _ => True) lw_Q := by
  refine MetFree.of_bodyS (code := code) (maxLocals := maxLocals) (ret := ret) (by decide) ?_ ?_
  · intro args s m h hn
    obtain ⟨meth, c, h1, h2, h3, h4, h5, h6, -, -⟩ := Cond.code_spec hn (atoms_spec (ws := Jvm.Cond.code x code maxLocals ret :: tables_1) h _ List.mem_cons_self)
    exact ⟨meth, c, h1, h2, h3, h4, h5, h6⟩
  · intro p e s m args below meth c s₁ B hml0 hP _
    obtain ⟨rfl, hx, hbd, hgv⟩ := hP
    obtain ⟨scr, harrAt, hlist, hof, hsmall⟩ := hx
    obtain ⟨hcb, hkn, -, -⟩ := State.arrayAt?_spec harrAt
    have hown : s.vm.findClass R_law = some m.cls := findClass_of_methodNamed B.named
    have hts0 : ∀ c ∈ (Jvm.Cond.code x code maxLocals ret :: tables_1), c.before #[Value.ref b] s = true := atoms_spec (ws := Jvm.Cond.code x code maxLocals ret :: tables_1) B.pre
    have hts : ∀ w ∈ lw_tbl, w.before #[Value.ref b] s = true := k2_hts_sels lw_privs (fun w hw => hts0 w (List.mem_cons_of_mem _ hw)) lw_privs_ok
    have hml : c.maxLocals = 4 := B.maxLocals_eq (hts0 _ List.mem_cons_self)
    have X₀ : Stand p l e room_1 s m #[Value.ref b] below meth c s₁ [] 0 0 := Stand.of_body B
    have hh0 : s₁.heap = s.heap := by rw [B.state]; rfl
    have hsz : scr.slots.size = xs.length := by rw [← Array.length_toList, hlist, List.length_map]
    have hval : ∀ j : Nat, j < xs.length → scr.slots[j]? = some (.int (xs.getD j 0)) := fun j hj => by
      rw [← Array.getElem?_toList, hlist]
      simp [hj]
    have hbl : b < s.heap.size := (Array.getElem?_eq_some_iff.mp hcb).1
    have hX : va_X b xs.length (fun j => xs.getD j 0) s s.heap := ⟨scr, hcb, hof, hkn, hsz, hval⟩
    have K : W p l e room_1 s m #[Value.ref b] below meth c s₁.heap [] 0 0 (lw_Z below #[Value.ref b] s) (entryFrame m ([Value.ref b] : List Value).toArray 4) := by
      rw [hh0]
      exact whole_start l hbd ⟨B.exec, B.bytes, B.returns, hml, hown, hts, hX, hbl, B.notSynchronized, (name_of_methodNamed B.named B.method).1, hgv⟩
    obtain ⟨t, a1, o, b1, b2, b3⟩ := K s₁ rfl X₀
    exact ⟨t, o, a1, b1, b2, b3⟩
theorem lw_pre_spec {args : Array Value} {s : State} (h : (Jvm.Cond.and given_1 narrow_1).before args s = true) (hr : rest_1_c.before args s = true) : ∃ (b : Addr) (xs : List Int32), lw_P b xs args s := by
  have hs := flat_of_before _ h
  have hq := flat_of_before _ hr
  have hc : (Cond.count 1).before args s = true := hs _ (by decide +kernel)
  have harr : (Cond.arrayOf (.arg 0) .int).before args s = true := hs _ (by decide +kernel)
  have hle : (Cond.le (.length (.arg 0)) (.int 3072)).before args s = true := hs _ (by decide +kernel)
  have hlen : (Cond.isInt (.length (.arg 0))).before args s = true := hq _ (by decide +kernel)
  have hall : (Cond.all (.arg 0) (.isInt (.elem (.arg 0) (.index 0)))).before args s = true := hq _ (by decide +kernel)
  obtain ⟨b, xs, hb, hx⟩ := State.ints_of_pre rfl harr hlen hall
  have hsm : xs.length < 2 ^ 31 := hx.choose_spec.2.2.2
  have hev : (Term.length (.arg 0)).eval args s none [] s = some (.int xs.length.toInt32) := hx.length_eval hb
  have hv := Cond.le_ints hev (show (Term.int 3072).eval args s none [] s = some (.int 3072) from rfl)
  have hd : xs.length.toInt32 ≤ 3072 := by
    simpa [Cond.before, Cond.holds, hv] using hle
  have hN : xs.length ≤ 3072 := (Int32.ofNat_le_ofNat hsm (by decide)).mp (show Int32.ofNat xs.length ≤ Int32.ofNat 3072 from hd)
  exact ⟨b, xs, Cond.one_arg hc (show args[0]? = some (.ref b) from hb), hx, hN, h⟩
theorem lw_comes (l : Launch) (hflags : l.flags = flags0) : Comes l x (Jvm.Cond.code x code maxLocals ret :: tables_1) room_1 (fun tb e args s => Calls_1 tb e args s ∧ rest_1 tb e args s ∧ Pre_1 tb e args s)
    (fun _ _ args s o t => lw_Q args s o t) := by
  intro p e ha hc hk s m args below hf hfit hheap happ hpre
  obtain ⟨b, xs, hP⟩ := lw_pre_spec hpre.2.2 hpre.2.1
  obtain ⟨k, o, h1, h2, h3, hQ⟩ := lw_walk l hflags b xs p e ha hc hk s m args below hf ((Spec.applies_iff_loose hf).mp happ).1 hP trivial
  exact ⟨k, o, h1, h2, h3, hQ⟩
theorem lw_frame {s t : State} {o : Outcome} {args : Array Value} (h : Framed s o t [] 600000 7302250) :
    Framed s o t (fieldLocs frame_1_writes args s ++ arrayLocs frame_1_arrays args s ++ staticLocs frame_1_statics s) 600000 7302250 := h
theorem lw_limb (L : Cond) (hL : ∀ (args : Array Value) (s t : State), L.after args s (.returned (some (.int 1))) t = true) :
    ArmFor flags0 classFile x code maxLocals ret World_1 tables_1 room_1 Calls_1 rest_1 Pre_1
      (fun tb e a s o t => postC L tb e a s o t ∧ Framed s o t (fieldLocs frame_1_writes a s ++ arrayLocs frame_1_arrays a s ++ staticLocs frame_1_statics s) 600000 7302250) := by
  intro l hflags _ _ p e ha hc hk s m args below hf hfit hheap happ hpre
  obtain ⟨k, o, h1, h2, h3, rfl, hF⟩ := lw_comes l hflags p e ha hc hk s m args below hf hfit hheap happ hpre
  exact ⟨k, _, h1, h2, h3, hL args s _, lw_frame hF⟩
theorem i_vc : Claimed_1_1 ∧ Claimed_1_2 := ⟨lw_limb limb_1_1 (fun args s t => by simp [limb_1_1, Cond.after, Cond.holds, Cond.value]), lw_limb limb_1_2 (fun args s t => Cond.after_iff.mpr (by
  first | (rw [show limb_1_2 = Cond.eq .result (.int 1) from rfl, Cond.eq_ints (x := 1) (y := 1) rfl rfl]; simp; done) | (simp [limb_1_2, Cond.value, Term.eval]; done)))⟩
