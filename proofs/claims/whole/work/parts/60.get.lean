/-! ===== components: what is read behind a write ===== -/
theorem y_get : (∀ (V : zV) (r k r' k' : Nat) (x : Int32), zI (zsI V r k x) r' k' = if r' = r ∧ k' = k then x else zI V r' k') ∧
  (∀ (V : zV) (r k r' k' : Nat) (x : Int64), zI (zsL V r k x) r' k' = zI V r' k') ∧
  (∀ (V : zV) (r r' k' : Nat) (x : (Nat → Int32)), zI (zsA V r x) r' k' = zI V r' k') ∧
  (∀ (V : zV) (r r' k' : Nat) (x : (Nat → Int64)), zI (zsB V r x) r' k' = zI V r' k') ∧
  (∀ (V : zV) (r k r' k' : Nat) (x : Nat), zI (zsP V r k x) r' k' = zI V r' k') ∧
  (∀ (V : zV) (r k r' k' : Nat) (x : Int32), zL (zsI V r k x) r' k' = zL V r' k') ∧
  (∀ (V : zV) (r k r' k' : Nat) (x : Int64), zL (zsL V r k x) r' k' = if r' = r ∧ k' = k then x else zL V r' k') ∧
  (∀ (V : zV) (r r' k' : Nat) (x : (Nat → Int32)), zL (zsA V r x) r' k' = zL V r' k') ∧
  (∀ (V : zV) (r r' k' : Nat) (x : (Nat → Int64)), zL (zsB V r x) r' k' = zL V r' k') ∧
  (∀ (V : zV) (r k r' k' : Nat) (x : Nat), zL (zsP V r k x) r' k' = zL V r' k') ∧
  (∀ (V : zV) (r k r' : Nat) (x : Int32), zA (zsI V r k x) r' = zA V r') ∧
  (∀ (V : zV) (r k r' : Nat) (x : Int64), zA (zsL V r k x) r' = zA V r') ∧
  (∀ (V : zV) (r r' : Nat) (x : (Nat → Int32)), zA (zsA V r x) r' = if r' = r then x else zA V r') ∧
  (∀ (V : zV) (r r' : Nat) (x : (Nat → Int64)), zA (zsB V r x) r' = zA V r') ∧
  (∀ (V : zV) (r k r' : Nat) (x : Nat), zA (zsP V r k x) r' = zA V r') ∧
  (∀ (V : zV) (r k r' : Nat) (x : Int32), zB (zsI V r k x) r' = zB V r') ∧
  (∀ (V : zV) (r k r' : Nat) (x : Int64), zB (zsL V r k x) r' = zB V r') ∧
  (∀ (V : zV) (r r' : Nat) (x : (Nat → Int32)), zB (zsA V r x) r' = zB V r') ∧
  (∀ (V : zV) (r r' : Nat) (x : (Nat → Int64)), zB (zsB V r x) r' = if r' = r then x else zB V r') ∧
  (∀ (V : zV) (r k r' : Nat) (x : Nat), zB (zsP V r k x) r' = zB V r') ∧
  (∀ (V : zV) (r k r' k' : Nat) (x : Int32), zP (zsI V r k x) r' k' = zP V r' k') ∧
  (∀ (V : zV) (r k r' k' : Nat) (x : Int64), zP (zsL V r k x) r' k' = zP V r' k') ∧
  (∀ (V : zV) (r r' k' : Nat) (x : (Nat → Int32)), zP (zsA V r x) r' k' = zP V r' k') ∧
  (∀ (V : zV) (r r' k' : Nat) (x : (Nat → Int64)), zP (zsB V r x) r' k' = zP V r' k') ∧
  (∀ (V : zV) (r k r' k' : Nat) (x : Nat), zP (zsP V r k x) r' k' = if r' = r ∧ k' = k then x else zP V r' k') ∧
  (∀ (V : zV) (r k r' : Nat) (x : Int32), zN (zsI V r k x) r' = zN V r') ∧
  (∀ (V : zV) (r k r' : Nat) (x : Int64), zN (zsL V r k x) r' = zN V r') ∧
  (∀ (V : zV) (r r' : Nat) (x : (Nat → Int32)), zN (zsA V r x) r' = zN V r') ∧
  (∀ (V : zV) (r r' : Nat) (x : (Nat → Int64)), zN (zsB V r x) r' = zN V r') ∧
  (∀ (V : zV) (r k r' : Nat) (x : Nat), zN (zsP V r k x) r' = zN V r') := by
  refine ⟨?_, ?_, ?_, ?_, ?_, ?_, ?_, ?_, ?_, ?_, ?_, ?_, ?_, ?_, ?_, ?_, ?_, ?_, ?_, ?_, ?_, ?_, ?_, ?_, ?_, ?_, ?_, ?_, ?_, ?_⟩ <;> intros <;> rfl
theorem y_lit : ((0 : Int32) = nI 0) ∧ ((1 : Int32) = nI 1) ∧ ((2 : Int32) = nI 2) ∧ ((3 : Int32) = nI 3) ∧ ((4 : Int32) = nI 4) ∧ ((5 : Int32) = nI 5) ∧ ((6 : Int32) = nI 6) ∧ ((7 : Int32) = nI 7) ∧ ((8 : Int32) = nI 8) ∧ ((9 : Int32) = nI 9) ∧ ((10 : Int32) = nI 10) ∧ ((11 : Int32) = nI 11) ∧ ((12 : Int32) = nI 12) ∧ ((13 : Int32) = nI 13) ∧ ((14 : Int32) = nI 14) ∧ ((15 : Int32) = nI 15) ∧ ((16 : Int32) = nI 16) ∧ ((17 : Int32) = nI 17) ∧ ((18 : Int32) = nI 18) ∧ ((19 : Int32) = nI 19) ∧ ((20 : Int32) = nI 20) ∧ ((21 : Int32) = nI 21) ∧ ((22 : Int32) = nI 22) ∧ ((23 : Int32) = nI 23) ∧ ((24 : Int32) = nI 24) ∧ ((25 : Int32) = nI 25) ∧ ((26 : Int32) = nI 26) ∧ ((27 : Int32) = nI 27) ∧ ((28 : Int32) = nI 28) ∧ ((29 : Int32) = nI 29) ∧ ((30 : Int32) = nI 30) ∧ ((31 : Int32) = nI 31) ∧ ((32 : Int32) = nI 32) ∧ ((33 : Int32) = nI 33) ∧ ((34 : Int32) = nI 34) ∧ ((35 : Int32) = nI 35) ∧ ((36 : Int32) = nI 36) ∧ ((37 : Int32) = nI 37) ∧ ((38 : Int32) = nI 38) ∧ ((39 : Int32) = nI 39) ∧ ((40 : Int32) = nI 40) ∧ ((41 : Int32) = nI 41) ∧ ((42 : Int32) = nI 42) ∧ ((43 : Int32) = nI 43) ∧ ((44 : Int32) = nI 44) ∧ ((45 : Int32) = nI 45) ∧ ((46 : Int32) = nI 46) ∧ ((47 : Int32) = nI 47) ∧ ((48 : Int32) = nI 48) ∧ ((57 : Int32) = nI 57) ∧ ((58 : Int32) = nI 58) ∧ ((59 : Int32) = nI 59) ∧ ((60 : Int32) = nI 60) ∧ ((61 : Int32) = nI 61) ∧ ((76 : Int32) = nI 76) ∧ ((80 : Int32) = nI 80) ∧ ((81 : Int32) = nI 81) ∧ ((90 : Int32) = nI 90) ∧ ((97 : Int32) = nI 97) ∧ ((100 : Int32) = nI 100) ∧ ((120 : Int32) = nI 120) ∧ ((122 : Int32) = nI 122) ∧ ((200 : Int32) = nI 200) ∧ ((255 : Int32) = nI 255) ∧ ((400 : Int32) = nI 400) ∧ ((600 : Int32) = nI 600) ∧ ((729 : Int32) = nI 729) ∧ ((800 : Int32) = nI 800) ∧ ((1000 : Int32) = nI 1000) ∧ ((1001 : Int32) = nI 1001) ∧ ((1002 : Int32) = nI 1002) ∧ ((1200 : Int32) = nI 1200) ∧ ((2000 : Int32) = nI 2000) ∧ ((4000 : Int32) = nI 4000) ∧ ((5000 : Int32) = nI 5000) := by
  refine ⟨rfl, rfl, rfl, rfl, rfl, rfl, rfl, rfl, rfl, rfl, rfl, rfl, rfl, rfl, rfl, rfl, rfl, rfl, rfl, rfl, rfl, rfl, rfl, rfl, rfl, rfl, rfl, rfl, rfl, rfl, rfl, rfl, rfl, rfl, rfl, rfl, rfl, rfl, rfl, rfl, rfl, rfl, rfl, rfl, rfl, rfl, rfl, rfl, rfl, rfl, rfl, rfl, rfl, rfl, rfl, rfl, rfl, rfl, rfl, rfl, rfl, rfl, rfl, rfl, rfl, rfl, rfl, rfl, rfl, rfl, rfl, rfl, rfl, rfl, rfl⟩
/-! ===== small rows ===== -/
theorem y_if {α : Type} {c : Prop} [Decidable c] {x y : α} (h : c) : (if c then x else y) = x := if_pos h
theorem y_ck {α : Type} {j N : Nat} {x : Option α} (h : j < N) (hN : N < 2 ^ 31) : zchk (zix (nI j) N) x = x := zchk_t (nI_in h hN)
theorem y_bd {α β : Type} {y : α} {f : α → Option β} : zbd (some y) f = f y := rfl
theorem y_let {α β : Type} {x : α} {f : α → β} : zlet x f = f x := rfl
theorem y_upd {f : Nat → Int32} {k j : Nat} {x : Int32} : upd f k x j = if j = k then x else f j := rfl
theorem y_updL {f : Nat → Int64} {k j : Nat} {x : Int64} : vp_updL f k x j = if j = k then x else f j := rfl
theorem y_bool0 : vp_nar .boolean (0 : Int32) = 0 := rfl
theorem y_bool1 : vp_nar .boolean (1 : Int32) = 1 := rfl
/-- a number that lies in a row -/
theorem y_of {x : Int32} {n : Nat} (h0 : ¬ x < 0) (h1 : ¬ nI n ≤ x) (hn : n < 2 ^ 31) : ∃ j : Nat, j < n ∧ x = nI j := by
  obtain ⟨j, hj, rfl⟩ := nI_of h0
  exact ⟨j, by rw [nI_leI hn hj] at h1; omega, rfl⟩
theorem y_nn {x : Int32} {n : Nat} (hx : x = nI n) (h : n < 2 ^ 31) : x.toNatClampNeg = n := by rw [hx]; exact nI_clamp h
