/-! ===== the game as a function: T = the class's table (component 4), a state = (numbers and rows as in the class's component 5, layouts, how often lost, the row of coils) ===== -/
abbrev y_S : Type := zV × List Nat × Int32 × List Nat
def y_sz (T : zV) : Nat := (zI T 13 2).toNatClampNeg
def y_many (T : zV) (k : Nat) : Nat := (zA T 1 k).toNatClampNeg
def y_K (T : zV) (i : Nat) : Int32 := if i < y_sz T then zA T 14 i else 41
def y_N (T : zV) (i : Nat) : Int32 := if i < y_sz T then zA T 15 i else 0
/-- an E: vars, left, in play -/
abbrev y_X : Type := (Nat → Int32) → Int32 → Int32 → Int32
def y_unit (vars : Nat → Int32) (left ip k x : Int32) : Int32 := if k = 25 then left else if k = 26 then ip else if k = 27 then (if x < 0 then 0 else if 16 ≤ x then 0 else vars x.toNatClampNeg) else x
/-- an E worked out from its tokens: o open brackets with their sums f3 and terms f4, sum s, term t, fr: no term yet; the value and the token behind -/
def y_W (T : zV) (vars : Nat → Int32) (left ip : Int32) : Nat → Nat → (Nat → Int32) → (Nat → Int32) → Int32 → Int32 → Int32 → Nat → Option (Int32 × Nat)
  | 0, _, _, _, _, _, _, _ => none
  | n + 1, o, f3, f4, s, t, fr, i =>
    if y_sz T ≤ i then none
    else if y_K T i = 32 ∧ o < 6 then y_W T vars left ip n (o + 1) (upd f3 o s) (upd f4 o t) 0 1 1 (i + 1)
    else if y_K T i = 33 ∧ 0 < o then y_W T vars left ip n (o - 1) f3 f4 (f3 (o - 1)) (f4 (o - 1) * (s + t)) fr (i + 1)
    else if y_K T i = 34 ∨ y_K T i = 35 then y_W T vars left ip n o f3 f4 (s + (if fr = 0 then t else 0)) (if y_K T i = 34 then 1 else -1) fr (i + 1)
    else if y_K T i = 28 ∨ y_K T i = 27 ∨ y_K T i = 25 ∨ y_K T i = 26 then y_W T vars left ip n o f3 f4 s (t * y_unit vars left ip (y_K T i) (y_N T i)) 0 (i + 1)
    else if y_K T i = 36 then y_W T vars left ip n o f3 f4 s t fr (i + 1)
    else some (s + t, i)
def y_E (T : zV) (vars : Nat → Int32) (left ip : Int32) (i : Nat) : Option (Int32 × Nat) := y_W T vars left ip 1001 0 (fun _ => 0) (fun _ => 0) 0 1 1 i
def y_cmp (a k b : Int32) : Bool := if k = 37 then a = b else if k = 38 then ¬ a = b else if k = 39 then a < b else a ≤ b
def y_C (T : zV) (vars : Nat → Int32) (left ip : Int32) : Nat → Nat → Option Bool
  | 0, _ => none
  | n + 1, i => match y_E T vars left ip i with
    | none => none
    | some (a, e) => match y_E T vars left ip (e + 1) with
      | none => none
      | some (b, e2) => if y_cmp a (y_K T e) b = true then (if y_K T e2 = 15 then y_C T vars left ip n (e2 + 1) else some true) else some false
def y_cond (T : zV) (r : Nat) (vars : Nat → Int32) (left ip : Int32) : Option Bool := if zA T 18 r = -1 then some true else y_C T vars left ip 1000 (zA T 18 r).toNatClampNeg
/-- an act: its word, what it names, its E -/
abbrev y_A : Type := Nat × Nat × y_X
def y_X1 (T : zV) (i : Nat) : y_X := fun vars left ip => match y_E T vars left ip i with
  | some q => q.1
  | none => 0
def y_actAt (T : zV) (i : Nat) : y_A := ((y_K T i).toNatClampNeg, (y_N T (i + 1)).toNatClampNeg, y_X1 T (if y_K T i = 17 then i + 2 else i + 1))
def y_acts (T : zV) : Nat → Nat → List y_A
  | 0, _ => []
  | n + 1, i => if y_sz T ≤ i then [] else if y_K T i = 29 then [] else if y_K T i < 16 then y_acts T n (i + 1) else if y_K T i ≤ 24 then y_actAt T i :: y_acts T n (i + 1) else y_acts T n (i + 1)
def y_ra (T : zV) (r : Nat) : List y_A := y_acts T 1001 (zA T 19 r).toNatClampNeg
/-! the state -/
def y_I (S : y_S) (r k : Nat) : Int32 := zI S.1 r k
def y_R (S : y_S) (r : Nat) : Nat → Int32 := zA S.1 r
def y_P (S : y_S) : Int64 := zL S.1 0 8
def y_sI (S : y_S) (r k : Nat) (x : Int32) : y_S := (zsI S.1 r k x, S.2)
def y_sR (S : y_S) (r i : Nat) (x : Int32) : y_S := (zsA S.1 r (upd (zA S.1 r) i x), S.2)
def y_sP (S : y_S) (x : Int64) : y_S := (zsL S.1 0 8 x, S.2)
/-! layouts: three digits to the base 9, the greatest first -/
def y_mv (c a b : Nat) : Option Nat :=
  let x := c / 81
  let y := c / 9 % 9
  let z := c % 9
  let s (x y z : Nat) : Nat := (max x (max y z) * 9 + (x + y + z - max x (max y z) - min x (min y z))) * 9 + min x (min y z)
  if x = a then some (s b y z) else if y = a then some (s x b z) else if z = a then some (s x y b) else none
def y_put (L : List Nat) (c : Option Nat) : List Nat := match c with
  | none => L
  | some c => if c ∈ L then L else L ++ [c]
def y_mvA (B L : List Nat) (a b : Nat) : List Nat := B.foldl (fun L c => y_put L (y_mv c a b)) L
def y_way (T : zV) (w : Nat) : Nat × Nat := ((zA T 6 w).toNatClampNeg + 1, (zA T 7 w).toNatClampNeg + 1)
def y_silent (T : zV) : List Nat := (List.range (y_many T 5)).filter fun w => zA T 8 w = -1
def y_spr (T : zV) : Nat → Nat → List Nat → List Nat
  | 0, _, L => L
  | n + 1, i, L => match L[i]? with
    | none => L
    | some c => y_spr T n (i + 1) ((y_silent T).foldl (fun L w => y_put L (y_mv c (y_way T w).1 (y_way T w).2)) L)
def y_lTake (T : zV) (L : List Nat) : List Nat := y_spr T 121 0 (y_mvA L [] 0 1)
def y_lDrop (T : zV) (L : List Nat) : List Nat := (List.range (y_many T 4)).foldl (fun A p => y_mvA L A (p + 1) 0) []
def y_cnt (c : Nat) : Nat := min (c / 81) 1 + min (c / 9 % 9) 1 + min (c % 9) 1
def y_all (P k : Nat) : List Nat := (List.range 729).filter fun c => c / 81 ≤ P ∧ c / 9 % 9 ≤ c / 81 ∧ c % 9 ≤ c / 9 % 9 ∧ y_cnt c = k
def y_by (T : zV) (s : Nat) : List Nat := (List.range (y_many T 5)).filter fun w => zA T 8 w = nI s
def y_lBy (T : zV) (L : List Nat) (s : Nat) : List Nat := (y_by T s).foldl (fun A w => y_mvA L A (y_way T w).1 (y_way T w).2) []
/-! modes -/
def y_on (T : zV) (S : y_S) (m : Nat) : Bool × y_S :=
  if y_R S 19 m = 0 then (true, y_sR (y_sR (y_sR S 20 m (zA T 11 m)) 19 m 1) 21 m (y_R S 21 m + 1)) else (false, y_sR S 20 m (zA T 11 m))
def y_off (S : y_S) (m : Nat) : Bool × y_S :=
  if y_R S 19 m = 0 then (false, S) else (true, y_sR (y_sR (y_sR S 19 m 0) 20 m 0) 22 m (y_R S 22 m + 1))
def y_offs (T : zV) (S : y_S) : y_S := (List.range' 1 (y_many T 7 - 1)).foldl (fun S m => (y_off S m).2) S
def y_take (T : zV) (S : y_S) : y_S := if 3 ≤ y_I S 14 7 then S else (zsI S.1 14 7 (y_I S 14 7 + 1), y_lTake T S.2.1, S.2.2)
def y_drop (T : zV) (S : y_S) : y_S := if y_I S 14 7 ≤ 0 then S else (zsI S.1 14 7 (y_I S 14 7 - 1), y_lDrop T S.2.1, S.2.2)
def y_move (T : zV) (S : y_S) (s : Nat) : y_S :=
  if y_by T s = [] then S else
  match y_lBy T S.2.1 s with
  | [] => (S.1, y_all (y_many T 4) (y_I S 14 7).toNatClampNeg, S.2.2.1 + 1, S.2.2.2)
  | L => (S.1, y_spr T 121 0 L, S.2.2)
def y_await (S : y_S) (c : Nat) : y_S := if 8 ≤ S.2.2.2.length then S else if c ∈ S.2.2.2 then S else (S.1, S.2.1, S.2.2.1, S.2.2.2 ++ [c])
def y_gain (S : y_S) (x : Int32) : y_S := if y_I S 0 12 = 0 then y_sP S (if y_P S + x.toInt64 < (0 : Int64) then (0 : Int64) else y_P S + x.toInt64) else S
def y_val (S : y_S) (m : Nat) (e : y_X) : Int32 := e (y_R S 1) (y_R S 20 m) (y_I S 14 7)
def y_do (T : zV) (rR : Nat → Int32 → y_S → y_S) (top : Bool) (m : Nat) (a : y_A) (S : y_S) : y_S :=
  if a.1 = 16 then y_gain S (y_val S m a.2.2)
  else if a.1 = 17 then y_sR S 1 a.2.1 (y_val S m a.2.2)
  else if a.1 = 18 then (if (y_on T S a.2.1).1 = true then rR a.2.1 (-1) (y_on T S a.2.1).2 else (y_on T S a.2.1).2)
  else if a.1 = 19 then (if (y_off S m).1 = true then rR m (-2) (y_off S m).2 else (y_off S m).2)
  else if a.1 = 20 then y_await S a.2.1
  else if a.1 = 21 then y_sI S 0 14 (if y_I S 0 14 = 0 then (if top = true then 1 else 0) else 1)
  else if a.1 = 22 then y_drop T S
  else if a.1 = 23 then y_take T S
  else y_offs T (y_sI S 0 12 1)
def y_as (T : zV) (rR : Nat → Int32 → y_S → y_S) (top : Bool) (m : Nat) : List y_A → y_S → y_S
  | [], S => S
  | a :: l, S => if y_I S 0 13 < 200 then y_as T rR top m l (y_do T rR top m a (y_sI S 0 13 (y_I S 0 13 + 1))) else y_sI S 0 11 1
def y_rl (T : zV) (rR : Nat → Int32 → y_S → y_S) (top : Bool) (m : Nat) (ev o : Int32) : List Nat → y_S → y_S
  | [], S => S
  | r :: l, S =>
    if zA T 17 r = ev ∧ y_cond T r (y_R S 1) (y_R S 20 m) (y_I S 14 7) = some true then
      (if (¬ ev = -2 ∧ ¬ y_R (y_as T rR top m (y_ra T r) S) 22 m = o) ∨ (top = true ∧ ¬ y_I (y_as T rR top m (y_ra T r) S) 0 14 = 0) then y_as T rR top m (y_ra T r) S
      else y_rl T rR top m ev o l (y_as T rR top m (y_ra T r) S))
    else y_rl T rR top m ev o l S
def y_hd (T : zV) (m : Nat) : Nat := (zA T 16 m).toNatClampNeg
def y_rs (T : zV) (m : Nat) : List Nat := List.range' (y_hd T m) (y_hd T (m + 1) - y_hd T m)
/-- the rules of a mode on an event, with so many levels left -/
def y_rR (T : zV) : Nat → Bool → Nat → Int32 → y_S → y_S
  | 0, _, _, _, S => S
  | l + 1, top, m, ev, S => y_rl T (fun m' ev' S' => y_rR T l false m' ev' S') top m ev (y_R S 22 m) (y_rs T m) S
def y_end (T : zV) (S : y_S) : y_S :=
  if y_I S 0 9 = 0 then S
  else if y_I S 14 7 ≤ 0 then
    (if y_I S 0 9 = 3 then y_sI (y_sI (y_offs T S) 0 12 0) 0 9 0 else y_take T (y_sI (y_sI (y_offs T S) 0 12 0) 0 9 (y_I S 0 9 + 1)))
  else S
def y_rem (T : zV) (S : y_S) : y_S := (zsA S.1 23 (fun m => if m < y_many T 7 then (if y_R S 19 m = 0 then -1 else y_R S 22 m) else 0), S.2)
def y_beg (T : zV) (S : y_S) : y_S := y_rem T (y_sI (y_sI S 0 13 0) 0 14 0)
def y_ord (T : zV) : List Nat := (List.range (y_many T 7)).map fun i => (zA T 12 i).toNatClampNeg
def y_hl (T : zV) (s : Nat) : List Nat → y_S → y_S
  | [], S => S
  | m :: l, S => if y_I S 0 14 = 0 then (if y_R S 23 m = y_R S 22 m then y_hl T s l (y_rR T 9 true m (nI s) S) else y_hl T s l S) else S
def y_took (S : y_S) (s : Nat) : y_S := y_sR (y_sR (y_sR S 6 s (y_R S 6 s + 1)) 8 s (y_I S 0 10)) 9 s (y_I S 0 9)
def y_hit (T : zV) (S : y_S) (s : Nat) : Bool × y_S :=
  if ¬ y_I S 0 9 = 0 ∧ (y_R S 6 s ≤ 0 ∨ zA T 2 s ≤ y_I S 0 10 - y_R S 8 s) then
    (true, y_end T (y_hl T s (y_ord T) (y_beg T (y_move T (y_took (y_sR S 7 s (y_R S 7 s + 1)) s) s))))
  else (false, y_sR S 7 s (y_R S 7 s + 1))
def y_tl (T : zV) : List Nat → y_S → y_S
  | [], S => S
  | m :: l, S =>
    if y_R S 23 m = y_R S 22 m ∧ 0 < zA T 11 m then
      (if 0 < y_R S 20 m - 1 then y_tl T l (y_sR S 20 m (y_R S 20 m - 1))
       else if (y_off (y_sR S 20 m (y_R S 20 m - 1)) m).1 = true then y_tl T l (y_rR T 8 false m (-2) (y_off (y_sR S 20 m (y_R S 20 m - 1)) m).2)
       else y_tl T l (y_off (y_sR S 20 m (y_R S 20 m - 1)) m).2)
    else y_tl T l S
def y_apart (T : zV) (c d : Nat) : Bool := (zA T 4 c).toBitVec.getLsbD d
/-- coils: those that wait, those that fired now, those kept -/
def y_fl (T : zV) : List Nat → List Nat → List Nat → y_S → Nat × y_S
  | [], f, k, S => (f.length, (S.1, S.2.1, S.2.2.1, k))
  | c :: l, f, k, S =>
    if (y_R S 11 c = 0 ∨ zA T 3 c ≤ y_I S 0 10 - y_R S 12 c) ∧ f.all (fun d => !y_apart T c d) = true then
      y_fl T l (f ++ [c]) k (y_sR (y_sR S 11 c (y_R S 11 c + 1)) 12 c (y_I S 0 10))
    else y_fl T l f (k ++ [c]) S
def y_timed (T : zV) (S : y_S) : Nat := ((List.range (y_many T 7)).filter fun m => ¬ y_R S 19 m = 0 ∧ 0 < zA T 11 m).length
def y_tick (T : zV) (S : y_S) : Nat × y_S :=
  let S1 := y_sI S 0 10 (y_I S 0 10 + 1)
  let S2 := if ¬ y_I S 0 9 = 0 ∧ 0 < y_timed T S then y_end T (y_tl T (y_ord T) (y_beg T S1)) else S1
  y_fl T S2.2.2.2 [] [] S2
/-- a new game -/
def y_new (T : zV) (a h : Int32) (r : Nat → Int32) : y_S := (zsI (zsI (zsI (zsA (zsA z0 1 (zA T 9)) 23 r) 0 9 1) 0 13 a) 0 14 h, (if y_many T 4 = 0 then [] else [0]), 0, [])
def y_open (T : zV) : y_S :=
  let S1 := y_beg T (y_take T (y_new T 0 0 (fun _ => 0)))
  let S2 := if y_many T 7 = 0 then S1 else if (y_on T S1 0).1 = true then y_rR T 8 false 0 (-1) (y_on T S1 0).2 else (y_on T S1 0).2
  y_end T S2
