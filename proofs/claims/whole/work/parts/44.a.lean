section ZP3
variable {w : zW} {k : zM} {d a z : Nat} {v : Option Value} {S' : zS} {pc : Nat} {lv : List (Nat × Value)} {st : List Value} {pre tl : zS} {n : Nat}
theorem zK_pute {idx ci kf : Nat} {fs fs2 : List Value} {x : Value} {ty : FieldType} (hn : pre.length = n) (hd : decode k.2.1 pc = .ok (.putfield idx, 3)) (hf : zFld k.1.cls idx ci kf) (hy : zFty ci kf ty false) (hk : kf < fs.length) (hnr : narrow ty x = x) (hfit : fits ty x = true) (he : fs.set kf x = fs2)
    (nx : zR w k d a z v S' (pc + 3) lv st (pre ++ .inr (ci, fs2) :: tl)) : zR w k d a z v S' pc lv (x :: .ref (w.1 + n) :: st) (pre ++ .inr (ci, fs) :: tl) := by
  subst he
  exact zK_put hn hd hf hy hk hnr hfit nx
theorem zK_putFe {idx ci kf : Nat} {fs fs2 : List Value} {x : Value} {ty : FieldType} (hn : pre.length = n) (hd : decode k.2.1 pc = .ok (.putfield idx, 3)) (hf : zFld k.1.cls idx ci kf) (hy : zFty ci kf ty true) (hin2 : k.1.name = "<init>") (hown2 : ∃ T N, zcl[ci]? = some (k.1.cls, T, N)) (hk : kf < fs.length) (hnr : narrow ty x = x) (hfit : fits ty x = true) (he : fs.set kf x = fs2)
    (nx : zR w k d a z v S' (pc + 3) lv st (pre ++ .inr (ci, fs2) :: tl)) : zR w k d a z v S' pc lv (x :: .ref (w.1 + n) :: st) (pre ++ .inr (ci, fs) :: tl) := by
  subst he
  exact zK_putF hn hd hf hy hin2 hown2 hk hnr hfit nx
end ZP3
