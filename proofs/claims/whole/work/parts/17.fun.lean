section FunPure
def jix (i : Int32) : Nat := i.toNatClampNeg
def jushr (x y : Int32) : Int32 := (x.toUInt32 >>> (y.toUInt32 &&& Int32.toUInt32 31)).toInt32
def jrem (x y : Int32) : Int32 := x - x / y * y
def jbyte (x : Int32) : Int32 := x.toInt8.toInt32
def jchar (x : Int32) : Int32 := (x.toUInt32 % 65536).toInt32
def jmin (x y : Int32) : Int32 := if y < x then y else x
def jmax (x y : Int32) : Int32 := if x < y then y else x
def fC0 (k : Nat) : Int32 := ([-1, -1, 1, -1, 0, 0, 2] : List Int32).getD k 0
def fC1 (k : Nat) : Int32 := ([3, 2, 1, 1] : List Int32).getD k 0
def fC4 (k : Nat) : Int32 := rnSigns.getD k 0
def fC6 (k : Nat) : Int32 := rnWords.getD k 0
/-- the desk, made at its first use -/
def fK_theDesk (M : Mm) : Mm := if M 0 8 = 0 then fun b k => if b = 252 then 0 else if b = 0 ∧ k = 8 then 1 else M b k else M
def fP_forget (M : Mm) : Mm :=
  let M1 : Mm := mput M 31 0 0
  M1
def fK_state (x1 : Int32) (M : Mm) : (Int32 × Mm) :=
  let v1 : Int32 := (M 1 12)
  let M2 : Mm := mput M 1 12 x1
  let M3 : Mm := fP_forget M2
  (v1, M3)
def fK_isWithin (x0 : Int32) (x1 : Int32) (x2 : Int32) : Int32 :=
  if x0 < x1 then
    0
  else
    if x2 < x0 then
      0
    else
      1
def fK_isFace (x0 : Int32) : Option Int32 :=
  let v1 : Int32 := fK_isWithin x0 (-9) 9
  if v1 = 0 ∨ v1 = 1 then
  some v1
  else none
def fD_add (w : Nat) (x1 : Int32) (x2 : Int32) (x3 : Int32) (M : Mm) : Option (Int32 × Mm) :=
  if (M w 0) < 12 then
    if inb (M w 0) 12 then
    let M1 : Mm := mput M (w + 1) (jix (M w 0)) x1
    if inb (M1 w 0) 12 then
    let M3 : Mm := mput M1 (w + 2) (jix (M1 w 0)) x2
    if inb (M3 w 0) 12 then
    let M5 : Mm := mput M3 (w + 3) (jix (M3 w 0)) x3
    if inb (M5 w 0) 12 then
    let M7 : Mm := mput M5 (w + 4) (jix (M5 w 0)) 0
    let M9 : Mm := mput M7 w 0 ((M7 w 0) + 1)
    some (((M9 w 0) - 1), M9)
    else none
    else none
    else none
    else none
  else
    some ((-1), M)
def fK_door (x1 : Int32) (x2 : Int32) (x3 : Int32) (M : Mm) : Option (Int32 × Mm) :=
  Option.bind (fK_isFace x1) fun q2 =>
  Option.bind (
    if q2 = 0 then
      some 0
    else
      let v3 : Int32 := fK_isWithin x2 0 9
      if v3 = 0 then
        some 0
      else
        let v4 : Int32 := fK_isWithin x3 0 999
        if v4 = 0 then
          some 0
        else
          some 1) fun y5 =>
  if y5 = 0 then
    some ((-1), M)
  else
    if (M 2 0) < 12 then
      let M6 : Mm := fP_forget M
      Option.bind (fD_add 2 x1 x2 x3 M6) fun q8 =>
      some (q8.1, q8.2)
    else
      some ((-1), M)
def fK_setPostman (x1 : Int32) (x2 : Int32) (M : Mm) : (Int32 × Mm) :=
  let v1 : Int32 := fK_isWithin x2 0 99
  if v1 = 0 then
    (0, M)
  else
    if x1 = 3 then
      let M3 : Mm := mput M 1 5 x2
      (1, M3)
    else
      let M2 : Mm := mput M 1 6 x2
      (1, M2)
def fK_isDoor (x1 : Int32) (M : Mm) : Option Int32 :=
  let v1 : Int32 := fK_isWithin x1 0 ((M 2 0) - 1)
  if v1 = 0 ∨ v1 = 1 then
  some v1
  else none
def fK_setDoor_j66 (z1 : Int32) (z2 : Int32) (z3 : Int32) (M : Mm) : Option (Int32 × Mm) :=
  if z1 = 2 then
    let v10 : Int32 := fK_isWithin z3 0 999
    if v10 = 0 then
      some (0, M)
    else
      if inb z2 12 then
      let M11 : Mm := mput M 5 (jix z2) z3
      some (1, M11)
      else none
  else
    some (0, M)
def fK_setDoor_j36 (z1 : Int32) (z2 : Int32) (z3 : Int32) (M : Mm) : Option (Int32 × Mm) :=
  if z1 = 1 then
    let v7 : Int32 := fK_isWithin z3 0 9
    if v7 = 0 then
      fK_setDoor_j66 z1 z2 z3 M
    else
      if inb z2 12 then
      let M8 : Mm := mput M 4 (jix z2) z3
      some (1, M8)
      else none
  else
    fK_setDoor_j66 z1 z2 z3 M
def fK_setDoor (x1 : Int32) (x2 : Int32) (x3 : Int32) (M : Mm) : Option (Int32 × Mm) :=
  Option.bind (fK_isDoor x2 M) fun q2 =>
  if q2 = 0 then
    some (0, M)
  else
    if x1 = 0 then
      Option.bind (fK_isFace x3) fun q4 =>
      if q4 = 0 then
        fK_setDoor_j36 x1 x2 x3 M
      else
        if inb x2 12 then
        let M5 : Mm := mput M 3 (jix x2) x3
        some (1, M5)
        else none
    else
      fK_setDoor_j36 x1 x2 x3 M
def fK_set (x1 : Int32) (x2 : Int32) (x3 : Int32) (M : Mm) : Option (Int32 × Mm) :=
  Option.bind (
    if x1 = 3 then
      let q1 : Int32 × Mm := fK_setPostman x1 x3 M
      some (q1.1, q1.2)
    else
      if x1 = 4 then
        let q4 : Int32 × Mm := fK_setPostman x1 x3 M
        some (q4.1, q4.2)
      else
        Option.bind (fK_setDoor x1 x2 x3 M) fun q3 =>
        some (q3.1, q3.2)) fun t26 =>
  let y5 : Int32 := t26.1
  let M6 : Mm := t26.2
  if y5 = 0 then
    if y5 = 0 ∨ y5 = 1 then
    some (y5, M6)
    else none
  else
    let M8 : Mm := fP_forget M6
    if y5 = 0 ∨ y5 = 1 then
    some (y5, M8)
    else none
def fK_isKind (x0 : Int32) : Option Int32 :=
  let v1 : Int32 := fK_isWithin x0 0 6
  if v1 = 0 ∨ v1 = 1 then
  some v1
  else none
def fD_copyFrom (w : Nat) (v : Nat) (M : Mm) : Mm :=
  let M1 : Mm := mput M w 0 (M v 0)
  let M2 : Mm := mcp M1 (v + 1) (w + 1) 0 0 12
  let M3 : Mm := mcp M2 (v + 2) (w + 2) 0 0 12
  let M4 : Mm := mcp M3 (v + 3) (w + 3) 0 0 12
  let M5 : Mm := mcp M4 (v + 4) (w + 4) 0 0 12
  M5
def fB_copyFrom (w : Nat) (v : Nat) (M : Mm) : Mm :=
  let M1 : Mm := mput M w 0 (M v 0)
  let M2 : Mm := mput M1 w 1 (M1 v 1)
  let M3 : Mm := mcp M2 (v + 1) (w + 1) 0 0 24
  let M4 : Mm := mcp M3 (v + 2) (w + 2) 0 0 24
  let M5 : Mm := mcp M4 (v + 3) (w + 3) 0 0 24
  let M6 : Mm := mcp M5 (v + 4) (w + 4) 0 0 24
  let M7 : Mm := mcp M6 (v + 5) (w + 5) 0 0 24
  M7
def fW_copyFrom (w : Nat) (v : Nat) (M : Mm) : Option Mm :=
  let M1 : Mm := fD_copyFrom (w + 1) (v + 1) M
  let M2 : Mm := fB_copyFrom (w + 7) (v + 7) M1
  let M3 : Mm := mcp M2 (v + 13) (w + 13) 0 0 7
  if ¬ 0 < 0 ∧ ¬ 0 < 0 ∧ ¬ (jmin (nI (kbl w)) (nI (kbl v))) < 0 ∧ jix 0 + jix (jmin (nI (kbl w)) (nI (kbl v))) ≤ kbl v ∧ jix 0 + jix (jmin (nI (kbl w)) (nI (kbl v))) ≤ kbl w then
  let M4 : Mm := mcp M3 (v + 14) (w + 14) (jix 0) (jix 0) (jix (jmin (nI (kbl w)) (nI (kbl v))))
  let M6 : Mm := mput M4 w 4 (M4 v 4)
  let M7 : Mm := mput M6 w 5 (M6 v 5)
  let M8 : Mm := mput M7 w 6 (M7 v 6)
  let M9 : Mm := mput M8 w 7 (M8 v 7)
  let M10 : Mm := mput M9 w 8 (M9 v 8)
  let M11 : Mm := mput M10 w 9 (M10 v 9)
  let M12 : Mm := mput M11 w 10 (M11 v 10)
  let M13 : Mm := mput M12 w 11 (M12 v 11)
  let M14 : Mm := mput M13 w 12 (M13 v 12)
  some M14
  else none
def fP_keep (M : Mm) : Option Mm :=
  let M1 : Mm := mput M 31 1 (jrem ((M 31 1) + 1) 6)
  if inb (M1 31 1) 6 then
  Option.bind (fW_copyFrom (33 + 15 * jix (M1 31 1)) 1 M1) fun M4 =>
  let M5 : Mm := mput M4 31 0 (jmin 6 ((M4 31 0) + 1))
  some M5
  else none
def fB_add (w : Nat) (x1 : Int32) (x2 : Int32) (x3 : Int32) (M : Mm) : Option (Int32 × Mm) :=
  if (M w 0) < 24 then
    if inb (M w 0) 24 then
    let M1 : Mm := mput M (w + 1) (jix (M w 0)) (M w 1)
    if inb (M1 w 0) 24 then
    let M3 : Mm := mput M1 (w + 2) (jix (M1 w 0)) x1
    if inb (M3 w 0) 24 then
    let M5 : Mm := mput M3 (w + 3) (jix (M3 w 0)) x2
    if inb (M5 w 0) 24 then
    let M7 : Mm := mput M5 (w + 4) (jix (M5 w 0)) x3
    if inb (M7 w 0) 24 then
    let M9 : Mm := mput M7 (w + 5) (jix (M7 w 0)) 0
    let M11 : Mm := mput M9 w 0 ((M9 w 0) + 1)
    let M12 : Mm := mput M11 w 1 ((M11 w 1) + 1)
    some (((M12 w 1) - 1), M12)
    else none
    else none
    else none
    else none
    else none
  else
    some ((-1), M)
def fW_write (w : Nat) (x1 : Int32) (x2 : Int32) (x3 : Int32) (M : Mm) : Option Mm :=
  let v1 : Int32 := ((M w 4) * 4)
  if (v1 + 4) ≤ (nI (kbl w)) then
    if inb v1 (kbl w) then
    let M2 : Mm := mput M (w + 14) (jix v1) (M w 11)
    if inb (v1 + 1) (kbl w) then
    let M4 : Mm := mput M2 (w + 14) (jix (v1 + 1)) x1
    if inb (v1 + 2) (kbl w) then
    let M6 : Mm := mput M4 (w + 14) (jix (v1 + 2)) x2
    if inb (v1 + 3) (kbl w) then
    let M8 : Mm := mput M6 (w + 14) (jix (v1 + 3)) x3
    let M10 : Mm := mput M8 w 4 ((M8 w 4) + 1)
    some M10
    else none
    else none
    else none
    else none
  else
    some M
def fW_arrive (w : Nat) (x1 : Int32) (x2 : Int32) (x3 : Int32) (M : Mm) : Option (Int32 × Mm) :=
  Option.bind (fB_add (w + 7) x1 x2 x3 M) fun q2 =>
  Option.bind (
    if q2.1 = (-1) then
      let M3 : Mm := mput q2.2 w 8 ((q2.2 w 8) + 1)
      some M3
    else
      some q2.2) fun M4 =>
  Option.bind (fW_write w (if q2.1 = (-1) then 3 else 0) q2.1 x1 M4) fun M6 =>
  some (q2.1, M6)
def fK_post (x1 : Int32) (x2 : Int32) (x3 : Int32) (M : Mm) : Option (Int32 × Mm) :=
  Option.bind (fK_isDoor x1 M) fun q2 =>
  Option.bind (
    if q2 = 0 then
      some 0
    else
      Option.bind (fK_isKind x2) fun q4 =>
      if q4 = 0 then
        some 0
      else
        let v5 : Int32 := fK_isWithin x3 1 99
        if v5 = 0 then
          some 0
        else
          some 1) fun y6 =>
  if y6 = 0 then
    some ((-1), M)
  else
    if (M 8 0) < 24 then
      Option.bind (fP_keep M) fun M8 =>
      Option.bind (fW_arrive 1 x1 x2 x3 M8) fun q10 =>
      some (q10.1, q10.2)
    else
      some ((-1), M)
def fB_placeOf_b2 (w : Nat) (x1 : Int32) (M : Mm) (x2 : Int32) : Option (Int32 ⊕ (Int32 ⊕ Unit)) :=
  if (M w 0) ≤ x2 then
    some (Sum.inr (Sum.inr ()))
  else
    if inb x2 24 then
    if (M (w + 1) (jix x2)) = x1 then
      some (Sum.inr (Sum.inl x2))
    else
      some (Sum.inl (x2 + 1))
    else none
def fB_placeOf (w : Nat) (x1 : Int32) (M : Mm) : Option Int32 :=
  Option.bind (lp 1000000 (fun s => fB_placeOf_b2 w x1 M s) 0) fun e2 =>
  match e2 with
  | Sum.inl p2 =>
      let y2 : Int32 := p2
      some y2
  | Sum.inr p2 =>
      some (-1)
def fL_plainly (x1 : Int32) (M : Mm) : Int32 :=
  if x1 = 0 then
    ((900 - (100 * (M 130 9))) + (20 * (M 130 3)))
  else if x1 = 1 then
    (M 130 1)
  else 
    1
def fL_joined (x0 : Int32) (x1 : Int32) (x2 : Int32) : Option Int32 :=
  if x0 = 20001 then
    some (x1 ||| x2)
  else if x0 = 20002 then
    some (x1 &&& x2)
  else if x0 = 20003 then
    if x1 ≤ x2 then
      some 0
    else
      some 1
  else if x0 = 20004 then
    some (x1 + x2)
  else if x0 = 20005 then
    some (x1 - x2)
  else if x0 = 20006 then
    some (x1 * x2)
  else if x0 = 20007 then
    if x2 = 0 then
      some 0
    else
      if ¬ x2 = 0 then
      some (x1 / x2)
      else none
  else if x0 = 20008 then
    if x2 ≤ x1 then
      some 0
    else
      some 1
  else if x0 = 20009 then
    if x1 = x2 then
      some 1
    else
      some 0
  else 
    if x1 ≤ x2 then
      some 0
    else
      some 1
def fL_worked_j101 (z2 : Int32) (z3 : Int32) (z4 : Int32) (z5 : Int32) (M : Mm) : Option (Int32 × Mm) :=
  if z5 < 20000 then
    some (z3, M)
  else
    if z3 < 1 then
      some (z3, M)
    else
      if inb (z3 + (-1)) 32 then
      if inb ((z3 + (-1)) + 1) 32 then
      Option.bind (fL_joined z5 (M 131 (jix (z3 + (-1)))) (M 131 (jix ((z3 + (-1)) + 1)))) fun q9 =>
      if inb (z3 + (-1)) 32 then
      let M10 : Mm := mput M 131 (jix (z3 + (-1))) q9
      some ((z3 + (-1)), M10)
      else none
      else none
      else none
def fL_worked_b5 (x2 : Int32) (x3 : Int32) (x4 : Int32) (M : Mm) : Option ((Int32 × Int32 × Mm) ⊕ (Int32 × Mm)) :=
  if x2 ≤ x4 then
    some (Sum.inr (x3, M))
  else
    if inb x4 400 then
    let v2 : Int32 := (M 129 (jix x4))
    Option.bind (
      if 20000 ≤ v2 then
        if v2 = 20003 then
          if x3 < 0 then
            fL_worked_j101 x2 x3 x4 v2 M
          else
            if inb x3 32 then
            if inb x3 32 then
            let M4 : Mm := mput M 131 (jix x3) (1 - (M 131 (jix x3)))
            some (x3, M4)
            else none
            else none
        else
          fL_worked_j101 x2 x3 x4 v2 M
      else
        if 32 ≤ (x3 + 1) then
          if v2 = 20003 then
            if x3 < 0 then
              fL_worked_j101 x2 x3 x4 v2 M
            else
              if inb x3 32 then
              if inb x3 32 then
              let M13 : Mm := mput M 131 (jix x3) (1 - (M 131 (jix x3)))
              some (x3, M13)
              else none
              else none
          else
            fL_worked_j101 x2 x3 x4 v2 M
        else
          Option.bind (
            if 10000 ≤ v2 then
              if inb (v2 - 10000) 11 then
              some (M 130 (jix (v2 - 10000)))
              else none
            else
              some v2) fun y22 =>
          if inb (x3 + 1) 32 then
          let M23 : Mm := mput M 131 (jix (x3 + 1)) y22
          some ((x3 + 1), M23)
          else none) fun t142 =>
    let y25 : Int32 := t142.1
    let M26 : Mm := t142.2
    some (Sum.inl (y25, (x4 + 1), M26))
    else none
def fL_worked (x1 : Int32) (x2 : Int32) (M : Mm) : Option (Int32 × Mm) :=
  Option.bind (lp 1000000 (fun s => fL_worked_b5 x2 s.1 s.2.1 s.2.2) ((-1), x1, M)) fun e5 =>
  let y27 : Int32 := e5.1
  let M28 : Mm := e5.2
  if y27 < 0 then
    some (0, M28)
  else
    if inb y27 32 then
    some ((M28 131 (jix y27)), M28)
    else none
def fK_held (x0 : Int32) (x1 : Int32) (x2 : Int32) : Int32 :=
  (jmax x1 (jmin x2 x0))
def fL_tells_j92 (z1 : Int32) (z2 : Int32) (z3 : Int32) (M : Mm) : Option ((Int32 × Mm) ⊕ ((Int32 × Mm) ⊕ Mm)) :=
  some (Sum.inl ((z3 + 1), M))
def fL_tells_b8 (x1 : Int32) (x2 : Int32) (x3 : Int32) (M : Mm) : Option ((Int32 × Mm) ⊕ ((Int32 × Mm) ⊕ Mm)) :=
  if (M 124 0) ≤ x3 then
    some (Sum.inr (Sum.inr M))
  else
    if inb x3 16 then
    if inb x3 16 then
    let v4 : Int32 := (if (M 127 (jix x3)) = (M 128 (jix x3)) then 1 else 0)
    if inb x3 16 then
    if (M 125 (jix x3)) = x1 then
      if v4 = 0 then
        if inb x3 16 then
        if inb x3 16 then
        Option.bind (fL_worked (M 127 (jix x3)) (M 128 (jix x3)) M) fun q9 =>
        if q9.1 = 0 then
          fL_tells_j92 x1 x2 x3 q9.2
        else
          some (Sum.inr (Sum.inl (x3, q9.2)))
        else none
        else none
      else
        some (Sum.inr (Sum.inl (x3, M)))
    else
      fL_tells_j92 x1 x2 x3 M
    else none
    else none
    else none
def fL_tells (x1 : Int32) (M : Mm) : Option (Int32 × Mm) :=
  let v1 : Int32 := fL_plainly x1 M
  Option.bind (lp 1000000 (fun s => fL_tells_b8 x1 v1 s.1 s.2) (0, M)) fun e8 =>
  match e8 with
  | Sum.inl p8 =>
      let y10 : Int32 := p8.1
      let M11 : Mm := p8.2
      if inb y10 16 then
      if inb y10 16 then
      Option.bind (fL_worked (M11 126 (jix y10)) (M11 127 (jix y10)) M11) fun q15 =>
      if x1 = 0 then
        let v16 : Int32 := fK_held q15.1 0 1000
        some (v16, q15.2)
      else if x1 = 1 then
        let v17 : Int32 := fK_held q15.1 0 99
        some (v17, q15.2)
      else 
        let v18 : Int32 := fK_held q15.1 0 20
        some (v18, q15.2)
      else none
      else none
  | Sum.inr p8 =>
      let M19 : Mm := p8
      if x1 = 0 then
        let v20 : Int32 := fK_held v1 0 1000
        some (v20, M19)
      else if x1 = 1 then
        let v21 : Int32 := fK_held v1 0 99
        some (v21, M19)
      else 
        let v22 : Int32 := fK_held v1 0 20
        some (v22, M19)
def fW_ask (w : Nat) (x1 : Int32) (x2 : Int32) (M : Mm) : Option (Int32 × Mm) :=
  if inb x2 24 then
  let v2 : Int32 := (M (w + 9) (jix x2))
  if inb x2 24 then
  let M4 : Mm := mput M 130 0 (M (w + 10) (jix x2))
  if inb x2 24 then
  let M6 : Mm := mput M4 130 1 (M4 (w + 11) (jix x2))
  if inb x2 24 then
  let M8 : Mm := mput M6 130 2 (M6 (w + 12) (jix x2))
  if inb v2 12 then
  let M10 : Mm := mput M8 130 3 (M8 (w + 2) (jix v2))
  if inb v2 12 then
  let M12 : Mm := mput M10 130 4 (M10 (w + 3) (jix v2))
  if inb v2 12 then
  let M14 : Mm := mput M12 130 5 (M12 (w + 4) (jix v2))
  let M15 : Mm := mput M14 130 6 (M14 w 5)
  let M16 : Mm := mput M15 130 7 (M15 w 6)
  let M17 : Mm := mput M16 130 8 (M16 w 9)
  let M18 : Mm := mput M17 130 9 (M17 w 10)
  let M19 : Mm := mput M18 130 10 (M18 w 11)
  Option.bind (fL_tells x1 M19) fun q21 =>
  some (q21.1, q21.2)
  else none
  else none
  else none
  else none
  else none
  else none
  else none
def fW_isOpened (w : Nat) (x1 : Int32) (M : Mm) : (Int32 × Mm) :=
  if (M w 13) = 0 then
    let M1 : Mm := mput M w 12 ((1664525 * (M w 12)) + 1013904223)
    if x1 ≤ (jrem (jushr (M1 w 12) 8) 1000) then
      (0, M1)
    else
      (1, M1)
  else
    if x1 < 500 then
      (0, M)
    else
      (1, M)
def fW_take (w : Nat) (x1 : Int32) (x2 : Int32) (M : Mm) : Option (Int32 × Mm) :=
  if inb x1 24 then
  let v2 : Int32 := (M (w + 10) (jix x1))
  if inb x1 24 then
  let v4 : Int32 := (M (w + 9) (jix x1))
  Option.bind (
    if v2 = 1 then
      if inb v4 12 then
      let v6 : Int32 := (jmin x2 (M (w + 4) (jix v4)))
      if inb v4 12 then
      if inb v4 12 then
      let M8 : Mm := mput M (w + 4) (jix v4) ((M (w + 4) (jix v4)) - v6)
      some (v6, M8)
      else none
      else none
      else none
    else
      some (x2, M)) fun t60 =>
  let y10 : Int32 := t60.1
  let M11 : Mm := t60.2
  if inb v2 7 then
  if inb v2 7 then
  let M13 : Mm := mput M11 (w + 13) (jix v2) ((M11 (w + 13) (jix v2)) + y10)
  if inb v4 12 then
  if inb v4 12 then
  let M16 : Mm := mput M13 (w + 5) (jix v4) ((M13 (w + 5) (jix v4)) + 1)
  some (y10, M16)
  else none
  else none
  else none
  else none
  else none
  else none
def fW_feel (w : Nat) (x1 : Int32) (x2 : Int32) (M : Mm) : Option Mm :=
  if inb x1 24 then
  let v2 : Int32 := (M (w + 10) (jix x1))
  if inb x1 24 then
  let v4 : Int32 := (M (w + 9) (jix x1))
  if inb v4 12 then
  if inb v2 7 then
  let v7 : Int32 := fK_held ((M (w + 2) (jix v4)) + (fC0 (jix v2))) (-9) 9
  if inb v4 12 then
  let M8 : Mm := mput M (w + 2) (jix v4) v7
  Option.bind (
    if v2 = 3 then
      let M10 : Mm := mput M8 w 5 (jmax 0 ((M8 w 5) - x2))
      some M10
    else
      some M8) fun M11 =>
  Option.bind (
    if v2 = 4 then
      let M12 : Mm := mput M11 w 6 (jmax 0 ((M11 w 6) - x2))
      some M12
    else
      some M11) fun M13 =>
  if v2 = 0 then
    if inb x1 24 then
    if (M13 (w + 11) (jix x1)) < 50 then
      some M13
    else
      let M15 : Mm := mput M13 w 7 ((M13 w 7) + 1)
      let M16 : Mm := mput M15 w 5 (jmin 99 ((M15 w 5) + 5))
      some M16
    else none
  else
    some M13
  else none
  else none
  else none
  else none
  else none
def fB_remove (w : Nat) (x1 : Int32) (M : Mm) : Option Mm :=
  let v1 : Int32 := (((M w 0) - x1) - 1)
  if x1 < 0 then
    some M
  else
    if 0 ≤ v1 then
      if ¬ (x1 + 1) < 0 ∧ ¬ x1 < 0 ∧ ¬ v1 < 0 ∧ jix (x1 + 1) + jix v1 ≤ 24 ∧ jix x1 + jix v1 ≤ 24 then
      let M2 : Mm := mcp M (w + 1) (w + 1) (jix (x1 + 1)) (jix x1) (jix v1)
      if ¬ (x1 + 1) < 0 ∧ ¬ x1 < 0 ∧ ¬ v1 < 0 ∧ jix (x1 + 1) + jix v1 ≤ 24 ∧ jix x1 + jix v1 ≤ 24 then
      let M4 : Mm := mcp M2 (w + 2) (w + 2) (jix (x1 + 1)) (jix x1) (jix v1)
      if ¬ (x1 + 1) < 0 ∧ ¬ x1 < 0 ∧ ¬ v1 < 0 ∧ jix (x1 + 1) + jix v1 ≤ 24 ∧ jix x1 + jix v1 ≤ 24 then
      let M6 : Mm := mcp M4 (w + 3) (w + 3) (jix (x1 + 1)) (jix x1) (jix v1)
      if ¬ (x1 + 1) < 0 ∧ ¬ x1 < 0 ∧ ¬ v1 < 0 ∧ jix (x1 + 1) + jix v1 ≤ 24 ∧ jix x1 + jix v1 ≤ 24 then
      let M8 : Mm := mcp M6 (w + 4) (w + 4) (jix (x1 + 1)) (jix x1) (jix v1)
      if ¬ (x1 + 1) < 0 ∧ ¬ x1 < 0 ∧ ¬ v1 < 0 ∧ jix (x1 + 1) + jix v1 ≤ 24 ∧ jix x1 + jix v1 ≤ 24 then
      let M10 : Mm := mcp M8 (w + 5) (w + 5) (jix (x1 + 1)) (jix x1) (jix v1)
      let M12 : Mm := mput M10 w 0 ((M10 w 0) - 1)
      some M12
      else none
      else none
      else none
      else none
      else none
    else
      some M
def fW_bringAt (w : Nat) (x1 : Int32) (M : Mm) : Option (Int32 × Mm) :=
  Option.bind (fW_ask w 0 x1 M) fun q2 =>
  let q3 : Int32 × Mm := fW_isOpened w q2.1 q2.2
  Option.bind (
    if q3.1 = 0 then
      some ((-1), q3.2)
    else
      Option.bind (fW_ask w 1 x1 q3.2) fun q5 =>
      Option.bind (fW_take w x1 q5.1 q5.2) fun q7 =>
      Option.bind (fW_feel w x1 q7.1 q7.2) fun M9 =>
      some (q7.1, M9)) fun t40 =>
  let y10 : Int32 := t40.1
  let M11 : Mm := t40.2
  Option.bind (fW_ask w 2 x1 M11) fun q13 =>
  let M14 : Mm := mput q13.2 w 9 (jmin 99 ((M11 w 9) + q13.1))
  if inb x1 24 then
  Option.bind (
    if q3.1 = 0 then
      if inb x1 24 then
      some (M14 (w + 9) (jix x1))
      else none
    else
      some y10) fun y17 =>
  Option.bind (fW_write w (if q3.1 = 0 then 2 else 1) (M14 (w + 8) (jix x1)) y17 M14) fun M19 =>
  if q3.1 = 0 then
    some (y10, M19)
  else
    Option.bind (fB_remove (w + 7) x1 M19) fun M21 =>
    some (y10, M21)
  else none
def fK_bring (x1 : Int32) (M : Mm) : Option (Int32 × Mm) :=
  Option.bind (fB_placeOf 8 x1 M) fun q2 =>
  if q2 = (-1) then
    some ((-2), M)
  else
    if (M 1 5) = 0 then
      some ((-2), M)
    else
      Option.bind (fP_keep M) fun M4 =>
      Option.bind (fW_bringAt 1 q2 M4) fun q6 =>
      some (q6.1, q6.2)
def fK_rain (x1 : Int32) (M : Mm) : Option (Int32 × Mm) :=
  let v1 : Int32 := fK_isWithin x1 0 9
  if v1 = 0 then
    some (0, M)
  else
    Option.bind (fP_keep M) fun M3 =>
    let M4 : Mm := mput M3 1 10 x1
    some (1, M4)
def fW_takePost_b2 (w : Nat) (x2 : Int32) (M : Mm) : Option ((Int32 × Mm) ⊕ Mm) :=
  if (M 123 1) ≤ x2 then
    some (Sum.inr M)
  else
    if inb x2 16 then
    Option.bind (
      if (M 132 (jix x2)) = (M w 11) then
        if inb x2 16 then
        if inb x2 16 then
        if inb x2 16 then
        Option.bind (fW_arrive w (M 133 (jix x2)) (M 134 (jix x2)) (M 135 (jix x2)) M) fun q6 =>
        some q6.2
        else none
        else none
        else none
      else
        some M) fun M7 =>
    some (Sum.inl ((x2 + 1), M7))
    else none
def fW_takePost (w : Nat) (M : Mm) : Option Mm :=
  Option.bind (lp 1000000 (fun s => fW_takePost_b2 w s.1 s.2) (0, M)) fun e2 =>
  let M8 : Mm := e2
  some M8
def fD_beginRound (w : Nat) (M : Mm) : Mm :=
  let M1 : Mm := mcp M (w + 4) (w + 5) 0 0 12
  M1
def fW_visit_b14 (w : Nat) (x1 : Int32) (x3 : Int32) (x4 : Int32) (x5 : Int32) (M : Mm) : Option ((Int32 × Int32 × Int32 × Mm) ⊕ (Int32 × Mm)) :=
  if x5 ≤ 0 then
    some (Sum.inr (x3, M))
  else
    if inb x4 24 then
    let v3 : Int32 := (if (M (w + 9) (jix x4)) = x1 then (if 24 ≤ (M w 9) then 0 else (if (M w 5) ≤ 0 then 0 else 1)) else 0)
    Option.bind (
      if v3 = 0 then
        some (x3, (x4 + 1), M)
      else
        Option.bind (fW_bringAt w x4 M) fun q5 =>
        if q5.1 = (-1) then
          some (x3, (x4 + 1), q5.2)
        else
          some ((x3 + 1), x4, q5.2)) fun t81 =>
    let y6 : Int32 := t81.1
    let y7 : Int32 := t81.2.1
    let M8 : Mm := t81.2.2
    some (Sum.inl (y6, y7, (x5 + (-1)), M8))
    else none
def fW_visit (w : Nat) (x1 : Int32) (M : Mm) : Option (Int32 × Mm) :=
  let v1 : Int32 := (M (w + 7) 0)
  Option.bind (lp 1000000 (fun s => fW_visit_b14 w x1 s.1 s.2.1 s.2.2.1 s.2.2.2) (0, 0, v1, M)) fun e14 =>
  let y9 : Int32 := e14.1
  let M10 : Mm := e14.2
  some (y9, M10)
def fW_ageLetters_b10 (w : Nat) (x1 : Int32) (x2 : Int32) (M : Mm) : Option ((Int32 × Int32 × Mm) ⊕ Mm) :=
  if x2 ≤ 0 then
    some (Sum.inr M)
  else
    if inb x1 24 then
    if inb x1 24 then
    let M3 : Mm := mput M (w + 12) (jix x1) ((M (w + 12) (jix x1)) + 1)
    if inb x1 24 then
    Option.bind (
      if 9 ≤ (M3 (w + 12) (jix x1)) then
        let M6 : Mm := mput M3 w 8 ((M3 w 8) + 1)
        if inb x1 24 then
        if inb x1 24 then
        Option.bind (fW_write w 3 (M6 (w + 8) (jix x1)) (M6 (w + 9) (jix x1)) M6) fun M10 =>
        Option.bind (fB_remove (w + 7) x1 M10) fun M12 =>
        some (x1, M12)
        else none
        else none
      else
        some ((x1 + 1), M3)) fun t88 =>
    let y13 : Int32 := t88.1
    let M14 : Mm := t88.2
    some (Sum.inl (y13, (x2 + (-1)), M14))
    else none
    else none
    else none
def fW_ageLetters (w : Nat) (M : Mm) : Option Mm :=
  let v1 : Int32 := (M (w + 7) 0)
  Option.bind (lp 1000000 (fun s => fW_ageLetters_b10 w s.1 s.2.1 s.2.2) (0, v1, M)) fun e10 =>
  let M15 : Mm := e10
  some M15
def fD_calmTheUnvisited_b2 (w : Nat) (x1 : Int32) (M : Mm) : Option ((Int32 × Mm) ⊕ Mm) :=
  if (M w 0) ≤ x1 then
    some (Sum.inr M)
  else
    if inb x1 12 then
    if inb x1 12 then
    Option.bind (
      if (M (w + 4) (jix x1)) = (M (w + 5) (jix x1)) then
        if inb x1 12 then
        if inb x1 12 then
        Option.bind (
          if (M (w + 1) (jix x1)) ≤ 0 then
            if inb x1 12 then
            if 0 ≤ (M (w + 1) (jix x1)) then
              some 0
            else
              some 1
            else none
          else
            some (-1)) fun y6 =>
        if inb x1 12 then
        let M7 : Mm := mput M (w + 1) (jix x1) ((M (w + 1) (jix x1)) + y6)
        some M7
        else none
        else none
        else none
      else
        some M) fun M9 =>
    some (Sum.inl ((x1 + 1), M9))
    else none
    else none
def fD_calmTheUnvisited (w : Nat) (M : Mm) : Option Mm :=
  Option.bind (lp 1000000 (fun s => fD_calmTheUnvisited_b2 w s.1 s.2) (0, M)) fun e2 =>
  let M10 : Mm := e2
  some M10
def fW_passDay_b21 (w : Nat) (x2 : Int32) (x3 : Int32) (M : Mm) : Option ((Int32 × Int32 × Mm) ⊕ (Int32 × Mm)) :=
  if (M 123 6) ≤ x3 then
    some (Sum.inr (x2, M))
  else
    if inb x3 16 then
    Option.bind (fW_visit w (M 136 (jix x3)) M) fun q7 =>
    let v8 : Int32 := (x2 + q7.1)
    some (Sum.inl (v8, (x3 + 1), q7.2))
    else none
def fW_passDay (w : Nat) (M : Mm) : Option (Int32 × Mm) :=
  let M1 : Mm := mput M w 9 0
  Option.bind (fW_takePost w M1) fun M3 =>
  let M4 : Mm := fD_beginRound (w + 1) M3
  Option.bind (lp 1000000 (fun s => fW_passDay_b21 w s.1 s.2.1 s.2.2) (0, 0, M4)) fun e21 =>
  let y9 : Int32 := e21.1
  let M10 : Mm := e21.2
  Option.bind (fW_ageLetters w M10) fun M12 =>
  let M13 : Mm := mput M12 w 6 (jmin 99 ((M12 w 6) + 5))
  let v14 : Int32 := fK_held (if (M13 w 6) ≤ 50 then ((M13 w 5) + 3) else ((M13 w 5) - 5)) 0 99
  let M15 : Mm := mput M13 w 5 v14
  Option.bind (fD_calmTheUnvisited (w + 1) M15) fun M17 =>
  let M18 : Mm := mput M17 w 11 ((M17 w 11) + 1)
  some (y9, M18)
def fK_days_b31 (x1 : Int32) (x2 : Int32) (x3 : Int32) (M : Mm) : Option ((Int32 × Int32 × Mm) ⊕ (Int32 × Mm)) :=
  if x1 ≤ x3 then
    some (Sum.inr (x2, M))
  else
    Option.bind (fP_keep M) fun M3 =>
    Option.bind (fW_passDay 1 M3) fun q5 =>
    let v6 : Int32 := (x2 + q5.1)
    some (Sum.inl (v6, (x3 + 1), q5.2))
def fK_days (x1 : Int32) (M : Mm) : Option (Int32 × Mm) :=
  let v1 : Int32 := fK_isWithin x1 1 60
  if v1 = 0 then
    some ((-1), M)
  else
    if ((M 1 11) + x1) ≤ 9999 then
      Option.bind (lp 1000000 (fun s => fK_days_b31 x1 s.1 s.2.1 s.2.2) (0, 0, M)) fun e31 =>
      let y7 : Int32 := e31.1
      let M8 : Mm := e31.2
      some (y7, M8)
    else
      some ((-1), M)
def fK_feedOne_b3 (x1 : Int32) (x2 : Int32) (M : Mm) : Option ((Int32 × Mm) ⊕ Mm) :=
  if x2 < 0 then
    some (Sum.inr M)
  else
    if 400 ≤ (M 0 10) then
      some (Sum.inr M)
    else
      if inb (M 0 10) 400 then
      let M1 : Mm := mput M 178 (jix (M 0 10)) (jbyte (jbyte (jushr x1 x2)))
      let M3 : Mm := mput M1 0 10 ((M1 0 10) + 1)
      some (Sum.inl ((x2 + (-8)), M3))
      else none
def fK_feedOne (x1 : Int32) (M : Mm) : Option Mm :=
  Option.bind (lp 1000000 (fun s => fK_feedOne_b3 x1 s.1 s.2) (24, M)) fun e3 =>
  let M4 : Mm := e3
  some M4
def fK_feed (x1 : Int32) (x2 : Int32) (x3 : Int32) (x4 : Int32) (x5 : Int32) (M : Mm) : Option (Int32 × Mm) :=
  if ((M 0 10) + 20) ≤ 400 then
    Option.bind (fK_feedOne x1 M) fun M2 =>
    Option.bind (fK_feedOne x2 M2) fun M4 =>
    Option.bind (fK_feedOne x3 M4) fun M6 =>
    Option.bind (fK_feedOne x4 M6) fun M8 =>
    Option.bind (fK_feedOne x5 M8) fun M10 =>
    some ((M10 0 10), M10)
  else
    some ((-1), M)
def fK_end (x1 : Int32) (M : Mm) : (Int32 × Mm) :=
  let v1 : Int32 := fK_isWithin x1 0 (M 0 10)
  if v1 = 0 then
    (0, M)
  else
    let M2 : Mm := mput M 0 10 x1
    (1, M2)
def fR_forgive (M : Mm) : Mm :=
  let M1 : Mm := mput M 146 1 0
  let M2 : Mm := mput M1 146 2 (-1)
  M2
def fJ_isLatin1_aae02_3 : Int32 :=
  1
def fJ_coder_7d493_3 : Int32 :=
  0
def fJ_length_8abf5_3 : Int32 :=
  ((10 : Int32) >>> ((0 : Int32) &&& 31))
def fJ_canEncode_9a6ad (x0 : Int32) : Int32 :=
  if x0 < 0 then
    0
  else
    if 255 < x0 then
      0
    else
      1
def fJ_indexOfChar_4cfef_3_b7 (x3 : Int32) (x4 : Int32) (M : Mm) (x5 : Int32) : Option (Int32 ⊕ (Int32 ⊕ Unit)) :=
  if x3 ≤ x5 then
    some (Sum.inr (Sum.inr ()))
  else
    if inb x5 10 then
    if (fC4 (jix x5)) = x4 then
      some (Sum.inr (Sum.inl x5))
    else
      some (Sum.inl (x5 + 1))
    else none
def fJ_indexOfChar_4cfef_3 (x1 : Int32) (x2 : Int32) (x3 : Int32) (M : Mm) : Option Int32 :=
  let v1 : Int32 := (jbyte x1)
  Option.bind (lp 1000000 (fun s => fJ_indexOfChar_4cfef_3_b7 x3 v1 M s) x2) fun e7 =>
  match e7 with
  | Sum.inl p7 =>
      let y3 : Int32 := p7
      some y3
  | Sum.inr p7 =>
      some (-1)
def fJ_indexOf_4cfef_3 (x1 : Int32) (x2 : Int32) (x3 : Int32) (M : Mm) : Option Int32 :=
  let v1 : Int32 := fJ_canEncode_9a6ad x1
  if v1 = 0 then
    some (-1)
  else
    let v2 : Int32 := (jmax x2 0)
    let v3 : Int32 := (jmin x3 10)
    if v2 < v3 then
      Option.bind (fJ_indexOfChar_4cfef_3 x1 v2 v3 M) fun q5 =>
      some q5
    else
      some (-1)
def fJ_indexOf_7cf53_3 (x1 : Int32) (x2 : Int32) (M : Mm) : Option Int32 :=
  let v1 : Int32 := fJ_length_8abf5_3
  Option.bind (fJ_indexOf_4cfef_3 x1 x2 v1 M) fun q3 =>
  some q3
def fJ_indexOf_0f7a4_3 (x1 : Int32) (M : Mm) : Option Int32 :=
  Option.bind (fJ_indexOf_7cf53_3 x1 0 M) fun q2 =>
  some q2
def fO_sortOf (x0 : Int32) (M : Mm) : Option Int32 :=
  if x0 = 32 then
    some 3
  else
    if x0 = 10 then
      some 3
    else
      let v1 : Int32 := fK_isWithin x0 48 57
      if v1 = 0 then
        let v2 : Int32 := fK_isWithin x0 97 122
        if v2 = 0 then
          let v3 : Int32 := fK_isWithin x0 65 90
          if v3 = 0 then
            if x0 ≤ 0 then
              some 0
            else
              Option.bind (fJ_indexOf_0f7a4_3 (jchar x0) M) fun q5 =>
              if q5 < 0 then
                some 0
              else
                some x0
          else
            some 4
        else
          some 4
      else
        some 1
def fO_add (x1 : Int32) (x2 : Int32) (x3 : Int32) (M : Mm) : Option Mm :=
  if 400 < (M 162 0) then
    some M
  else
    if inb (M 162 0) 401 then
    let M1 : Mm := mput M 163 (jix (M 162 0)) x1
    if inb (M1 162 0) 401 then
    let M3 : Mm := mput M1 164 (jix (M1 162 0)) 0
    if inb (M3 162 0) 401 then
    let M5 : Mm := mput M3 165 (jix (M3 162 0)) x2
    if inb (M5 162 0) 401 then
    let M7 : Mm := mput M5 166 (jix (M5 162 0)) x3
    let M9 : Mm := mput M7 162 0 ((M7 162 0) + 1)
    some M9
    else none
    else none
    else none
    else none
def fJ_coder_7d493_5 : Int32 :=
  0
def fJ_length_8abf5_5 : Int32 :=
  ((152 : Int32) >>> ((0 : Int32) &&& 31))
def fJ_isLatin1_aae02_5 : Int32 :=
  1
def fJ_checkIndex_8e157_j9 (z0 : Int32) (z1 : Int32) : Option Int32 :=
  none
def fJ_checkIndex_8e157 (x0 : Int32) (x1 : Int32) : Option Int32 :=
  if x0 < 0 then
    fJ_checkIndex_8e157_j9 x0 x1
  else
    if x0 < x1 then
      some x0
    else
      fJ_checkIndex_8e157_j9 x0 x1
def fJ_checkIndex_df160 (x0 : Int32) (x1 : Int32) : Option Unit :=
  Option.bind (fJ_checkIndex_8e157 x0 x1) fun q2 =>
  some ()
def fJ_charAt_3b067_5 (x1 : Int32) (M : Mm) : Option Int32 :=
  Option.bind (fJ_checkIndex_df160 x1 152) fun u2 =>
  if inb x1 152 then
  if narrow .char (Value.int (jchar ((fC6 (jix x1)) &&& 255))) = Value.int (jchar ((fC6 (jix x1)) &&& 255)) then
  some (jchar ((fC6 (jix x1)) &&& 255))
  else none
  else none
def fJ_charAt_5068e_5 (x1 : Int32) (M : Mm) : Option Int32 :=
  Option.bind (fJ_charAt_3b067_5 x1 M) fun q2 =>
  if narrow .char (Value.int q2) = Value.int q2 then
  some q2
  else none
def fO_isWordAt_b3 (x0 : Int32) (x2 : Int32) (x3 : Int32) (M : Mm) (x4 : Int32) : Option (Int32 ⊕ (Unit ⊕ Unit)) :=
  if x3 ≤ x4 then
    some (Sum.inr (Sum.inr ()))
  else
    Option.bind (fJ_charAt_5068e_5 ((x0 + x4) - x2) M) fun q2 =>
    if inb x4 400 then
    if q2 = (M 178 (jix x4)) then
      some (Sum.inl (x4 + 1))
    else
      some (Sum.inr (Sum.inl ()))
    else none
def fO_isWordAt (x0 : Int32) (x2 : Int32) (x3 : Int32) (M : Mm) : Option Int32 :=
  Option.bind (lp 1000000 (fun s => fO_isWordAt_b3 x0 x2 x3 M s) x2) fun e3 =>
  match e3 with
  | Sum.inl p3 =>
      some 0
  | Sum.inr p3 =>
      some 1
def fO_wordOf_j65 (z1 : Int32) (z2 : Int32) (z3 : Int32) (z4 : Int32) (z5 : Int32) (M : Mm) : Option ((Int32 × Int32 × Int32) ⊕ (Int32 ⊕ Unit)) :=
  some (Sum.inl (z3, z4, (z5 + 1)))
def fO_wordOf_j56 (z1 : Int32) (z2 : Int32) (z3 : Int32) (z5 : Int32) (M : Mm) : Option ((Int32 × Int32 × Int32) ⊕ (Int32 ⊕ Unit)) :=
  let v6 : Int32 := (z5 + 1)
  fO_wordOf_j65 z1 z2 (z3 + 1) v6 z5 M
def fO_wordOf_b10 (x1 : Int32) (x2 : Int32) (M : Mm) (x3 : Int32) (x4 : Int32) (x5 : Int32) : Option ((Int32 × Int32 × Int32) ⊕ (Int32 ⊕ Unit)) :=
  let v1 : Int32 := fJ_length_8abf5_5
  if v1 ≤ x5 then
    some (Sum.inr (Sum.inr ()))
  else
    Option.bind (fJ_charAt_5068e_5 x5 M) fun q3 =>
    if q3 = 32 then
      if (x5 - x4) = (x2 - x1) then
        Option.bind (fO_isWordAt x4 x1 x2 M) fun q5 =>
        if q5 = 0 then
          fO_wordOf_j56 x1 x2 x3 x5 M
        else
          some (Sum.inr (Sum.inl x3))
      else
        fO_wordOf_j56 x1 x2 x3 x5 M
    else
      fO_wordOf_j65 x1 x2 x3 x4 x5 M
def fO_wordOf (x1 : Int32) (x2 : Int32) (M : Mm) : Option Int32 :=
  Option.bind (lp 1000000 (fun s => fO_wordOf_b10 x1 x2 M s.1 s.2.1 s.2.2) (256, 0, 0)) fun e10 =>
  match e10 with
  | Sum.inl p10 =>
      let y7 : Int32 := p10
      some y7
  | Sum.inr p10 =>
      some 0
def fO_weigh_b89 (x1 : Int32) (x3 : Int32) (M : Mm) : Option ((Int32 × Mm) ⊕ Mm) :=
  if inb x1 401 then
  if (M 166 (jix x1)) ≤ x3 then
    some (Sum.inr M)
  else
    if inb x1 401 then
    if inb x3 400 then
    if inb x1 401 then
    let M13 : Mm := mput M 164 (jix x1) (((10 * (M 164 (jix x1))) + (M 178 (jix x3))) - 48)
    some (Sum.inl ((x3 + 1), M13))
    else none
    else none
    else none
  else none
def fO_weigh_j72 (z1 : Int32) (M : Mm) : Option Mm :=
  if inb z1 401 then
  if (M 163 (jix z1)) = 1 then
    if inb z1 401 then
    let v9 : Int32 := (M 165 (jix z1))
    Option.bind (lp 1000000 (fun s => fO_weigh_b89 z1 s.1 s.2) (v9, M)) fun e89 =>
    let M15 : Mm := e89
    some M15
    else none
  else
    some M
  else none
def fO_weigh (x1 : Int32) (M : Mm) : Option Mm :=
  if inb x1 401 then
  if (M 163 (jix x1)) = 4 then
    if inb x1 401 then
    if inb x1 401 then
    Option.bind (fO_wordOf (M 165 (jix x1)) (M 166 (jix x1)) M) fun q19 =>
    if inb x1 401 then
    let M20 : Mm := mput M 163 (jix x1) q19
    some M20
    else none
    else none
    else none
  else
    if inb x1 401 then
    if (M 163 (jix x1)) = 1 then
      if inb x1 401 then
      if inb x1 401 then
      if ((M 166 (jix x1)) - (M 165 (jix x1))) ≤ 4 then
        fO_weigh_j72 x1 M
      else
        if inb x1 401 then
        let M5 : Mm := mput M 163 (jix x1) 0
        some M5
        else none
      else none
      else none
    else
      fO_weigh_j72 x1 M
    else none
  else none
def fO_scan_b10 (x2 : Int32) (x3 : Int32) (x4 : Int32) (M : Mm) : Option ((Int32 × Int32 × Mm) ⊕ Mm) :=
  if x2 ≤ x4 then
    some (Sum.inr M)
  else
    if 400 ≤ x4 then
      some (Sum.inr M)
    else
      if inb x4 400 then
      Option.bind (fO_sortOf (M 178 (jix x4)) M) fun q4 =>
      let v5 : Int32 := (if q4 = x3 then (if q4 = 4 then 1 else (if q4 = 1 then 1 else 0)) else 0)
      Option.bind (
        if v5 = 0 then
          if q4 = 3 then
            some M
          else
            Option.bind (fO_add q4 x4 (x4 + 1) M) fun M7 =>
            some M7
        else
          if (M 162 0) ≤ 0 then
            if q4 = 3 then
              some M
            else
              Option.bind (fO_add q4 x4 (x4 + 1) M) fun M9 =>
              some M9
          else
            if inb ((M 162 0) - 1) 401 then
            let M10 : Mm := mput M 166 (jix ((M 162 0) - 1)) (x4 + 1)
            some M10
            else none) fun M12 =>
      some (Sum.inl (q4, (x4 + 1), M12))
      else none
def fO_scan_b124 (x4 : Int32) (M : Mm) : Option ((Int32 × Mm) ⊕ Mm) :=
  if (M 162 0) ≤ x4 then
    some (Sum.inr M)
  else
    Option.bind (fO_weigh x4 M) fun M17 =>
    some (Sum.inl ((x4 + 1), M17))
def fO_scan (x2 : Int32) (M : Mm) : Option Mm :=
  let M1 : Mm := mput M 162 0 0
  Option.bind (lp 1000000 (fun s => fO_scan_b10 x2 s.1 s.2.1 s.2.2) (3, 0, M1)) fun e10 =>
  let M13 : Mm := e10
  Option.bind (fO_add 2 x2 x2 M13) fun M15 =>
  Option.bind (lp 1000000 (fun s => fO_scan_b124 s.1 s.2) (0, M15)) fun e124 =>
  let M18 : Mm := e124
  some M18
def fL_clear (M : Mm) : Mm :=
  let M1 : Mm := mput M 148 0 0
  let M2 : Mm := mput M1 148 1 0
  M2
def fJ_fill_53178_b5 (a : Nat) (na : Nat) (x1 : Int32) (x3 : Int32) (x2 : Int32) (M : Mm) : Option ((Int32 × Mm) ⊕ Mm) :=
  if x3 ≤ x2 then
    some (Sum.inr M)
  else
    if inb x2 na then
    let M2 : Mm := mput M a (jix x2) x1
    some (Sum.inl ((x2 + 1), M2))
    else none
def fJ_fill_53178 (a : Nat) (na : Nat) (x1 : Int32) (M : Mm) : Option Mm :=
  let v1 : Int32 := (nI na)
  Option.bind (lp 1000000 (fun s => fJ_fill_53178_b5 a na x1 v1 s.1 s.2) (0, M)) fun e5 =>
  let M4 : Mm := e5
  some M4
def fT_clearOne (x1 : Int32) (M : Mm) : Option Mm :=
  if x1 = 0 then
    let M1 : Mm := fL_clear M
    some M1
  else if x1 = 1 then
    let M2 : Mm := mput M 147 1 0
    some M2
  else if x1 = 2 then
    let M3 : Mm := mput M 147 6 0
    some M3
  else 
    let M4 : Mm := mput M 147 8 0
    Option.bind (fJ_fill_53178 161 144 0 M4) fun M6 =>
    some M6
def fR_sort (M : Mm) : Option Int32 :=
  if (M 146 1) = 0 then
    if (M 162 0) ≤ (M 146 4) then
      some 2
    else
      if inb (M 146 4) 401 then
      some (M 163 (jix (M 146 4)))
      else none
  else
    some 0
def fR_isFirstWord (x0 : Int32) (x1 : Int32) : Option Int32 :=
  if x0 = 0 then
    let v1 : Int32 := fK_isWithin x1 256 258
    if v1 = 0 ∨ v1 = 1 then
    some v1
    else none
  else if x0 = 1 then
    if x1 = 274 then
      some 1
    else
      some 0
  else if x0 = 2 then
    if x1 = 283 then
      some 1
    else
      some 0
  else 
    if x1 = 284 then
      some 1
    else
      some 0
def fR_blame (x1 : Int32) (M : Mm) : Option Mm :=
  if (M 146 1) = 0 then
    let M1 : Mm := mput M 146 1 x1
    Option.bind (
      if (M1 162 0) ≤ (M1 146 4) then
        some (-1)
      else
        if inb (M1 146 4) 401 then
        some (M1 165 (jix (M1 146 4)))
        else none) fun y3 =>
    let M4 : Mm := mput M1 146 2 y3
    some M4
  else
    some M
def fR_begins (x1 : Int32) (x2 : Int32) (M : Mm) : Option (Int32 × Mm) :=
  Option.bind (fR_sort M) fun q2 =>
  Option.bind (fR_isFirstWord x1 q2) fun q4 =>
  Option.bind (
    if q4 = 0 then
      Option.bind (fR_blame 1 M) fun M8 =>
      some M8
    else
      if x2 < 16 then
        some M
      else
        Option.bind (fR_blame 3 M) fun M6 =>
        some M6) fun M9 =>
  if (M9 146 1) = 0 then
    some (1, M9)
  else
    some (0, M9)
def fL_addStep (x1 : Int32) (M : Mm) : Option Mm :=
  if 400 ≤ (M 148 1) then
    some M
  else
    if inb (M 148 1) 400 then
    let M1 : Mm := mput M 153 (jix (M 148 1)) x1
    let M3 : Mm := mput M1 148 1 ((M1 148 1) + 1)
    some M3
    else none
def fR_operand (M : Mm) : Option Mm :=
  Option.bind (fR_sort M) fun q2 =>
  if q2 = 1 then
    if inb (M 146 4) 401 then
    Option.bind (fL_addStep (M 164 (jix (M 146 4))) M) fun M11 =>
    let M12 : Mm := mput M11 146 4 ((M11 146 4) + 1)
    some M12
    else none
  else
    let v3 : Int32 := fK_isWithin q2 263 273
    if v3 = 0 then
      Option.bind (fR_blame 1 M) fun M5 =>
      some M5
    else
      Option.bind (fL_addStep ((10000 + q2) - 263) M) fun M7 =>
      let M8 : Mm := mput M7 146 4 ((M7 146 4) + 1)
      some M8
def fR_number (x1 : Int32) (x2 : Int32) (M : Mm) : Option (Int32 × Mm) :=
  Option.bind (fR_sort M) fun q2 =>
  if q2 = 1 then
    if inb (M 146 4) 401 then
    let v4 : Int32 := (M 164 (jix (M 146 4)))
    let v5 : Int32 := fK_isWithin v4 x1 x2
    if v5 = 0 then
      Option.bind (fR_blame 2 M) fun M8 =>
      some (0, M8)
    else
      let M6 : Mm := mput M 146 4 ((M 146 4) + 1)
      some (v4, M6)
    else none
  else
    Option.bind (fR_blame 1 M) fun M10 =>
    some (0, M10)
def fR_product_j31 (z1 : Int32) (M : Mm) : Option ((Int32 × Mm) ⊕ Mm) :=
  Option.bind (fR_sort M) fun q8 =>
  let v9 : Int32 := (if q8 = 47 then 1 else 0)
  let M10 : Mm := mput M 146 4 ((M 146 4) + 1)
  Option.bind (
    if v9 = 0 then
      Option.bind (fR_operand M10) fun M12 =>
      some M12
    else
      Option.bind (fR_number 1 9999 M10) fun q14 =>
      Option.bind (fL_addStep q14.1 q14.2) fun M16 =>
      some M16) fun M17 =>
  Option.bind (fL_addStep (if v9 = 0 then 20006 else 20007) M17) fun M19 =>
  some (Sum.inl ((z1 + 1), M19))
def fR_product_b6 (x1 : Int32) (M : Mm) : Option ((Int32 × Mm) ⊕ Mm) :=
  if 400 ≤ x1 then
    some (Sum.inr M)
  else
    Option.bind (fR_sort M) fun q4 =>
    if q4 = 42 then
      fR_product_j31 x1 M
    else
      Option.bind (fR_sort M) fun q6 =>
      if q6 = 47 then
        fR_product_j31 x1 M
      else
        some (Sum.inr M)
def fR_product (M : Mm) : Option Mm :=
  Option.bind (fR_operand M) fun M2 =>
  Option.bind (lp 1000000 (fun s => fR_product_b6 s.1 s.2) (0, M2)) fun e6 =>
  let M20 : Mm := e6
  some M20
def fR_sum_j31 (z1 : Int32) (M : Mm) : Option ((Int32 × Mm) ⊕ Mm) :=
  Option.bind (fR_sort M) fun q8 =>
  let v9 : Int32 := (if q8 = 43 then 20004 else 20005)
  let M10 : Mm := mput M 146 4 ((M 146 4) + 1)
  Option.bind (fR_product M10) fun M12 =>
  Option.bind (fL_addStep v9 M12) fun M14 =>
  some (Sum.inl ((z1 + 1), M14))
def fR_sum_b6 (x1 : Int32) (M : Mm) : Option ((Int32 × Mm) ⊕ Mm) :=
  if 400 ≤ x1 then
    some (Sum.inr M)
  else
    Option.bind (fR_sort M) fun q4 =>
    if q4 = 43 then
      fR_sum_j31 x1 M
    else
      Option.bind (fR_sort M) fun q6 =>
      if q6 = 45 then
        fR_sum_j31 x1 M
      else
        some (Sum.inr M)
def fR_sum (M : Mm) : Option Mm :=
  Option.bind (fR_product M) fun M2 =>
  Option.bind (lp 1000000 (fun s => fR_sum_b6 s.1 s.2) (0, M2)) fun e6 =>
  let M15 : Mm := e6
  some M15
def fR_relation_j32 (z1 : Int32) (M : Mm) : Option (Int32 × Mm) :=
  let M5 : Mm := mput M 146 4 ((M 146 4) + 1)
  if z1 = 61 then
    some (20009, M5)
  else
    if z1 = 60 then
      some (20008, M5)
    else
      some (20010, M5)
def fR_relation (M : Mm) : Option (Int32 × Mm) :=
  Option.bind (fR_sort M) fun q2 =>
  if q2 = 60 then
    fR_relation_j32 q2 M
  else
    if q2 = 61 then
      fR_relation_j32 q2 M
    else
      if q2 = 62 then
        fR_relation_j32 q2 M
      else
        Option.bind (fR_blame 1 M) fun M4 =>
        some (20009, M4)
def fR_settle_b7 (x1 : Int32) (x2 : Int32) (M : Mm) : Option ((Int32 × Mm) ⊕ Mm) :=
  if x2 < 0 then
    some (Sum.inr M)
  else
    if inb x2 32 then
    if (M 167 (jix x2)) < x1 then
      some (Sum.inr M)
    else
      if inb x2 32 then
      Option.bind (fL_addStep (M 167 (jix x2)) M) fun M5 =>
      if inb x2 32 then
      Option.bind (
        if (M5 167 (jix x2)) = 20003 then
          let M7 : Mm := mput M5 146 8 ((M5 146 8) - 1)
          some M7
        else
          some M5) fun M8 =>
      let M9 : Mm := mput M8 146 7 x2
      some (Sum.inl ((x2 + (-1)), M9))
      else none
      else none
    else none
def fR_settle (x1 : Int32) (M : Mm) : Option Mm :=
  let v1 : Int32 := ((M 146 7) - 1)
  Option.bind (lp 1000000 (fun s => fR_settle_b7 x1 s.1 s.2) (v1, M)) fun e7 =>
  let M10 : Mm := e7
  some M10
def fR_closeAll_b2 (x1 : Int32) (M : Mm) : Option ((Int32 × Mm) ⊕ (Mm ⊕ Mm)) :=
  if 8 ≤ x1 then
    some (Sum.inr (Sum.inr M))
  else
    Option.bind (fR_sort M) fun q2 =>
    if q2 = 41 then
      Option.bind (fR_settle 20001 M) fun M4 =>
      if (M4 146 7) = 0 then
        some (Sum.inr (Sum.inl M4))
      else
        let M5 : Mm := mput M4 146 7 ((M4 146 7) - 1)
        let M6 : Mm := mput M5 146 8 ((M5 146 8) - 1)
        let M7 : Mm := mput M6 146 4 ((M6 146 4) + 1)
        some (Sum.inl ((x1 + 1), M7))
    else
      some (Sum.inr (Sum.inr M))
def fR_closeAll (M : Mm) : Option Mm :=
  Option.bind (lp 1000000 (fun s => fR_closeAll_b2 s.1 s.2) (0, M)) fun e2 =>
  match e2 with
  | Sum.inl p2 =>
      let M8 : Mm := p2
      some M8
  | Sum.inr p2 =>
      let M9 : Mm := p2
      some M9
def fR_putOff (x1 : Int32) (M : Mm) : Option Mm :=
  Option.bind (
    if 32 ≤ (M 146 7) then
      some M
    else
      if inb (M 146 7) 32 then
      let M1 : Mm := mput M 167 (jix (M 146 7)) x1
      let M3 : Mm := mput M1 146 7 ((M1 146 7) + 1)
      some M3
      else none) fun M4 =>
  let M5 : Mm := mput M4 146 4 ((M4 146 4) + 1)
  some M5
def fR_goesOn (M : Mm) : Option (Int32 × Mm) :=
  Option.bind (fR_sort M) fun q2 =>
  if q2 = 261 then
    Option.bind (fR_settle 20002 M) fun M12 =>
    Option.bind (fR_putOff 20002 M12) fun M14 =>
    some (1, M14)
  else
    Option.bind (fR_settle 20001 M) fun M4 =>
    Option.bind (fR_sort M4) fun q6 =>
    if q6 = 260 then
      Option.bind (fR_putOff 20001 M4) fun M10 =>
      some (1, M10)
    else
      if (M4 146 7) ≤ 0 then
        some (0, M4)
      else
        Option.bind (fR_blame 1 M4) fun M8 =>
        some (0, M8)
def fR_openOne (M : Mm) : Option Mm :=
  if (M 146 8) < 8 then
    let M1 : Mm := mput M 146 8 ((M 146 8) + 1)
    Option.bind (fR_sort M1) fun q3 =>
    if q3 = 262 then
      Option.bind (fR_putOff 20003 M1) fun M7 =>
      some M7
    else
      Option.bind (fR_putOff 0 M1) fun M5 =>
      some M5
  else
    Option.bind (fR_blame 3 M) fun M9 =>
    some M9
def fR_condition_j90 (z1 : Int32) (M : Mm) : Option ((Int32 × Mm) ⊕ (Mm ⊕ Mm)) :=
  some (Sum.inl ((z1 + 1), M))
def fR_condition_j45 (z1 : Int32) (M : Mm) : Option ((Int32 × Mm) ⊕ (Mm ⊕ Mm)) :=
  Option.bind (fR_openOne M) fun M20 =>
  fR_condition_j90 z1 M20
def fR_condition_b12 (x1 : Int32) (M : Mm) : Option ((Int32 × Mm) ⊕ (Mm ⊕ Mm)) :=
  if 400 ≤ x1 then
    some (Sum.inr (Sum.inr M))
  else
    if (M 146 1) = 0 then
      Option.bind (fR_sort M) fun q4 =>
      if q4 = 262 then
        fR_condition_j45 x1 M
      else
        Option.bind (fR_sort M) fun q6 =>
        if q6 = 40 then
          fR_condition_j45 x1 M
        else
          Option.bind (fR_sum M) fun M8 =>
          Option.bind (fR_relation M8) fun q10 =>
          Option.bind (fR_sum q10.2) fun M12 =>
          Option.bind (fL_addStep q10.1 M12) fun M14 =>
          Option.bind (fR_closeAll M14) fun M16 =>
          Option.bind (fR_goesOn M16) fun q18 =>
          if q18.1 = 0 then
            some (Sum.inr (Sum.inl q18.2))
          else
            fR_condition_j90 x1 q18.2
    else
      some (Sum.inr (Sum.inr M))
def fR_condition (M : Mm) : Option Mm :=
  let M1 : Mm := mput M 146 7 0
  let M2 : Mm := mput M1 146 8 0
  Option.bind (lp 1000000 (fun s => fR_condition_b12 s.1 s.2) (0, M2)) fun e12 =>
  match e12 with
  | Sum.inl p12 =>
      let M21 : Mm := p12
      some M21
  | Sum.inr p12 =>
      let M22 : Mm := p12
      some M22
def fR_need (x1 : Int32) (M : Mm) : Option Mm :=
  Option.bind (fR_sort M) fun q2 =>
  if q2 = x1 then
    let M5 : Mm := mput M 146 4 ((M 146 4) + 1)
    some M5
  else
    Option.bind (fR_blame 1 M) fun M4 =>
    some M4
def fR_lawLine (x1 : Int32) (M : Mm) : Option Mm :=
  Option.bind (fR_sort M) fun q2 =>
  if inb x1 16 then
  let M3 : Mm := mput M 149 (jix x1) (q2 - 256)
  let M5 : Mm := mput M3 146 4 ((M3 146 4) + 1)
  if inb x1 16 then
  let M6 : Mm := mput M5 150 (jix x1) (M5 148 1)
  Option.bind (fR_sum M6) fun M9 =>
  if inb x1 16 then
  let M10 : Mm := mput M9 151 (jix x1) (M9 148 1)
  Option.bind (fR_sort M10) fun q13 =>
  Option.bind (
    if q13 = 259 then
      let M14 : Mm := mput M10 146 4 ((M10 146 4) + 1)
      Option.bind (fR_condition M14) fun M16 =>
      some M16
    else
      some M10) fun M17 =>
  if inb x1 16 then
  let M18 : Mm := mput M17 152 (jix x1) (M17 148 1)
  Option.bind (fR_need 59 M18) fun M21 =>
  let M22 : Mm := mput M21 148 0 (x1 + 1)
  some M22
  else none
  else none
  else none
  else none
def fR_kindWord (M : Mm) : Option (Int32 × Mm) :=
  Option.bind (fR_sort M) fun q2 =>
  let v3 : Int32 := (q2 - 276)
  Option.bind (fK_isKind v3) fun q5 =>
  if q5 = 0 then
    Option.bind (fR_blame 1 M) fun M8 =>
    some (0, M8)
  else
    let M6 : Mm := mput M 146 4 ((M 146 4) + 1)
    some (v3, M6)
def fR_postLine (x1 : Int32) (M : Mm) : Option Mm :=
  Option.bind (fR_need 274 M) fun M2 =>
  Option.bind (fR_number 0 999 M2) fun q4 =>
  if inb x1 16 then
  let M5 : Mm := mput q4.2 156 (jix x1) q4.1
  Option.bind (fR_need 275 M5) fun M8 =>
  Option.bind (fR_number 0 ((M8 146 5) - 1) M8) fun q10 =>
  if inb x1 16 then
  let M11 : Mm := mput q10.2 157 (jix x1) q10.1
  Option.bind (fR_kindWord M11) fun q14 =>
  if inb x1 16 then
  let M15 : Mm := mput q14.2 158 (jix x1) q14.1
  Option.bind (fR_number 1 99 M15) fun q18 =>
  if inb x1 16 then
  let M19 : Mm := mput q18.2 159 (jix x1) q18.1
  Option.bind (fR_need 59 M19) fun M22 =>
  let M23 : Mm := mput M22 147 1 (x1 + 1)
  some M23
  else none
  else none
  else none
  else none
def fR_walkLine (x1 : Int32) (M : Mm) : Option Mm :=
  Option.bind (fR_need 283 M) fun M2 =>
  Option.bind (fR_number 0 ((M2 146 5) - 1) M2) fun q4 =>
  if inb x1 16 then
  let M5 : Mm := mput q4.2 160 (jix x1) q4.1
  Option.bind (fR_need 59 M5) fun M8 =>
  let M9 : Mm := mput M8 147 6 (x1 + 1)
  some M9
  else none
def fT_addStreet_j24 (z1 : Int32) (z2 : Int32) (z3 : Int32) (M : Mm) : Option Mm :=
  if inb ((z1 * 12) + z2) 144 then
  let M3 : Mm := mput M 161 (jix ((z1 * 12) + z2)) z3
  if inb ((z2 * 12) + z1) 144 then
  let M5 : Mm := mput M3 161 (jix ((z2 * 12) + z1)) z3
  some M5
  else none
  else none
def fT_addStreet (x1 : Int32) (x2 : Int32) (x3 : Int32) (M : Mm) : Option Mm :=
  if inb ((x1 * 12) + x2) 144 then
  let v2 : Int32 := (M 161 (jix ((x1 * 12) + x2)))
  if v2 = 0 then
    fT_addStreet_j24 x1 x2 x3 M
  else
    if v2 ≤ x3 then
      some M
    else
      fT_addStreet_j24 x1 x2 x3 M
  else none
def fR_streetLine (x1 : Int32) (M : Mm) : Option Mm :=
  Option.bind (fR_need 284 M) fun M2 =>
  Option.bind (fR_number 0 ((M2 146 5) - 1) M2) fun q4 =>
  Option.bind (fR_sort q4.2) fun q6 =>
  Option.bind (
    if q6 = 1 then
      if inb (q4.2 146 4) 401 then
      if (q4.2 164 (jix (q4.2 146 4))) = q4.1 then
        Option.bind (fR_blame 2 q4.2) fun M9 =>
        some M9
      else
        some q4.2
      else none
    else
      some q4.2) fun M10 =>
  Option.bind (fR_number 0 ((M10 146 5) - 1) M10) fun q12 =>
  Option.bind (fR_number 1 99 q12.2) fun q14 =>
  Option.bind (fR_need 59 q14.2) fun M16 =>
  Option.bind (
    if (M16 146 1) = 0 then
      Option.bind (fT_addStreet q4.1 q12.1 q14.1 M16) fun M18 =>
      some M18
    else
      some M16) fun M19 =>
  let M20 : Mm := mput M19 147 8 (x1 + 1)
  some M20
def fR_read_b31 (x1 : Int32) (x5 : Int32) (M : Mm) : Option ((Int32 × Mm) ⊕ (Mm ⊕ Mm)) :=
  if 16 < x5 then
    some (Sum.inr (Sum.inr M))
  else
    Option.bind (fR_sort M) fun q8 =>
    if q8 = 2 then
      some (Sum.inr (Sum.inr M))
    else
      Option.bind (fR_begins x1 x5 M) fun q10 =>
      if q10.1 = 0 then
        some (Sum.inr (Sum.inl q10.2))
      else
        Option.bind (
          if x1 = 0 then
            Option.bind (fR_lawLine x5 q10.2) fun M12 =>
            some M12
          else if x1 = 1 then
            Option.bind (fR_postLine x5 q10.2) fun M14 =>
            some M14
          else if x1 = 2 then
            Option.bind (fR_walkLine x5 q10.2) fun M16 =>
            some M16
          else 
            Option.bind (fR_streetLine x5 q10.2) fun M18 =>
            some M18) fun M19 =>
        some (Sum.inl ((x5 + 1), M19))
def fR_read (x1 : Int32) (x3 : Int32) (x4 : Int32) (M : Mm) : Option (Int32 × Mm) :=
  Option.bind (fO_scan x3 M) fun M2 =>
  Option.bind (fT_clearOne x1 M2) fun M4 =>
  let M5 : Mm := mput M4 146 4 0
  let M6 : Mm := mput M5 146 5 x4
  Option.bind (lp 1000000 (fun s => fR_read_b31 x1 s.1 s.2) (0, M6)) fun e31 =>
  match e31 with
  | Sum.inl p31 =>
      let M20 : Mm := p31
      if (M20 146 1) = 0 then
        some (1, M20)
      else
        some (0, M20)
  | Sum.inr p31 =>
      let M21 : Mm := p31
      if (M21 146 1) = 0 then
        some (1, M21)
      else
        some (0, M21)
def fL_copyFrom (w : Nat) (v : Nat) (M : Mm) : Mm :=
  let M1 : Mm := mput M w 0 (M v 0)
  let M2 : Mm := mput M1 w 1 (M1 v 1)
  let M3 : Mm := mcp M2 (v + 1) (w + 1) 0 0 16
  let M4 : Mm := mcp M3 (v + 2) (w + 2) 0 0 16
  let M5 : Mm := mcp M4 (v + 3) (w + 3) 0 0 16
  let M6 : Mm := mcp M5 (v + 4) (w + 4) 0 0 16
  let M7 : Mm := mcp M6 (v + 5) (w + 5) 0 0 400
  M7
def fT_copyOne (w : Nat) (v : Nat) (x1 : Int32) (M : Mm) : Mm :=
  if x1 = 0 then
    let M1 : Mm := fL_copyFrom (w + 1) (v + 1) M
    M1
  else if x1 = 1 then
    let M2 : Mm := mput M w 1 (M v 1)
    let M3 : Mm := mcp M2 (v + 9) (w + 9) 0 0 16
    let M4 : Mm := mcp M3 (v + 10) (w + 10) 0 0 16
    let M5 : Mm := mcp M4 (v + 11) (w + 11) 0 0 16
    let M6 : Mm := mcp M5 (v + 12) (w + 12) 0 0 16
    M6
  else if x1 = 2 then
    let M7 : Mm := mput M w 6 (M v 6)
    let M8 : Mm := mcp M7 (v + 13) (w + 13) 0 0 16
    M8
  else 
    let M9 : Mm := mput M w 8 (M v 8)
    let M10 : Mm := mcp M9 (v + 14) (w + 14) 0 0 144
    M10
def fT_linesOf (x1 : Int32) (M : Mm) : Int32 :=
  if x1 = 0 then
    (M 124 0)
  else if x1 = 1 then
    (M 123 1)
  else if x1 = 2 then
    (M 123 6)
  else 
    (M 123 8)
def fK_text (x1 : Int32) (M : Mm) : Option (Int32 × Mm) :=
  let v1 : Int32 := (M 0 10)
  let M2 : Mm := mput M 0 10 0
  let M3 : Mm := fR_forgive M2
  let v4 : Int32 := fK_isWithin x1 0 3
  if v4 = 0 then
    some ((-1), M3)
  else
    Option.bind (fR_read x1 v1 (M3 2 0) M3) fun q6 =>
    if q6.1 = 0 then
      some ((-1), q6.2)
    else
      let M7 : Mm := fT_copyOne 123 147 x1 q6.2
      Option.bind (
        if x1 = 1 then
          let M8 : Mm := fP_forget M7
          some M8
        else
          if x1 = 2 then
            let M9 : Mm := fP_forget M7
            some M9
          else
            some M7) fun M10 =>
      let v11 : Int32 := fT_linesOf x1 M10
      some (v11, M10)
def fK_fault (x1 : Int32) (M : Mm) : Int32 :=
  if x1 = 0 then
    (M 146 1)
  else
    if x1 = 1 then
      (M 146 2)
    else
      (-1)
def fB_countFor_b4 (w : Nat) (x1 : Int32) (M : Mm) (x2 : Int32) (x3 : Int32) : Option ((Int32 × Int32) ⊕ Int32) :=
  if (M w 0) ≤ x3 then
    some (Sum.inr x2)
  else
    if inb x3 24 then
    some (Sum.inl ((if (M (w + 2) (jix x3)) = x1 then (x2 + 1) else x2), (x3 + 1)))
    else none
def fB_countFor (w : Nat) (x1 : Int32) (M : Mm) : Option Int32 :=
  Option.bind (lp 1000000 (fun s => fB_countFor_b4 w x1 M s.1 s.2) (0, 0)) fun e4 =>
  let y2 : Int32 := e4
  some y2
def fT_streetBetween (x1 : Int32) (x2 : Int32) (M : Mm) : Option Int32 :=
  if inb ((x1 * 12) + x2) 144 then
  let v2 : Int32 := (M 137 (jix ((x1 * 12) + x2)))
  if v2 = 0 then
    some (-1)
  else
    some v2
  else none
def fK_of (x1 : Int32) (x2 : Int32) (M : Mm) : Option Int32 :=
  Option.bind (fK_isDoor x1 M) fun q2 =>
  if q2 = 0 then
    some (-100)
  else
    if x2 = 0 then
      if inb x1 12 then
      some (M 3 (jix x1))
      else none
    else if x2 = 1 then
      if inb x1 12 then
      some (M 4 (jix x1))
      else none
    else if x2 = 2 then
      if inb x1 12 then
      some (M 5 (jix x1))
      else none
    else if x2 = 3 then
      if inb x1 12 then
      some (M 6 (jix x1))
      else none
    else if x2 = 4 then
      Option.bind (fB_countFor 8 x1 M) fun q8 =>
      some q8
    else 
      if x2 < 10 then
        some (-100)
      else
        Option.bind (fK_isDoor (x2 - 10) M) fun q10 =>
        if q10 = 0 then
          some (-100)
        else
          Option.bind (fT_streetBetween x1 (x2 - 10) M) fun q12 =>
          some q12
def fK_letter (x1 : Int32) (x2 : Int32) (M : Mm) : Option (Int32 × Mm) :=
  let v1 : Int32 := fK_isWithin x1 0 ((M 8 0) - 1)
  if v1 = 0 then
    some ((-1), M)
  else
    if x2 = 0 then
      if inb x1 24 then
      some ((M 9 (jix x1)), M)
      else none
    else if x2 = 1 then
      if inb x1 24 then
      some ((M 10 (jix x1)), M)
      else none
    else if x2 = 2 then
      if inb x1 24 then
      some ((M 11 (jix x1)), M)
      else none
    else if x2 = 3 then
      if inb x1 24 then
      some ((M 12 (jix x1)), M)
      else none
    else if x2 = 4 then
      if inb x1 24 then
      some ((M 13 (jix x1)), M)
      else none
    else if x2 = 5 then
      Option.bind (fW_ask 1 0 x1 M) fun q8 =>
      some (q8.1, q8.2)
    else if x2 = 6 then
      Option.bind (fW_ask 1 1 x1 M) fun q10 =>
      some (q10.1, q10.2)
    else if x2 = 7 then
      Option.bind (fW_ask 1 2 x1 M) fun q12 =>
      some (q12.1, q12.2)
    else 
      some ((-1), M)
def fK_given (x1 : Int32) (M : Mm) : Option Int32 :=
  Option.bind (fK_isKind x1) fun q2 =>
  if q2 = 0 then
    some (-1)
  else
    if inb x1 7 then
    some (M 14 (jix x1))
    else none
def fK_book (x1 : Int32) (x2 : Int32) (M : Mm) : Option Int32 :=
  let v1 : Int32 := fK_isWithin x1 0 ((M 1 4) - 1)
  if v1 = 0 then
    some (-2)
  else
    let v2 : Int32 := fK_isWithin x2 0 3
    if v2 = 0 then
      some (-2)
    else
      if inb ((x1 * 4) + x2) 600 then
      some (M 15 (jix ((x1 * 4) + x2)))
      else none
def fK_goes_b34 (x1 : Int32) (x2 : Int32) (x3 : Int32) (M : Mm) : Option ((Int32 × Mm) ⊕ Mm) :=
  if x1 ≤ x3 then
    some (Sum.inr M)
  else
    Option.bind (fW_passDay 16 M) fun q6 =>
    some (Sum.inl ((x3 + 1), q6.2))
def fK_goes (x1 : Int32) (x2 : Int32) (M : Mm) : Option (Int32 × Mm) :=
  let v1 : Int32 := fK_isWithin x1 1 60
  if v1 = 0 then
    some ((-1), M)
  else
    let v2 : Int32 := fK_isWithin x2 0 3
    if v2 = 0 then
      some ((-1), M)
    else
      Option.bind (fW_copyFrom 16 1 M) fun M4 =>
      Option.bind (lp 1000000 (fun s => fK_goes_b34 x1 x2 s.1 s.2) (0, M4)) fun e34 =>
      let M7 : Mm := e34
      if x2 = 0 then
        some ((M7 16 5), M7)
      else if x2 = 1 then
        some ((M7 16 6), M7)
      else if x2 = 2 then
        some ((M7 23 0), M7)
      else 
        some ((M7 16 8), M7)
def fY_measure_b10 (x1 : Int32) (x3 : Int32) (x4 : Int32) (M : Mm) : Option ((Int32 × Mm) ⊕ Mm) :=
  if x1 ≤ x4 then
    some (Sum.inr M)
  else
    Option.bind (fT_streetBetween x3 x4 M) fun q2 =>
    if inb ((x3 * 12) + x4) 144 then
    let M3 : Mm := mput M 174 (jix ((x3 * 12) + x4)) (if q2 = (-1) then 1000000 else q2)
    some (Sum.inl ((x4 + 1), M3))
    else none
def fY_measure_b2 (x1 : Int32) (x3 : Int32) (M : Mm) : Option ((Int32 × Mm) ⊕ Mm) :=
  if x1 ≤ x3 then
    some (Sum.inr M)
  else
    Option.bind (lp 1000000 (fun s => fY_measure_b10 x1 x3 s.1 s.2) (0, M)) fun e10 =>
    let M5 : Mm := e10
    if inb ((x3 * 12) + x3) 144 then
    let M6 : Mm := mput M5 174 (jix ((x3 * 12) + x3)) 0
    some (Sum.inl ((x3 + 1), M6))
    else none
def fY_measure_b93 (x1 : Int32) (x3 : Int32) (x4 : Int32) (x5 : Int32) (M : Mm) : Option ((Int32 × Mm) ⊕ Mm) :=
  if x1 ≤ x5 then
    some (Sum.inr M)
  else
    if inb ((x4 * 12) + x3) 144 then
    if inb ((x3 * 12) + x5) 144 then
    let v11 : Int32 := ((M 174 (jix ((x4 * 12) + x3))) + (M 174 (jix ((x3 * 12) + x5))))
    if inb ((x4 * 12) + x5) 144 then
    let v13 : Int32 := (M 174 (jix ((x4 * 12) + x5)))
    if inb ((x4 * 12) + x5) 144 then
    let M14 : Mm := mput M 174 (jix ((x4 * 12) + x5)) (jmin v13 v11)
    some (Sum.inl ((x5 + 1), M14))
    else none
    else none
    else none
    else none
def fY_measure_b84 (x1 : Int32) (x3 : Int32) (x4 : Int32) (M : Mm) : Option ((Int32 × Mm) ⊕ Mm) :=
  if x1 ≤ x4 then
    some (Sum.inr M)
  else
    Option.bind (lp 1000000 (fun s => fY_measure_b93 x1 x3 x4 s.1 s.2) (0, M)) fun e93 =>
    let M16 : Mm := e93
    some (Sum.inl ((x4 + 1), M16))
def fY_measure_b76 (x1 : Int32) (x3 : Int32) (M : Mm) : Option ((Int32 × Mm) ⊕ Mm) :=
  if x1 ≤ x3 then
    some (Sum.inr M)
  else
    Option.bind (lp 1000000 (fun s => fY_measure_b84 x1 x3 s.1 s.2) (0, M)) fun e84 =>
    let M17 : Mm := e84
    some (Sum.inl ((x3 + 1), M17))
def fY_measure (x1 : Int32) (M : Mm) : Option Mm :=
  Option.bind (lp 1000000 (fun s => fY_measure_b2 x1 s.1 s.2) (0, M)) fun e2 =>
  let M8 : Mm := e2
  Option.bind (lp 1000000 (fun s => fY_measure_b76 x1 s.1 s.2) (0, M8)) fun e76 =>
  let M18 : Mm := e76
  some M18
def fJ_rangeCheck_23922 (x0 : Int32) (x1 : Int32) (x2 : Int32) : Option Unit :=
  if x1 ≤ x2 then
    if 0 ≤ x1 then
      if x2 ≤ x0 then
        some ()
      else
        none
    else
      none
  else
    none
def fJ_fill_fda19_b10 (a : Nat) (na : Nat) (x2 : Int32) (x3 : Int32) (x4 : Int32) (M : Mm) : Option ((Int32 × Mm) ⊕ Mm) :=
  if x2 ≤ x4 then
    some (Sum.inr M)
  else
    if inb x4 na then
    let M3 : Mm := mput M a (jix x4) x3
    some (Sum.inl ((x4 + 1), M3))
    else none
def fJ_fill_fda19 (a : Nat) (na : Nat) (x1 : Int32) (x2 : Int32) (x3 : Int32) (M : Mm) : Option Mm :=
  Option.bind (fJ_rangeCheck_23922 (nI na) x1 x2) fun u2 =>
  Option.bind (lp 1000000 (fun s => fJ_fill_fda19_b10 a na x2 x3 s.1 s.2) (x1, M)) fun e10 =>
  let M5 : Mm := e10
  some M5
def fY_walkOn_b14 (x1 : Int32) (x2 : Int32) (x3 : Int32) (x5 : Int32) (x6 : Int32) (M : Mm) : Option ((Int32 × Mm) ⊕ Mm) :=
  if x3 ≤ x6 then
    some (Sum.inr M)
  else
    let v3 : Int32 := (((x1 ||| ((1 : Int32) <<< (x6 &&& 31))) * 8) + x6)
    if inb x2 8 then
    if inb x6 8 then
    if inb (((M 175 (jix x2)) * 12) + (M 175 (jix x6))) 144 then
    let v7 : Int32 := (x5 + (M 174 (jix (((M 175 (jix x2)) * 12) + (M 175 (jix x6))))))
    Option.bind (
      if ((x1 >>> (x6 &&& 31)) &&& 1) = 0 then
        if inb v3 10025 then
        if (M 252 (jix v3)) ≤ v7 then
          some M
        else
          if inb v3 10025 then
          let M9 : Mm := mput M 252 (jix v3) v7
          some M9
          else none
        else none
      else
        some M) fun M11 =>
    some (Sum.inl ((x6 + 1), M11))
    else none
    else none
    else none
def fY_walkOn (x1 : Int32) (x2 : Int32) (x3 : Int32) (M : Mm) : Option Mm :=
  if inb ((x1 * 8) + x2) 10025 then
  let v2 : Int32 := (M 252 (jix ((x1 * 8) + x2)))
  Option.bind (lp 1000000 (fun s => fY_walkOn_b14 x1 x2 x3 v2 s.1 s.2) (0, M)) fun e14 =>
  let M12 : Mm := e14
  some M12
  else none
def fY_walkSets_b14 (x1 : Int32) (x2 : Int32) (x4 : Int32) (M : Mm) : Option ((Int32 × Mm) ⊕ Mm) :=
  if x2 ≤ x4 then
    some (Sum.inr M)
  else
    if inb x4 8 then
    if inb ((x1 * 12) + (M 175 (jix x4))) 144 then
    if inb ((((1 : Int32) <<< (x4 &&& 31)) * 8) + x4) 10025 then
    let M5 : Mm := mput M 252 (jix ((((1 : Int32) <<< (x4 &&& 31)) * 8) + x4)) (M 174 (jix ((x1 * 12) + (M 175 (jix x4)))))
    some (Sum.inl ((x4 + 1), M5))
    else none
    else none
    else none
def fY_walkSets_b69 (x2 : Int32) (x4 : Int32) (x5 : Int32) (M : Mm) : Option ((Int32 × Mm) ⊕ Mm) :=
  if x2 ≤ x5 then
    some (Sum.inr M)
  else
    if inb ((x4 * 8) + x5) 10025 then
    Option.bind (
      if 1000000 ≤ (M 252 (jix ((x4 * 8) + x5))) then
        some M
      else
        Option.bind (fY_walkOn x4 x5 x2 M) fun M10 =>
        some M10) fun M11 =>
    some (Sum.inl ((x5 + 1), M11))
    else none
def fY_walkSets_b58 (x2 : Int32) (x4 : Int32) (M : Mm) : Option ((Int32 × Mm) ⊕ Mm) :=
  if ((1 : Int32) <<< (x2 &&& 31)) ≤ x4 then
    some (Sum.inr M)
  else
    Option.bind (lp 1000000 (fun s => fY_walkSets_b69 x2 x4 s.1 s.2) (0, M)) fun e69 =>
    let M12 : Mm := e69
    some (Sum.inl ((x4 + 1), M12))
def fY_walkSets (x1 : Int32) (x2 : Int32) (M : Mm) : Option Mm :=
  Option.bind (fJ_fill_fda19 252 10025 0 ((8 : Int32) <<< (x2 &&& 31)) 1000000 M) fun M2 =>
  Option.bind (lp 1000000 (fun s => fY_walkSets_b14 x1 x2 s.1 s.2) (0, M2)) fun e14 =>
  let M7 : Mm := e14
  Option.bind (lp 1000000 (fun s => fY_walkSets_b58 x2 s.1 s.2) (1, M7)) fun e58 =>
  let M13 : Mm := e58
  some M13
def fY_shortestEnd_b17 (x1 : Int32) (x2 : Int32) (x4 : Int32) (M : Mm) (x5 : Int32) (x6 : Int32) (x7 : Int32) : Option ((Int32 × Int32 × Int32) ⊕ (Int32 × Int32)) :=
  if x1 ≤ x7 then
    some (Sum.inr (x5, x6))
  else
    if inb ((x4 * 8) + x7) 10025 then
    Option.bind (
      if x5 ≤ (M 252 (jix ((x4 * 8) + x7))) then
        some (x5, x6)
      else
        if inb ((x4 * 8) + x7) 10025 then
        let v4 : Int32 := (M 252 (jix ((x4 * 8) + x7)))
        if inb x7 8 then
        let v6 : Int32 := (M 175 (jix x7))
        some (v4, v6)
        else none
        else none) fun t59 =>
    let y7 : Int32 := t59.1
    let y8 : Int32 := t59.2
    some (Sum.inl (y7, y8, (x7 + 1)))
    else none
def fY_shortestEnd (x1 : Int32) (x2 : Int32) (M : Mm) : Option Int32 :=
  let v1 : Int32 := (((1 : Int32) <<< (x1 &&& 31)) - 1)
  Option.bind (lp 1000000 (fun s => fY_shortestEnd_b17 x1 x2 v1 M s.1 s.2.1 s.2.2) (1000000, (-1), 0)) fun e17 =>
  let y9 : Int32 := e17.1
  let y10 : Int32 := e17.2
  if x2 = 0 then
    if y10 = (-1) then
      some y10
    else
      some y9
  else
    some y10
def fY_walkAll_j57 (z1 : Int32) (z2 : Int32) (z6 : Int32) (z7 : Int32) (M : Mm) : Option ((Int32 × Int32 × Mm) ⊕ (Mm ⊕ (Int32 × Mm))) :=
  some (Sum.inl (z6, (z7 + 1), M))
def fY_walkAll_b6 (x1 : Int32) (x2 : Int32) (x6 : Int32) (x7 : Int32) (M : Mm) : Option ((Int32 × Int32 × Mm) ⊕ (Mm ⊕ (Int32 × Mm))) :=
  if (M 2 0) ≤ x7 then
    some (Sum.inr (Sum.inr (x6, M)))
  else
    if x7 = x1 then
      fY_walkAll_j57 x1 x2 x6 x7 M
    else
      Option.bind (fB_countFor 8 x7 M) fun q2 =>
      if q2 ≤ 0 then
        fY_walkAll_j57 x1 x2 x6 x7 M
      else
        if x6 < 8 then
          if inb x6 8 then
          let M3 : Mm := mput M 175 (jix x6) x7
          fY_walkAll_j57 x1 x2 (x6 + 1) x7 M3
          else none
        else
          some (Sum.inr (Sum.inl M))
def fY_walkAll (x1 : Int32) (x2 : Int32) (M : Mm) : Option (Int32 × Mm) :=
  Option.bind (lp 1000000 (fun s => fY_walkAll_b6 x1 x2 s.1 s.2.1 s.2.2) (0, 0, M)) fun e6 =>
  match e6 with
  | Sum.inl p6 =>
      let M5 : Mm := p6
      some ((-1), M5)
  | Sum.inr p6 =>
      let y6 : Int32 := p6.1
      let M7 : Mm := p6.2
      if y6 = 0 then
        if x2 = 0 then
          some (0, M7)
        else
          some (x1, M7)
      else
        Option.bind (fY_measure (M7 2 0) M7) fun M9 =>
        Option.bind (fY_walkSets x1 y6 M9) fun M11 =>
        Option.bind (fY_shortestEnd y6 x2 M11) fun q13 =>
        some (q13, M11)
def fK_shortest (x1 : Int32) (x2 : Int32) (M : Mm) : Option (Int32 × Mm) :=
  Option.bind (fK_isDoor x1 M) fun q2 =>
  if q2 = 0 then
    some ((-1), M)
  else
    let v3 : Int32 := fK_isWithin x2 0 1
    if v3 = 0 then
      some ((-1), M)
    else
      let M4 : Mm := fK_theDesk M
      Option.bind (fY_walkAll x1 (if x2 = 1 then 1 else 0) M4) fun q6 =>
      some (q6.1, q6.2)
def fE_addBlow (x1 : Int32) (M : Mm) : Option (Int32 × Mm) :=
  if x1 = 0 then
    let M5 : Mm := mput M 138 0 0
    some (0, M5)
  else
    let v1 : Int32 := fK_isWithin x1 (-50) 50
    if v1 = 0 then
      some ((-1), M)
    else
      if (M 138 0) < 8 then
        if inb (M 138 0) 8 then
        let M2 : Mm := mput M 139 (jix (M 138 0)) x1
        let M4 : Mm := mput M2 138 0 ((M2 138 0) + 1)
        some ((M4 138 0), M4)
        else none
      else
        some ((-1), M)
def fK_blow (x1 : Int32) (M : Mm) : Option (Int32 × Mm) :=
  Option.bind (fE_addBlow x1 M) fun q2 =>
  some (q2.1, q2.2)
def fI_leftBehindAll_b38 (x4 : Int32) (x5 : Int32) (x6 : Int32) (M : Mm) : Option ((Int32 × Mm) ⊕ Mm) :=
  if (M 138 0) ≤ x6 then
    some (Sum.inr M)
  else
    if inb x5 256 then
    if (M 169 (jix x5)) ≤ 0 then
      some (Sum.inr M)
    else
      let v7 : Int32 := (x5 ||| ((1 : Int32) <<< (x6 &&& 31)))
      if inb x5 256 then
      if inb x6 8 then
      let v10 : Int32 := (jmin 99 ((M 169 (jix x5)) + (M 139 (jix x6))))
      Option.bind (
        if v7 = x5 then
          some M
        else
          if inb v7 256 then
          if v10 ≤ (M 169 (jix v7)) then
            some M
          else
            if inb v7 256 then
            let M12 : Mm := mput M 169 (jix v7) v10
            some M12
            else none
          else none) fun M14 =>
      some (Sum.inl ((x6 + 1), M14))
      else none
      else none
    else none
def fI_leftBehindAll_b28 (x4 : Int32) (x5 : Int32) (M : Mm) : Option ((Int32 × Mm) ⊕ Mm) :=
  if x4 ≤ x5 then
    some (Sum.inr M)
  else
    Option.bind (lp 1000000 (fun s => fI_leftBehindAll_b38 x4 x5 s.1 s.2) (0, M)) fun e38 =>
    let M15 : Mm := e38
    some (Sum.inl ((x5 + 1), M15))
def fI_leftBehindAll (x2 : Int32) (x3 : Int32) (M : Mm) : Option (Int32 × Mm) :=
  let v1 : Int32 := (((1 : Int32) <<< ((M 138 0) &&& 31)) - 1)
  Option.bind (fJ_fill_53178 169 256 0 M) fun M3 =>
  if inb x2 256 then
  let M4 : Mm := mput M3 169 (jix x2) x3
  Option.bind (lp 1000000 (fun s => fI_leftBehindAll_b28 v1 s.1 s.2) (x2, M4)) fun e28 =>
  let M16 : Mm := e28
  if inb v1 256 then
  some ((M16 169 (jix v1)), M16)
  else none
  else none
def fI_healthLeft (x2 : Int32) (M : Mm) : Option (Int32 × Mm) :=
  Option.bind (fI_leftBehindAll 0 x2 M) fun q2 =>
  if q2.1 ≤ 0 then
    some ((-1), q2.2)
  else
    some (q2.1, q2.2)
def fI_firstBlow_j46 (z2 : Int32) (z3 : Int32) (M : Mm) : Option ((Int32 × Mm) ⊕ ((Int32 × Mm) ⊕ Mm)) :=
  some (Sum.inl ((z3 + 1), M))
def fI_firstBlow_b2 (x2 : Int32) (x3 : Int32) (M : Mm) : Option ((Int32 × Mm) ⊕ ((Int32 × Mm) ⊕ Mm)) :=
  if (M 138 0) ≤ x3 then
    some (Sum.inr (Sum.inr M))
  else
    if inb x3 8 then
    let v2 : Int32 := (jmin 99 (x2 + (M 139 (jix x3))))
    if v2 < 1 then
      fI_firstBlow_j46 x2 x3 M
    else
      Option.bind (fI_leftBehindAll ((1 : Int32) <<< (x3 &&& 31)) v2 M) fun q4 =>
      if q4.1 ≤ 0 then
        fI_firstBlow_j46 x2 x3 q4.2
      else
        some (Sum.inr (Sum.inl (x3, q4.2)))
    else none
def fI_firstBlow (x2 : Int32) (M : Mm) : Option (Int32 × Mm) :=
  Option.bind (lp 1000000 (fun s => fI_firstBlow_b2 x2 s.1 s.2) (0, M)) fun e2 =>
  match e2 with
  | Sum.inl p2 =>
      let y5 : Int32 := p2.1
      let M6 : Mm := p2.2
      some (y5, M6)
  | Sum.inr p2 =>
      let M7 : Mm := p2
      some ((-1), M7)
def fK_bears (x1 : Int32) (x2 : Int32) (M : Mm) : Option (Int32 × Mm) :=
  let v1 : Int32 := fK_isWithin x1 1 99
  if v1 = 0 then
    some ((-1), M)
  else
    let v2 : Int32 := fK_isWithin x2 0 1
    if v2 = 0 then
      some ((-1), M)
    else
      if x2 = 0 then
        Option.bind (fI_firstBlow x1 M) fun q6 =>
        some (q6.1, q6.2)
      else
        Option.bind (fI_healthLeft x1 M) fun q4 =>
        some (q4.1, q4.2)
def fY_addLoad_b12 (x2 : Int32) (x3 : Int32) (x5 : Int32) (x6 : Int32) (M : Mm) : Option ((Int32 × Mm) ⊕ Mm) :=
  if x3 < x6 then
    some (Sum.inr M)
  else
    if inb ((x5 * 401) + x6) 10025 then
    if inb ((((x5 - 1) * 401) + x6) - x2) 10025 then
    if inb ((x5 * 401) + x6) 10025 then
    let M3 : Mm := mput M 252 (jix ((x5 * 401) + x6)) ((M 252 (jix ((x5 * 401) + x6))) + (M 252 (jix ((((x5 - 1) * 401) + x6) - x2))))
    some (Sum.inl ((x6 + 1), M3))
    else none
    else none
    else none
def fY_addLoad_b3 (x2 : Int32) (x3 : Int32) (x5 : Int32) (M : Mm) : Option ((Int32 × Mm) ⊕ Mm) :=
  if x5 < 1 then
    some (Sum.inr M)
  else
    Option.bind (lp 1000000 (fun s => fY_addLoad_b12 x2 x3 x5 s.1 s.2) (x2, M)) fun e12 =>
    let M5 : Mm := e12
    some (Sum.inl ((x5 + (-1)), M5))
def fY_addLoad (x1 : Int32) (x2 : Int32) (x3 : Int32) (M : Mm) : Option Mm :=
  Option.bind (lp 1000000 (fun s => fY_addLoad_b3 x2 x3 s.1 s.2) (x1, M)) fun e3 =>
  let M6 : Mm := e3
  some M6
def fY_loads_b25 (x1 : Int32) (x2 : Int32) (x5 : Int32) (M : Mm) : Option ((Int32 × Mm) ⊕ Mm) :=
  if (M 8 0) ≤ x5 then
    some (Sum.inr M)
  else
    if inb x5 24 then
    Option.bind (fY_addLoad (x5 + 1) (M 12 (jix x5)) x1 M) fun M6 =>
    some (Sum.inl ((x5 + 1), M6))
    else none
def fY_loads_b75 (x1 : Int32) (x2 : Int32) (x5 : Int32) (M : Mm) (x6 : Int32) (x7 : Int32) : Option ((Int32 × Int32) ⊕ Int32) :=
  if x1 < x7 then
    some (Sum.inr x6)
  else
    if inb ((x5 * 401) + x7) 10025 then
    let v10 : Int32 := (x6 + (M 252 (jix ((x5 * 401) + x7))))
    some (Sum.inl (v10, (x7 + 1)))
    else none
def fY_loads_b64 (x1 : Int32) (x2 : Int32) (M : Mm) (x5 : Int32) : Option (Int32 ⊕ ((Int32 × Int32) ⊕ Unit)) :=
  if x5 ≤ 0 then
    some (Sum.inr (Sum.inr ()))
  else
    Option.bind (lp 1000000 (fun s => fY_loads_b75 x1 x2 x5 M s.1 s.2) (0, 0)) fun e75 =>
    let y11 : Int32 := e75
    if y11 ≤ 0 then
      some (Sum.inl (x5 + (-1)))
    else
      some (Sum.inr (Sum.inl (x5, y11)))
def fY_loads (x1 : Int32) (x2 : Int32) (M : Mm) : Option (Int32 × Mm) :=
  Option.bind (fJ_fill_fda19 252 10025 0 (((M 8 0) + 1) * 401) 0 M) fun M2 =>
  let M3 : Mm := mput M2 252 0 1
  Option.bind (lp 1000000 (fun s => fY_loads_b25 x1 x2 s.1 s.2) (0, M3)) fun e25 =>
  let M7 : Mm := e25
  let v8 : Int32 := (M7 8 0)
  Option.bind (lp 1000000 (fun s => fY_loads_b64 x1 x2 M7 s) v8) fun e64 =>
  match e64 with
  | Sum.inl p64 =>
      let y12 : Int32 := p64.1
      let y13 : Int32 := p64.2
      if x2 = 0 then
        some (y12, M7)
      else
        some (y13, M7)
  | Sum.inr p64 =>
      if x2 = 0 then
        some (0, M7)
      else
        some (1, M7)
def fK_carries (x1 : Int32) (x2 : Int32) (M : Mm) : Option (Int32 × Mm) :=
  let v1 : Int32 := fK_isWithin x1 1 400
  if v1 = 0 then
    some ((-1), M)
  else
    let v2 : Int32 := fK_isWithin x2 0 1
    if v2 = 0 then
      some ((-1), M)
    else
      let M3 : Mm := fK_theDesk M
      Option.bind (fY_loads x1 (if x2 = 1 then 1 else 0) M3) fun q5 =>
      some (q5.1, q5.2)
def fE_addDebt (x1 : Int32) (x2 : Int32) (x3 : Int32) (M : Mm) : Option (Int32 × Mm) :=
  if x1 = (-1) then
    let M12 : Mm := mput M 138 2 0
    Option.bind (fJ_fill_53178 140 12 0 M12) fun M14 =>
    some (0, M14)
  else
    let v1 : Int32 := fK_isWithin x1 0 11
    Option.bind (
      if v1 = 0 then
        some 0
      else
        let v2 : Int32 := fK_isWithin x2 0 11
        if v2 = 0 then
          some 0
        else
          if x1 = x2 then
            some 0
          else
            let v3 : Int32 := fK_isWithin x3 1 99
            if v3 = 0 then
              some 0
            else
              some 1) fun y4 =>
    if y4 = 0 then
      some ((-1), M)
    else
      if (M 138 2) < 16 then
        if inb x1 12 then
        if inb x1 12 then
        let M6 : Mm := mput M 140 (jix x1) ((M 140 (jix x1)) - x3)
        if inb x2 12 then
        if inb x2 12 then
        let M9 : Mm := mput M6 140 (jix x2) ((M6 140 (jix x2)) + x3)
        let M11 : Mm := mput M9 138 2 ((M9 138 2) + 1)
        some ((M11 138 2), M11)
        else none
        else none
        else none
        else none
      else
        some ((-1), M)
def fK_owes (x1 : Int32) (x2 : Int32) (x3 : Int32) (M : Mm) : Option (Int32 × Mm) :=
  Option.bind (fE_addDebt x1 x2 x3 M) fun q2 =>
  some (q2.1, q2.2)
def fI_groupUp_b9 (x1 : Int32) (x2 : Int32) (M : Mm) (x4 : Int32) (x5 : Int32) (x6 : Int32) : Option ((Int32 × Int32 × Int32) ⊕ (Int32 × Int32)) :=
  if x2 ≤ x6 then
    some (Sum.inr (x4, x5))
  else
    let v1 : Int32 := (x1 &&& (((1 : Int32) <<< (x6 &&& 31)) ^^^ (-1)))
    Option.bind (
      if v1 = x1 then
        some (x4, x5)
      else
        if inb v1 10025 then
        if inb x6 12 then
        let v4 : Int32 := ((M 252 (jix v1)) + (M 170 (jix x6)))
        if inb (4096 + v1) 10025 then
        let v6 : Int32 := (jmax x5 (M 252 (jix (4096 + v1))))
        some (v4, v6)
        else none
        else none
        else none) fun t60 =>
    let y7 : Int32 := t60.1
    let y8 : Int32 := t60.2
    some (Sum.inl (y7, y8, (x6 + 1)))
def fI_groupUp (x1 : Int32) (x2 : Int32) (M : Mm) : Option Mm :=
  Option.bind (lp 1000000 (fun s => fI_groupUp_b9 x1 x2 M s.1 s.2.1 s.2.2) (0, 0, 0)) fun e9 =>
  let y9 : Int32 := e9.1
  let y10 : Int32 := e9.2
  if inb x1 10025 then
  let M11 : Mm := mput M 252 (jix x1) y9
  if y9 = 0 then
    if inb (4096 + x1) 10025 then
    let M15 : Mm := mput M11 252 (jix (4096 + x1)) (y10 + 1)
    some M15
    else none
  else
    if inb (4096 + x1) 10025 then
    let M13 : Mm := mput M11 252 (jix (4096 + x1)) y10
    some M13
    else none
  else none
def fI_fewestPayments_b5 (x3 : Int32) (x4 : Int32) (M : Mm) : Option ((Int32 × Int32 × Mm) ⊕ (Int32 × Mm)) :=
  if 12 ≤ x4 then
    some (Sum.inr (x3, M))
  else
    if inb x4 12 then
    Option.bind (
      if (M 140 (jix x4)) = 0 then
        some (x3, M)
      else
        if inb x4 12 then
        if inb x3 12 then
        let M3 : Mm := mput M 170 (jix x3) (M 140 (jix x4))
        some ((x3 + 1), M3)
        else none
        else none) fun t38 =>
    let y5 : Int32 := t38.1
    let M6 : Mm := t38.2
    some (Sum.inl (y5, (x4 + 1), M6))
    else none
def fI_fewestPayments_b57 (x3 : Int32) (x4 : Int32) (M : Mm) : Option ((Int32 × Mm) ⊕ Mm) :=
  if ((1 : Int32) <<< (x3 &&& 31)) ≤ x4 then
    some (Sum.inr M)
  else
    Option.bind (fI_groupUp x4 x3 M) fun M12 =>
    some (Sum.inl ((x4 + 1), M12))
def fI_fewestPayments (M : Mm) : Option (Int32 × Mm) :=
  Option.bind (lp 1000000 (fun s => fI_fewestPayments_b5 s.1 s.2.1 s.2.2) (0, 0, M)) fun e5 =>
  let y7 : Int32 := e5.1
  let M8 : Mm := e5.2
  let M9 : Mm := mput M8 252 0 0
  let M10 : Mm := mput M9 252 4096 0
  Option.bind (lp 1000000 (fun s => fI_fewestPayments_b57 y7 s.1 s.2) (1, M10)) fun e57 =>
  let M13 : Mm := e57
  if inb ((4096 + ((1 : Int32) <<< (y7 &&& 31))) - 1) 10025 then
  some ((y7 - (M13 252 (jix ((4096 + ((1 : Int32) <<< (y7 &&& 31))) - 1)))), M13)
  else none
def fK_net (x1 : Int32) (M : Mm) : Option (Int32 × Mm) :=
  if x1 = (-1) then
    let M3 : Mm := fK_theDesk M
    Option.bind (fI_fewestPayments M3) fun q5 =>
    some (q5.1, q5.2)
  else
    let v1 : Int32 := fK_isWithin x1 0 11
    if v1 = 0 then
      some ((-10000), M)
    else
      if inb x1 12 then
      some ((M 140 (jix x1)), M)
      else none
def fI_chainHad_b9 (x1 : Int32) (x2 : Int32) (x3 : Int32) (x4 : Int32) (x5 : Int32) (x6 : Int32) : Option ((Int32 × Int32 × Int32) ⊕ Int32) :=
  if x3 < x6 then
    some (Sum.inr x4)
  else
    let v1 : Int32 := (jmin (x5 * x1) (x2 - x4))
    let v2 : Int32 := (x4 + v1)
    some (Sum.inl (v2, v1, (x6 + 1)))
def fI_chainHad (x1 : Int32) (x2 : Int32) (x3 : Int32) : Option Int32 :=
  Option.bind (lp 1000000 (fun s => fI_chainHad_b9 x1 x2 x3 s.1 s.2.1 s.2.2) (1, 1, 1)) fun e9 =>
  let y3 : Int32 := e9
  some y3
def fI_chainFull_b2 (x1 : Int32) (x2 : Int32) (x3 : Int32) : Option (Int32 ⊕ (Int32 ⊕ Unit)) :=
  if 99 < x3 then
    some (Sum.inr (Sum.inr ()))
  else
    Option.bind (fI_chainHad x1 x2 x3) fun q2 =>
    if q2 = x2 then
      some (Sum.inr (Sum.inl x3))
    else
      some (Sum.inl (x3 + 1))
def fI_chainFull (x1 : Int32) (x2 : Int32) : Option Int32 :=
  Option.bind (lp 1000000 (fun s => fI_chainFull_b2 x1 x2 s) 0) fun e2 =>
  match e2 with
  | Sum.inl p2 =>
      let y3 : Int32 := p2
      some y3
  | Sum.inr p2 =>
      some (-1)
def fK_chain (x1 : Int32) (x2 : Int32) (x3 : Int32) (x4 : Int32) : Option Int32 :=
  let v1 : Int32 := fK_isWithin x1 1 9
  if v1 = 0 then
    some (-1)
  else
    let v2 : Int32 := fK_isWithin x2 1 9999
    if v2 = 0 then
      some (-1)
    else
      if x4 = 0 then
        let v5 : Int32 := fK_isWithin x3 0 99
        if v5 = 0 then
          some (-1)
        else
          Option.bind (fI_chainHad x1 x2 x3) fun q7 =>
          some q7
      else
        if x4 = 1 then
          Option.bind (fI_chainFull x1 x2) fun q4 =>
          some q4
        else
          some (-1)
def fK_has (x1 : Int32) (x2 : Int32) (M : Mm) : Option (Int32 × Mm) :=
  let v1 : Int32 := fK_isWithin x1 0 25
  if v1 = 0 then
    some (0, M)
  else
    let v2 : Int32 := fK_isWithin x2 0 9
    if v2 = 0 then
      some (0, M)
    else
      if inb x1 26 then
      let M3 : Mm := mput M 141 (jix x1) x2
      some (1, M3)
      else none
def fE_addSpelled (x1 : Int32) (M : Mm) : Option (Int32 × Mm) :=
  if x1 = (-1) then
    let M6 : Mm := mput M 138 5 0
    Option.bind (fJ_fill_53178 142 26 0 M6) fun M8 =>
    some (0, M8)
  else
    let v1 : Int32 := fK_isWithin x1 0 25
    if v1 = 0 then
      some ((-1), M)
    else
      if (M 138 5) < 8 then
        if inb x1 26 then
        if inb x1 26 then
        let M3 : Mm := mput M 142 (jix x1) ((M 142 (jix x1)) + 1)
        let M5 : Mm := mput M3 138 5 ((M3 138 5) + 1)
        some ((M5 138 5), M5)
        else none
        else none
      else
        some ((-1), M)
def fK_spell (x1 : Int32) (M : Mm) : Option (Int32 × Mm) :=
  Option.bind (fE_addSpelled x1 M) fun q2 =>
  some (q2.1, q2.2)
def fI_orders_b17 (x4 : Int32) (M : Mm) (x2 : Int32) (x3 : Int32) (x5 : Int32) : Option ((Int32 × Int32 × Int32) ⊕ (Int32 × Int32)) :=
  if inb x4 26 then
  if (M 142 (jix x4)) < x5 then
    some (Sum.inr (x2, x3))
  else
    if ¬ x5 = 0 then
    let v3 : Int32 := ((x2 * (x3 + 1)) / x5)
    some (Sum.inl (v3, (x3 + 1), (x5 + 1)))
    else none
  else none
def fI_orders_b7 (M : Mm) (x2 : Int32) (x3 : Int32) (x4 : Int32) : Option ((Int32 × Int32 × Int32) ⊕ Int32) :=
  if 26 ≤ x4 then
    some (Sum.inr x2)
  else
    Option.bind (lp 1000000 (fun s => fI_orders_b17 x4 M s.1 s.2.1 s.2.2) (x2, x3, 1)) fun e17 =>
    let y4 : Int32 := e17.1
    let y5 : Int32 := e17.2
    some (Sum.inl (y4, y5, (x4 + 1)))
def fI_orders (M : Mm) : Option Int32 :=
  Option.bind (lp 1000000 (fun s => fI_orders_b7 M s.1 s.2.1 s.2.2) (1, 0, 0)) fun e7 =>
  let y6 : Int32 := e7
  some y6
def fI_timesLaid_b14 (M : Mm) (x2 : Int32) (x3 : Int32) : Option ((Int32 × Int32) ⊕ Int32) :=
  if 26 ≤ x3 then
    some (Sum.inr x2)
  else
    if inb x3 26 then
    Option.bind (
      if (M 142 (jix x3)) ≤ 0 then
        some x2
      else
        if inb x3 26 then
        if inb x3 26 then
        if ¬ (M 142 (jix x3)) = 0 then
        let v5 : Int32 := (jmin x2 ((M 141 (jix x3)) / (M 142 (jix x3))))
        some v5
        else none
        else none
        else none) fun y6 =>
    some (Sum.inl (y6, (x3 + 1)))
    else none
def fI_timesLaid (M : Mm) : Option Int32 :=
  if (M 138 5) = 0 then
    some 0
  else
    Option.bind (lp 1000000 (fun s => fI_timesLaid_b14 M s.1 s.2) (2147483647, 0)) fun e14 =>
    let y7 : Int32 := e14
    some y7
def fK_lays (x1 : Int32) (M : Mm) : Option Int32 :=
  if x1 = 0 then
    Option.bind (fI_timesLaid M) fun q4 =>
    some q4
  else
    if x1 = 1 then
      Option.bind (fI_orders M) fun q2 =>
      some q2
    else
      some (-1)
def fE_addAnswer (x1 : Int32) (x2 : Int32) (M : Mm) : Option (Int32 × Mm) :=
  if x1 = (-1) then
    let M9 : Mm := mput M 138 7 0
    Option.bind (fJ_fill_53178 143 49 0 M9) fun M11 =>
    some (0, M11)
  else
    Option.bind (fK_isKind x1) fun q2 =>
    if q2 = 0 then
      some ((-1), M)
    else
      Option.bind (fK_isKind x2) fun q4 =>
      if q4 = 0 then
        some ((-1), M)
      else
        if (M 138 7) < 12 then
          if inb ((x1 * 7) + x2) 49 then
          if inb ((x1 * 7) + x2) 49 then
          let M6 : Mm := mput M 143 (jix ((x1 * 7) + x2)) ((M 143 (jix ((x1 * 7) + x2))) + 1)
          let M8 : Mm := mput M6 138 7 ((M6 138 7) + 1)
          some ((M8 138 7), M8)
          else none
          else none
        else
          some ((-1), M)
def fK_answer (x1 : Int32) (x2 : Int32) (M : Mm) : Option (Int32 × Mm) :=
  Option.bind (fE_addAnswer x1 x2 M) fun q2 =>
  some (q2.1, q2.2)
def fI_likelyAnswer_b8 (x2 : Int32) (M : Mm) (x3 : Int32) (x4 : Int32) (x5 : Int32) : Option ((Int32 × Int32 × Int32) ⊕ Int32) :=
  if 7 ≤ x5 then
    some (Sum.inr x3)
  else
    if inb ((x2 * 7) + x5) 49 then
    let v2 : Int32 := (M 143 (jix ((x2 * 7) + x5)))
    some (Sum.inl ((if v2 ≤ x4 then x3 else x5), (if v2 ≤ x4 then x4 else v2), (x5 + 1)))
    else none
def fI_likelyAnswer (x2 : Int32) (M : Mm) : Option Int32 :=
  Option.bind (lp 1000000 (fun s => fI_likelyAnswer_b8 x2 M s.1 s.2.1 s.2.2) ((-1), 0, 0)) fun e8 =>
  let y3 : Int32 := e8
  some y3
def fI_follows_b8 (M : Mm) (x3 : Int32) (x4 : Int32) (x5 : Int32) : Option ((Int32 × Int32 × Int32) ⊕ (Int32 ⊕ Int32 ⊕ Unit)) :=
  if 7 < x5 then
    some (Sum.inr (Sum.inr (Sum.inr ())))
  else
    if ((x3 >>> (x4 &&& 31)) &&& 1) = 1 then
      some (Sum.inr (Sum.inl x5))
    else
      let v1 : Int32 := (x3 ||| ((1 : Int32) <<< (x4 &&& 31)))
      Option.bind (fI_likelyAnswer x4 M) fun q3 =>
      if q3 = (-1) then
        some (Sum.inr (Sum.inr (Sum.inl x5)))
      else
        some (Sum.inl (v1, q3, (x5 + 1)))
def fI_follows (x2 : Int32) (M : Mm) : Option Int32 :=
  Option.bind (lp 1000000 (fun s => fI_follows_b8 M s.1 s.2.1 s.2.2) (0, x2, 0)) fun e8 =>
  match e8 with
  | Sum.inl p8 =>
      let y4 : Int32 := p8
      some y4
  | Sum.inr (Sum.inl p8) =>
      let y5 : Int32 := p8
      if y5 = 0 then
        some 0
      else
        some (-1)
  | Sum.inr (Sum.inr p8) =>
      some (-1)
def fK_likely (x1 : Int32) (x2 : Int32) (M : Mm) : Option Int32 :=
  Option.bind (fK_isKind x1) fun q2 =>
  if q2 = 0 then
    some (-1)
  else
    let v3 : Int32 := fK_isWithin x2 0 1
    if v3 = 0 then
      some (-1)
    else
      if x2 = 0 then
        Option.bind (fI_likelyAnswer x1 M) fun q7 =>
        some q7
      else
        Option.bind (fI_follows x1 M) fun q5 =>
        some q5
def fY_newBox_b28 (x1 : Int32) (x2 : Int32) (x4 : Int32) (x5 : Int32) (x6 : Int32) (M : Mm) (x7 : Int32) (x8 : Int32) : Option ((Int32 × Int32) ⊕ Int32) :=
  if x2 ≤ x8 then
    some (Sum.inr x7)
  else
    if inb ((x6 * 12) + x8) 144 then
    let v4 : Int32 := (jmax x7 (M 174 (jix ((x6 * 12) + x8))))
    some (Sum.inl (v4, (x8 + 1)))
    else none
def fY_newBox_b16 (x1 : Int32) (x2 : Int32) (M : Mm) (x4 : Int32) (x5 : Int32) (x6 : Int32) : Option ((Int32 × Int32 × Int32) ⊕ (Int32 × Int32)) :=
  if x2 ≤ x6 then
    some (Sum.inr (x4, x5))
  else
    Option.bind (lp 1000000 (fun s => fY_newBox_b28 x1 x2 x4 x5 x6 M s.1 s.2) (0, 0)) fun e28 =>
    let y5 : Int32 := e28
    some (Sum.inl ((if x4 ≤ y5 then x4 else y5), (if x4 ≤ y5 then x5 else x6), (x6 + 1)))
def fY_newBox (x1 : Int32) (x2 : Int32) (M : Mm) : Option (Int32 × Mm) :=
  Option.bind (fY_measure x2 M) fun M2 =>
  Option.bind (lp 1000000 (fun s => fY_newBox_b16 x1 x2 M2 s.1 s.2.1 s.2.2) (1000000, (-1), 0)) fun e16 =>
  let y6 : Int32 := e16.1
  let y7 : Int32 := e16.2
  if x1 = 0 then
    some (y7, M2)
  else
    if y7 = (-1) then
      some (y7, M2)
    else
      some (y6, M2)
def fK_box (x1 : Int32) (M : Mm) : Option (Int32 × Mm) :=
  if (M 2 0) = 0 then
    some ((-1), M)
  else
    let v1 : Int32 := fK_isWithin x1 0 1
    if v1 = 0 then
      some ((-1), M)
    else
      Option.bind (fY_newBox (if x1 = 1 then 1 else 0) (M 2 0) M) fun q3 =>
      some (q3.1, q3.2)
def fE_addChange (x1 : Int32) (x2 : Int32) (M : Mm) : Option (Int32 × Mm) :=
  if x1 = (-1) then
    let M9 : Mm := mput M 138 9 0
    some (0, M9)
  else
    let v1 : Int32 := fK_isWithin x1 0 63
    Option.bind (
      if v1 = 0 then
        some 0
      else
        let v2 : Int32 := fK_isWithin x2 (-2) 2
        if v2 = 0 then
          some 0
        else
          some 1) fun y3 =>
    if y3 = 0 then
      some ((-1), M)
    else
      if (M 138 9) < 8 then
        if inb (M 138 9) 8 then
        let M4 : Mm := mput M 144 (jix (M 138 9)) x1
        if inb (M4 138 9) 8 then
        let M6 : Mm := mput M4 145 (jix (M4 138 9)) x2
        let M8 : Mm := mput M6 138 9 ((M6 138 9) + 1)
        some ((M8 138 9), M8)
        else none
        else none
      else
        some ((-1), M)
def fK_face (x1 : Int32) (x2 : Int32) (M : Mm) : Option (Int32 × Mm) :=
  Option.bind (fE_addChange x1 x2 M) fun q2 =>
  some (q2.1, q2.2)
def fJ_fill_d0a16_b6 (a : Nat) (na : Nat) (x1 : Int64) (x4 : Int32) (x3 : Int32) (M : Mm) : Option ((Int32 × Mm) ⊕ Mm) :=
  if x4 ≤ x3 then
    some (Sum.inr M)
  else
    if inb x3 na then
    let M2 : Mm := mpl M a (jix x3) x1
    some (Sum.inl ((x3 + 1), M2))
    else none
def fJ_fill_d0a16 (a : Nat) (na : Nat) (x1 : Int64) (M : Mm) : Option Mm :=
  let v1 : Int32 := (nI na)
  Option.bind (lp 1000000 (fun s => fJ_fill_d0a16_b6 a na x1 v1 s.1 s.2) (0, M)) fun e6 =>
  let M4 : Mm := e6
  some M4
def fJ_bitCount_0f7a4 (x0 : Int32) : Int32 :=
  let v1 : Int32 := (x0 - ((jushr x0 1) &&& 1431655765))
  let v2 : Int32 := ((v1 &&& 858993459) + ((jushr v1 2) &&& 858993459))
  let v3 : Int32 := ((v2 + (jushr v2 4)) &&& 252645135)
  let v4 : Int32 := (v3 + (jushr v3 8))
  let v5 : Int32 := (v4 + (jushr v4 16))
  (v5 &&& 63)
def fI_waysFrom_b24 (F : Int32 → Int64 → Mm → Option (Int32 × Mm)) (x1 : Int32) (x2 : Int64) (x4 : Int32) (x5 : Int32) (M : Mm) : Option ((Int32 × Int32 × Mm) ⊕ (Int32 × Mm)) :=
  if 4 ≤ x5 then
    some (Sum.inr (x4, M))
  else
    if inb x1 6 then
    Option.bind (F (x1 + 1) (x2 - ((Int32.toInt64 x5) * (mgl M 171 (jix x1)))) M) fun q3 =>
    Option.bind (
      if q3.1 ≤ 0 then
        some (x4, q3.2)
      else
        if inb x1 6 then
        if inb x1 6 then
        let M5 : Mm := mput q3.2 172 (jix x1) ((q3.2 172 (jix x1)) ||| ((1 : Int32) <<< (x5 &&& 31)))
        if inb x5 4 then
        let v8 : Int32 := (x4 + (q3.1 * (fC1 (jix x5))))
        some (v8, M5)
        else none
        else none
        else none) fun t86 =>
    let y9 : Int32 := t86.1
    let M10 : Mm := t86.2
    some (Sum.inl (y9, (x5 + 1), M10))
    else none
def fI_waysFrom_r (F : Int32 → Int64 → Mm → Option (Int32 × Mm)) (x1 : Int32) (x2 : Int64) (M : Mm) : Option (Int32 × Mm) :=
  if x1 < 6 then
    Option.bind (lp 1000000 (fun s => fI_waysFrom_b24 F x1 x2 s.1 s.2.1 s.2.2) (0, 0, M)) fun e24 =>
    let y11 : Int32 := e24.1
    let M12 : Mm := e24.2
    some (y11, M12)
  else
    if (lg_cmp x2 0) = 0 then
      some (1, M)
    else
      some (0, M)
def fI_waysFrom : Nat → Int32 → Int64 → Mm → Option (Int32 × Mm)
  | 0 => fun _ _ _ => none
  | n + 1 => fun x1 x2 M => fI_waysFrom_r (fI_waysFrom n) x1 x2 M
def fI_waysOfFaces_b82 (x2 : Int64) (x4 : Int32) (x5 : Int32) (x7 : Int64) (x9 : Int32) (M : Mm) : Option ((Int32 × Mm) ⊕ Mm) :=
  if 6 ≤ x9 then
    some (Sum.inr M)
  else
    if inb x9 6 then
    if inb x9 6 then
    let M13 : Mm := mpl M 171 (jix x9) ((mgl M 171 (jix x9)) + (x7 * (Int32.toInt64 ((x5 >>> (x9 &&& 31)) &&& 1))))
    some (Sum.inl ((x9 + 1), M13))
    else none
    else none
def fI_waysOfFaces_b21 (x2 : Int64) (x4 : Int32) (M : Mm) : Option ((Int64 × Int32 × Mm) ⊕ (Mm ⊕ (Int64 × Mm))) :=
  if (M 138 9) ≤ x4 then
    some (Sum.inr (Sum.inr (x2, M)))
  else
    if inb x4 8 then
    let v6 : Int32 := (M 144 (jix x4))
    if inb x4 8 then
    let v8 : Int32 := fJ_bitCount_0f7a4 v6
    let v9 : Int32 := ((M 145 (jix x4)) + v8)
    if 0 ≤ v9 then
      let v10 : Int64 := (1 <<< (Int32.toInt64 (6 * x4) &&& 63))
      let v11 : Int64 := (x2 + ((Int32.toInt64 v9) * v10))
      Option.bind (lp 1000000 (fun s => fI_waysOfFaces_b82 v11 x4 v6 v10 s.1 s.2) (0, M)) fun e82 =>
      let M15 : Mm := e82
      some (Sum.inl (v11, (x4 + 1), M15))
    else
      some (Sum.inr (Sum.inl M))
    else none
    else none
def fI_waysOfFaces (M : Mm) : Option (Int32 × Mm) :=
  Option.bind (fJ_fill_53178 172 6 0 M) fun M2 =>
  Option.bind (fJ_fill_d0a16 171 6 0 M2) fun M4 =>
  Option.bind (lp 1000000 (fun s => fI_waysOfFaces_b21 s.1 s.2.1 s.2.2) (0, 0, M4)) fun e21 =>
  match e21 with
  | Sum.inl p21 =>
      let M16 : Mm := p21
      some (0, M16)
  | Sum.inr p21 =>
      let y17 : Int64 := p21.1
      let M18 : Mm := p21.2
      Option.bind (fI_waysFrom 8 0 y17 M18) fun q20 =>
      some (q20.1, q20.2)
def fI_sureLetters_b10 (M : Mm) (x2 : Int32) (x3 : Int32) : Option ((Int32 × Int32) ⊕ Int32) :=
  if 6 ≤ x3 then
    some (Sum.inr x2)
  else
    if inb x3 6 then
    let v4 : Int32 := fJ_bitCount_0f7a4 (M 172 (jix x3))
    Option.bind (
      if v4 = 1 then
        let v5 : Int32 := (x2 ||| ((1 : Int32) <<< (x3 &&& 31)))
        some v5
      else
        some x2) fun y6 =>
    some (Sum.inl (y6, (x3 + 1)))
    else none
def fI_sureLetters (M : Mm) : Option (Int32 × Mm) :=
  Option.bind (fI_waysOfFaces M) fun q2 =>
  Option.bind (lp 1000000 (fun s => fI_sureLetters_b10 q2.2 s.1 s.2) (0, 0)) fun e10 =>
  let y7 : Int32 := e10
  some (y7, q2.2)
def fK_faces (x1 : Int32) (M : Mm) : Option (Int32 × Mm) :=
  if x1 = 0 then
    Option.bind (fI_waysOfFaces M) fun q4 =>
    some (q4.1, q4.2)
  else
    if x1 = 1 then
      Option.bind (fI_sureLetters M) fun q2 =>
      some (q2.1, q2.2)
    else
      some ((-1), M)
def fY_joyOfRow_b25 (x1 : Int32) (x5 : Int32) (M : Mm) (x3 : Int32) (x4 : Int32) (x6 : Int32) (x7 : Int32) : Option ((Int32 × Int32 × Int32 × Int32) ⊕ (Int32 × Int32)) :=
  if (M 2 0) ≤ x7 then
    some (Sum.inr (x3, x4))
  else
    if inb x7 12 then
    let v2 : Int32 := (x6 + (M 3 (jix x7)))
    some (Sum.inl ((if v2 ≤ x3 then x3 else v2), (if v2 ≤ x3 then x4 else x5), v2, (x7 + 1)))
    else none
def fY_joyOfRow_b9 (x1 : Int32) (M : Mm) (x3 : Int32) (x4 : Int32) (x5 : Int32) : Option ((Int32 × Int32 × Int32) ⊕ (Int32 × Int32)) :=
  if (M 2 0) ≤ x5 then
    some (Sum.inr (x3, x4))
  else
    Option.bind (lp 1000000 (fun s => fY_joyOfRow_b25 x1 x5 M s.1 s.2.1 s.2.2.1 s.2.2.2) (x3, x4, 0, x5)) fun e25 =>
    let y3 : Int32 := e25.1
    let y4 : Int32 := e25.2
    some (Sum.inl (y3, y4, (x5 + 1)))
def fY_joyOfRow (x1 : Int32) (M : Mm) : Option Int32 :=
  Option.bind (lp 1000000 (fun s => fY_joyOfRow_b9 x1 M s.1 s.2.1 s.2.2) ((-2147483648), (-1), 0)) fun e9 =>
  let y5 : Int32 := e9.1
  let y6 : Int32 := e9.2
  if x1 = 0 then
    some y5
  else
    some y6
def fK_joy (x1 : Int32) (M : Mm) : Option Int32 :=
  if (M 2 0) = 0 then
    some (-100)
  else
    let v1 : Int32 := fK_isWithin x1 0 1
    if v1 = 0 then
      some (-100)
    else
      Option.bind (fY_joyOfRow (if x1 = 1 then 1 else 0) M) fun q3 =>
      some q3
def fY_goodMove_b5 (x1 : Int32) (x3 : Int32) (x4 : Int32) (M : Mm) : Option ((Int32 × Int32 × Mm) ⊕ (Int32 × Mm)) :=
  if (M 2 0) ≤ x4 then
    some (Sum.inr (x3, M))
  else
    Option.bind (fB_countFor 8 x4 M) fun q2 =>
    if inb x4 12 then
    let M3 : Mm := mput M 176 (jix x4) q2
    if inb x4 12 then
    let v6 : Int32 := (x3 ^^^ (jrem (M3 176 (jix x4)) 3))
    some (Sum.inl (v6, (x4 + 1), M3))
    else none
    else none
def fY_goodMove_b69 (x1 : Int32) (x3 : Int32) (x4 : Int32) (M : Mm) (x5 : Int32) : Option (Int32 ⊕ (Int32 ⊕ Unit)) :=
  if inb x4 12 then
  if (jmin 2 (M 176 (jix x4))) < x5 then
    some (Sum.inr (Sum.inr ()))
  else
    if inb x4 12 then
    if inb x4 12 then
    if ((x3 ^^^ (jrem (M 176 (jix x4)) 3)) ^^^ (jrem ((M 176 (jix x4)) - x5) 3)) = 0 then
      some (Sum.inr (Sum.inl x5))
    else
      some (Sum.inl (x5 + 1))
    else none
    else none
  else none
def fY_goodMove_b54 (x1 : Int32) (x3 : Int32) (M : Mm) (x4 : Int32) : Option (Int32 ⊕ ((Int32 × Int32) ⊕ Unit)) :=
  if (M 2 0) ≤ x4 then
    some (Sum.inr (Sum.inr ()))
  else
    Option.bind (lp 1000000 (fun s => fY_goodMove_b69 x1 x3 x4 M s) 1) fun e69 =>
    match e69 with
    | Sum.inl p69 =>
        let y12 : Int32 := p69
        some (Sum.inr (Sum.inl (x4, y12)))
    | Sum.inr p69 =>
        some (Sum.inl (x4 + 1))
def fY_goodMove (x1 : Int32) (M : Mm) : Option (Int32 × Mm) :=
  Option.bind (lp 1000000 (fun s => fY_goodMove_b5 x1 s.1 s.2.1 s.2.2) (0, 0, M)) fun e5 =>
  let y7 : Int32 := e5.1
  let M8 : Mm := e5.2
  Option.bind (lp 1000000 (fun s => fY_goodMove_b54 x1 y7 M8 s) 0) fun e54 =>
  match e54 with
  | Sum.inl p54 =>
      let y13 : Int32 := p54.1
      let y14 : Int32 := p54.2
      if x1 = 0 then
        some (y13, M8)
      else
        some (y14, M8)
  | Sum.inr p54 =>
      some ((-1), M8)
def fK_game (x1 : Int32) (M : Mm) : Option (Int32 × Mm) :=
  let v1 : Int32 := fK_isWithin x1 0 1
  if v1 = 0 then
    some ((-1), M)
  else
    Option.bind (fY_goodMove (if x1 = 1 then 1 else 0) M) fun q3 =>
    some (q3.1, q3.2)
def fP_goBack (M : Mm) : Option (Int32 × Mm) :=
  if (M 31 0) = 0 then
    some (0, M)
  else
    if inb (M 31 1) 6 then
    Option.bind (fW_copyFrom 1 (33 + 15 * jix (M 31 1)) M) fun M3 =>
    let M4 : Mm := mput M3 31 1 (jrem (((M3 31 1) + 6) - 1) 6)
    let M5 : Mm := mput M4 31 0 ((M4 31 0) - 1)
    some (1, M5)
    else none
def fK_undo (M : Mm) : Option (Int32 × Mm) :=
  Option.bind (fP_goBack M) fun q2 =>
  if q2.1 = 0 ∨ q2.1 = 1 then
  some (q2.1, q2.2)
  else none
def fT_copyFrom_b2 (w : Nat) (v : Nat) (x2 : Int32) (M : Mm) : Option ((Int32 × Mm) ⊕ Mm) :=
  if 4 ≤ x2 then
    some (Sum.inr M)
  else
    let M1 : Mm := fT_copyOne w v x2 M
    some (Sum.inl ((x2 + 1), M1))
def fT_copyFrom (w : Nat) (v : Nat) (M : Mm) : Option Mm :=
  Option.bind (lp 1000000 (fun s => fT_copyFrom_b2 w v s.1 s.2) (0, M)) fun e2 =>
  let M2 : Mm := e2
  some M2
def fE_copyFrom (w : Nat) (v : Nat) (M : Mm) : Mm :=
  let M1 : Mm := mput M w 0 (M v 0)
  let M2 : Mm := mcp M1 (v + 1) (w + 1) 0 0 8
  let M3 : Mm := mput M2 w 2 (M2 v 2)
  let M4 : Mm := mcp M3 (v + 2) (w + 2) 0 0 12
  let M5 : Mm := mcp M4 (v + 3) (w + 3) 0 0 26
  let M6 : Mm := mput M5 w 5 (M5 v 5)
  let M7 : Mm := mcp M6 (v + 4) (w + 4) 0 0 26
  let M8 : Mm := mput M7 w 7 (M7 v 7)
  let M9 : Mm := mcp M8 (v + 5) (w + 5) 0 0 49
  let M10 : Mm := mput M9 w 9 (M9 v 9)
  let M11 : Mm := mcp M10 (v + 6) (w + 6) 0 0 8
  let M12 : Mm := mcp M11 (v + 7) (w + 7) 0 0 8
  M12
def fK_image (x1 : Int32) (M : Mm) : Option (Int32 × Mm) :=
  if x1 = 0 then
    if (M 0 14) = 0 then
      if (M 0 14) = 0 ∨ (M 0 14) = 1 then
      some ((M 0 14), M)
      else none
    else
      Option.bind (fW_copyFrom 1 179 M) fun M3 =>
      Option.bind (fT_copyFrom 123 194 M3) fun M5 =>
      let M6 : Mm := fE_copyFrom 138 209 M5
      let M7 : Mm := fP_forget M6
      if (M7 0 14) = 0 ∨ (M7 0 14) = 1 then
      some ((M7 0 14), M7)
      else none
  else
    Option.bind (fW_copyFrom 179 1 M) fun M10 =>
    Option.bind (fT_copyFrom 194 123 M10) fun M12 =>
    let M13 : Mm := fE_copyFrom 209 138 M12
    let M14 : Mm := mput M13 0 14 1
    if (M14 0 14) = 0 ∨ (M14 0 14) = 1 then
    some ((M14 0 14), M14)
    else none
def fK_look (x1 : Int32) (M : Mm) : Int32 :=
  if x1 = 0 then
    (M 2 0)
  else if x1 = 1 then
    (M 8 0)
  else if x1 = 2 then
    (M 1 5)
  else if x1 = 3 then
    (M 1 6)
  else if x1 = 4 then
    (M 1 7)
  else if x1 = 5 then
    (M 1 8)
  else if x1 = 6 then
    (M 1 9)
  else if x1 = 7 then
    (M 1 10)
  else if x1 = 8 then
    (M 1 11)
  else if x1 = 9 then
    (M 1 4)
  else if x1 = 10 then
    (M 1 12)
  else if x1 = 11 then
    let v1 : Int32 := fT_linesOf 0 M
    v1
  else if x1 = 12 then
    let v2 : Int32 := fT_linesOf 1 M
    v2
  else if x1 = 13 then
    let v3 : Int32 := fT_linesOf 2 M
    v3
  else if x1 = 14 then
    let v4 : Int32 := fT_linesOf 3 M
    v4
  else if x1 = 15 then
    (M 31 0)
  else 
    (-1)
def fM_isIn (x1 : Int32) (x2 : Int32) (x3 : Int32) : Int32 :=
  if x1 < x2 then
    0
  else
    if x3 < x1 then
      0
    else
      1
def fM_held (x1 : Int32) (x2 : Int32) (x3 : Int32) : Int32 :=
  if x2 ≤ x1 then
    if x1 ≤ x3 then
      x1
    else
      x3
  else
    x2
def fM_greater (x1 : Int32) (x2 : Int32) : Int32 :=
  if x1 ≤ x2 then
    x2
  else
    x1
def fM_lesser (x1 : Int32) (x2 : Int32) : Int32 :=
  if x2 ≤ x1 then
    x2
  else
    x1
def fM_added (x1 : Int32) (x2 : Int32) : Int32 :=
  if x1 < (1000000007 - x2) then
    (x1 + x2)
  else
    (x1 - (1000000007 - x2))
def fM_onesOf_b4 (x2 : Int32) (x3 : Int32) : Option ((Int32 × Int32) ⊕ Int32) :=
  if x3 = 0 then
    some (Sum.inr x2)
  else
    let v1 : Int32 := (x2 + 1)
    let v2 : Int32 := (x3 &&& (x3 - 1))
    some (Sum.inl (v1, v2))
def fM_onesOf (x1 : Int32) : Option Int32 :=
  Option.bind (lp 1000000 (fun s => fM_onesOf_b4 s.1 s.2) (0, x1)) fun e4 =>
  let y3 : Int32 := e4
  some y3
def fM_lies (x1 : Int32) (x2 : Int32) : Int32 :=
  if ((x1 >>> (x2 &&& 31)) &&& 1) = 1 then
    1
  else
    0
def fM_keepsAhead_b21 (x1 : Int32) (M : Mm) : Option ((Int32 × Mm) ⊕ Mm) :=
  if (174 * (M 217 3)) ≤ x1 then
    some (Sum.inr M)
  else
    if inb (x1 + 174) 1044 then
    if inb x1 1044 then
    let M3 : Mm := mput M 219 (jix x1) (M 219 (jix (x1 + 174)))
    some (Sum.inl ((x1 + 1), M3))
    else none
    else none
def fM_keepsAhead_b57 (x1 : Int32) (M : Mm) : Option ((Int32 × Mm) ⊕ Mm) :=
  if 174 ≤ x1 then
    some (Sum.inr M)
  else
    if inb x1 174 then
    if inb ((174 * (M 217 3)) + x1) 1044 then
    let M8 : Mm := mput M 219 (jix ((174 * (M 217 3)) + x1)) (M 218 (jix x1))
    some (Sum.inl ((x1 + 1), M8))
    else none
    else none
def fM_keepsAhead (M : Mm) : Option Mm :=
  Option.bind (
    if (M 217 3) = 6 then
      let M1 : Mm := mput M 217 3 ((M 217 3) - 1)
      Option.bind (lp 1000000 (fun s => fM_keepsAhead_b21 s.1 s.2) (0, M1)) fun e21 =>
      let M5 : Mm := e21
      some M5
    else
      some M) fun M6 =>
  Option.bind (lp 1000000 (fun s => fM_keepsAhead_b57 s.1 s.2) (0, M6)) fun e57 =>
  let M10 : Mm := e57
  let M11 : Mm := mput M10 217 3 ((M10 217 3) + 1)
  some M11
def fM_undo_b26 (x1 : Int32) (M : Mm) : Option ((Int32 × Mm) ⊕ Mm) :=
  if 174 ≤ x1 then
    some (Sum.inr M)
  else
    if inb ((174 * (M 217 3)) + x1) 1044 then
    if inb x1 174 then
    let M4 : Mm := mput M 218 (jix x1) (M 219 (jix ((174 * (M 217 3)) + x1)))
    some (Sum.inl ((x1 + 1), M4))
    else none
    else none
def fM_undo (M : Mm) : Option (Int32 × Mm) :=
  let M1 : Mm := mput M 217 0 0
  if (M1 217 3) = 0 then
    some (0, M1)
  else
    let M2 : Mm := mput M1 217 3 ((M1 217 3) - 1)
    Option.bind (lp 1000000 (fun s => fM_undo_b26 s.1 s.2) (0, M2)) fun e26 =>
    let M6 : Mm := e26
    some (1, M6)
def fM_thinks_b2 (x1 : Int32) (M : Mm) : Option ((Int32 × Mm) ⊕ Mm) :=
  if 174 ≤ x1 then
    some (Sum.inr M)
  else
    if inb x1 174 then
    if inb x1 174 then
    let M2 : Mm := mput M 220 (jix x1) (M 218 (jix x1))
    some (Sum.inl ((x1 + 1), M2))
    else none
    else none
def fM_thinks (M : Mm) : Option Mm :=
  Option.bind (lp 1000000 (fun s => fM_thinks_b2 s.1 s.2) (0, M)) fun e2 =>
  let M4 : Mm := e2
  let M5 : Mm := mput M4 217 5 1
  some M5
def fM_endsThought_b2 (x1 : Int32) (M : Mm) : Option ((Int32 × Mm) ⊕ Mm) :=
  if 174 ≤ x1 then
    some (Sum.inr M)
  else
    if inb x1 174 then
    if inb x1 174 then
    let M2 : Mm := mput M 218 (jix x1) (M 220 (jix x1))
    some (Sum.inl ((x1 + 1), M2))
    else none
    else none
def fM_endsThought (M : Mm) : Option Mm :=
  Option.bind (lp 1000000 (fun s => fM_endsThought_b2 s.1 s.2) (0, M)) fun e2 =>
  let M4 : Mm := e2
  let M5 : Mm := mput M4 217 5 0
  some M5
def fM_state (x1 : Int32) (M : Mm) : (Int32 × Mm) :=
  let M1 : Mm := mput M 217 0 0
  let v2 : Int32 := (M1 218 1)
  let M3 : Mm := mput M1 218 1 x1
  let M4 : Mm := mput M3 217 3 0
  (v2, M4)
def fM_draw (x1 : Int32) (M : Mm) : Option (Int32 × Mm) :=
  let M1 : Mm := mput M 218 1 ((1664525 * (M 218 1)) + 1013904223)
  if ¬ x1 = 0 then
  some ((jrem (jushr (M1 218 1) 8) x1), M1)
  else none
def fM_isDoor (x1 : Int32) (M : Mm) : Int32 :=
  if x1 < 0 then
    0
  else
    if (M 217 6) ≤ x1 then
      0
    else
      1
def fM_health (M : Mm) : Int32 :=
  (99 - (M 218 4))
def fM_hasHealth (x1 : Int32) (M : Mm) : Mm :=
  let v1 : Int32 := fM_held x1 0 99
  let M2 : Mm := mput M 218 4 (99 - v1)
  M2
def fM_letterAt (x1 : Int32) : Int32 :=
  (54 + (5 * x1))
def fM_doorOf (x1 : Int32) (M : Mm) : Option Int32 :=
  let v1 : Int32 := fM_letterAt x1
  if inb (v1 + 1) 174 then
  some (M 218 (jix (v1 + 1)))
  else none
def fM_lettersFor_b4 (x1 : Int32) (M : Mm) (x2 : Int32) (x3 : Int32) : Option ((Int32 × Int32) ⊕ Int32) :=
  if (M 218 10) ≤ x3 then
    some (Sum.inr x2)
  else
    Option.bind (fM_doorOf x3 M) fun q2 =>
    Option.bind (
      if q2 = x1 then
        let v3 : Int32 := (x2 + 1)
        some v3
      else
        some x2) fun y4 =>
    some (Sum.inl (y4, (x3 + 1)))
def fM_lettersFor (x1 : Int32) (M : Mm) : Option Int32 :=
  Option.bind (lp 1000000 (fun s => fM_lettersFor_b4 x1 M s.1 s.2) (0, 0)) fun e4 =>
  let y5 : Int32 := e4
  some y5
def fM_door (x1 : Int32) (x2 : Int32) (x3 : Int32) (M : Mm) : Option (Int32 × Mm) :=
  let M1 : Mm := mput M 217 0 0
  let v2 : Int32 := fM_isIn x1 (-9) 9
  if v2 = 0 then
    some ((-1), M1)
  else
    let v3 : Int32 := fM_isIn x2 0 9
    if v3 = 0 then
      some ((-1), M1)
    else
      let v4 : Int32 := fM_isIn x3 0 999
      if v4 = 0 then
        some ((-1), M1)
      else
        if (M1 217 6) = 12 then
          some ((-1), M1)
        else
          if inb (18 + (M1 217 6)) 174 then
          let M5 : Mm := mput M1 218 (jix (18 + (M1 217 6))) x1
          if inb (30 + (M5 217 6)) 174 then
          let M7 : Mm := mput M5 218 (jix (30 + (M5 217 6))) x3
          if inb (42 + (M7 217 6)) 174 then
          let M9 : Mm := mput M7 218 (jix (42 + (M7 217 6))) 0
          if inb (M9 217 6) 12 then
          let M11 : Mm := mput M9 221 (jix (M9 217 6)) x2
          let M13 : Mm := mput M11 217 6 ((M11 217 6) + 1)
          let M14 : Mm := mput M13 217 3 0
          some (((M14 217 6) - 1), M14)
          else none
          else none
          else none
          else none
def fM_canSet_j40 (z1 : Int32) (z2 : Int32) (z3 : Int32) (M : Mm) : Option Int32 :=
  let v2 : Int32 := fM_isDoor z2 M
  if v2 = 0 then
    some 0
  else
    let v3 : Int32 := fM_isIn z3 0 (if z1 = 1 then 9 else 999)
    if v3 = 0 then
      some 0
    else
      some 1
def fM_canSet_j86 (z3 : Int32) (M : Mm) : Option Int32 :=
  let v1 : Int32 := fM_isIn z3 0 99
  if v1 = 0 then
    some 0
  else
    some 1
def fM_canSet (x1 : Int32) (x2 : Int32) (x3 : Int32) (M : Mm) : Option Int32 :=
  if x1 = 0 then
    let v4 : Int32 := fM_isDoor x2 M
    if v4 = 0 then
      some 0
    else
      let v5 : Int32 := fM_isIn x3 (-9) 9
      if v5 = 0 then
        some 0
      else
        some 1
  else
    if x1 = 1 then
      fM_canSet_j40 x1 x2 x3 M
    else
      if x1 = 2 then
        fM_canSet_j40 x1 x2 x3 M
      else
        if x1 = 3 then
          fM_canSet_j86 x3 M
        else
          if x1 = 4 then
            fM_canSet_j86 x3 M
          else
            some 0
def fM_set (x1 : Int32) (x2 : Int32) (x3 : Int32) (M : Mm) : Option (Int32 × Mm) :=
  let M1 : Mm := mput M 217 0 0
  Option.bind (fM_canSet x1 x2 x3 M1) fun q3 =>
  if q3 = 0 then
    some (0, M1)
  else
    Option.bind (
      if x1 = 0 then
        if inb (18 + x2) 174 then
        let M4 : Mm := mput M1 218 (jix (18 + x2)) x3
        some M4
        else none
      else
        some M1) fun M6 =>
    Option.bind (
      if x1 = 1 then
        if inb x2 12 then
        let M7 : Mm := mput M6 221 (jix x2) x3
        some M7
        else none
      else
        some M6) fun M9 =>
    Option.bind (
      if x1 = 2 then
        if inb (30 + x2) 174 then
        let M10 : Mm := mput M9 218 (jix (30 + x2)) x3
        some M10
        else none
      else
        some M9) fun M12 =>
    Option.bind (
      if x1 = 3 then
        let M13 : Mm := fM_hasHealth x3 M12
        some M13
      else
        some M12) fun M14 =>
    Option.bind (
      if x1 = 4 then
        let M15 : Mm := mput M14 218 5 x3
        some M15
      else
        some M14) fun M16 =>
    let M17 : Mm := mput M16 217 3 0
    some (1, M17)
def fM_types_b3 (x1 : Int32) (x2 : Int32) (M : Mm) : Option ((Int32 × Mm) ⊕ Mm) :=
  if x2 < 0 then
    some (Sum.inr M)
  else
    if inb (M 217 10) 400 then
    let M1 : Mm := mput M 223 (jix (M 217 10)) ((x1 >>> (x2 &&& 31)) &&& 255)
    let M3 : Mm := mput M1 217 10 ((M1 217 10) + 1)
    some (Sum.inl ((x2 + (-8)), M3))
    else none
def fM_types (x1 : Int32) (M : Mm) : Option Mm :=
  Option.bind (lp 1000000 (fun s => fM_types_b3 x1 s.1 s.2) (24, M)) fun e3 =>
  let M4 : Mm := e3
  some M4
def fM_feed (x1 : Int32) (x2 : Int32) (x3 : Int32) (x4 : Int32) (x5 : Int32) (M : Mm) : Option (Int32 × Mm) :=
  let M1 : Mm := mput M 217 0 0
  if (M1 217 10) ≤ 380 then
    Option.bind (fM_types x1 M1) fun M3 =>
    Option.bind (fM_types x2 M3) fun M5 =>
    Option.bind (fM_types x3 M5) fun M7 =>
    Option.bind (fM_types x4 M7) fun M9 =>
    Option.bind (fM_types x5 M9) fun M11 =>
    some ((M11 217 10), M11)
  else
    some ((-1), M1)
def fM_end (x1 : Int32) (M : Mm) : (Int32 × Mm) :=
  let M1 : Mm := mput M 217 0 0
  let v2 : Int32 := fM_isIn x1 0 (M1 217 10)
  if v2 = 0 then
    (0, M1)
  else
    let M3 : Mm := mput M1 217 10 x1
    (1, M3)
def fM_raw (x1 : Int32) (M : Mm) : Option Int32 :=
  if (M 217 10) ≤ x1 then
    some (-1)
  else
    if inb x1 400 then
    some (M 223 (jix x1))
    else none
def fM_isLetter (x1 : Int32) : Int32 :=
  let v1 : Int32 := fM_isIn x1 97 122
  if v1 = 0 then
    let v2 : Int32 := fM_isIn x1 65 90
    if v2 = 0 then
      0
    else
      1
  else
    1
def fM_isDigit (x1 : Int32) : Option Int32 :=
  let v1 : Int32 := fM_isIn x1 48 57
  if v1 = 0 ∨ v1 = 1 then
  some v1
  else none
def fM_isMarkSign (x1 : Int32) : Int32 :=
  if x1 = 59 then
    1
  else
    if x1 = 43 then
      1
    else
      if x1 = 45 then
        1
      else
        if x1 = 42 then
          1
        else
          if x1 = 47 then
            1
          else
            if x1 = 40 then
              1
            else
              if x1 = 41 then
                1
              else
                if x1 = 60 then
                  1
                else
                  if x1 = 61 then
                    1
                  else
                    if x1 = 62 then
                      1
                    else
                      0
def fM_wordAt_b20 (x1 : Int32) (x2 : Int32) (x3 : Int32) (x4 : Int32) (M : Mm) (x5 : Int32) : Option (Int32 ⊕ Int32) :=
  if x2 ≤ (x1 + x5) then
    some (Sum.inr x5)
  else
    if inb ((x4 + 1) + x5) 153 then
    if inb (x1 + x5) 400 then
    if (M 224 (jix ((x4 + 1) + x5))) = (M 223 (jix (x1 + x5))) then
      let v4 : Int32 := (x5 + 1)
      some (Sum.inl v4)
    else
      some (Sum.inr x5)
    else none
    else none
def fM_wordAt_b94 (x1 : Int32) (x2 : Int32) (x3 : Int32) (M : Mm) (x4 : Int32) : Option (Int32 ⊕ Int32) :=
  if inb x4 153 then
  if (M 224 (jix x4)) = 32 then
    some (Sum.inr x4)
  else
    let v9 : Int32 := (x4 + 1)
    some (Sum.inl v9)
  else none
def fM_wordAt_j88 (z1 : Int32) (z2 : Int32) (z3 : Int32) (z4 : Int32) (M : Mm) : Option ((Int32 × Int32) ⊕ (Int32 ⊕ Unit)) :=
  let v7 : Int32 := (z4 + 1)
  Option.bind (lp 1000000 (fun s => fM_wordAt_b94 z1 z2 z3 M s) v7) fun e94 =>
  let y10 : Int32 := e94
  some (Sum.inl (z3, y10))
def fM_wordAt_b5 (x1 : Int32) (x2 : Int32) (M : Mm) (x3 : Int32) (x4 : Int32) : Option ((Int32 × Int32) ⊕ (Int32 ⊕ Unit)) :=
  if 152 ≤ x4 then
    some (Sum.inr (Sum.inr ()))
  else
    let v1 : Int32 := (x3 + 1)
    Option.bind (lp 1000000 (fun s => fM_wordAt_b20 x1 x2 v1 x4 M s) 0) fun e20 =>
    let y5 : Int32 := e20
    if (x1 + y5) = x2 then
      if inb ((x4 + 1) + y5) 153 then
      if (M 224 (jix ((x4 + 1) + y5))) = 32 then
        some (Sum.inr (Sum.inl v1))
      else
        fM_wordAt_j88 x1 x2 v1 x4 M
      else none
    else
      fM_wordAt_j88 x1 x2 v1 x4 M
def fM_wordAt (x1 : Int32) (x2 : Int32) (M : Mm) : Option Int32 :=
  Option.bind (lp 1000000 (fun s => fM_wordAt_b5 x1 x2 M s.1 s.2) ((-1), 0)) fun e5 =>
  match e5 with
  | Sum.inl p5 =>
      let y11 : Int32 := p5
      some y11
  | Sum.inr p5 =>
      some (-1)
def fM_reads_j26 (M : Mm) : Option (Mm ⊕ Mm) :=
  let M5 : Mm := mput M 217 11 ((M 217 11) + 1)
  some (Sum.inl M5)
def fM_reads_b0 (M : Mm) : Option (Mm ⊕ Mm) :=
  Option.bind (fM_raw (M 217 11) M) fun q2 =>
  if q2 = 32 then
    fM_reads_j26 M
  else
    Option.bind (fM_raw (M 217 11) M) fun q4 =>
    if q4 = 10 then
      fM_reads_j26 M
    else
      some (Sum.inr M)
def fM_reads_b171 (M : Mm) : Option (Mm ⊕ Mm) :=
  Option.bind (fM_raw (M 217 11) M) fun q20 =>
  Option.bind (fM_isDigit q20) fun q22 =>
  if q22 = 0 then
    some (Sum.inr M)
  else
    Option.bind (
      if 10000 ≤ (M 217 14) then
        some (M 217 14)
      else
        Option.bind (fM_raw (M 217 11) M) fun q24 =>
        some (((10 * (M 217 14)) + q24) - 48)) fun y25 =>
    let M26 : Mm := mput M 217 14 y25
    let M27 : Mm := mput M26 217 11 ((M26 217 11) + 1)
    some (Sum.inl M27)
def fM_reads_b95 (M : Mm) : Option (Mm ⊕ Mm) :=
  Option.bind (fM_raw (M 217 11) M) fun q31 =>
  let v32 : Int32 := fM_isLetter q31
  if v32 = 0 then
    some (Sum.inr M)
  else
    let M33 : Mm := mput M 217 11 ((M 217 11) + 1)
    some (Sum.inl M33)
def fM_reads (M : Mm) : Option Mm :=
  Option.bind (lp 1000000 (fun s => fM_reads_b0 s) M) fun e0 =>
  let M6 : Mm := e0
  let M7 : Mm := mput M6 217 12 (M6 217 11)
  let M8 : Mm := mput M7 217 13 1
  Option.bind (fM_raw (M8 217 11) M8) fun q10 =>
  if q10 = (-1) then
    let M39 : Mm := mput M8 217 13 0
    some M39
  else
    let M11 : Mm := mput M8 217 11 ((M8 217 11) + 1)
    let M12 : Mm := mput M11 217 14 q10
    let v13 : Int32 := fM_isLetter q10
    if v13 = 0 then
      Option.bind (fM_isDigit q10) fun q15 =>
      if q15 = 0 then
        let v16 : Int32 := fM_isMarkSign q10
        if v16 = 0 then
          some M12
        else
          let M17 : Mm := mput M12 217 13 4
          some M17
      else
        let M18 : Mm := mput M12 217 14 (q10 - 48)
        Option.bind (lp 1000000 (fun s => fM_reads_b171 s) M18) fun e171 =>
        let M28 : Mm := e171
        if 5 ≤ ((M28 217 11) - (M28 217 12)) then
          some M28
        else
          let M29 : Mm := mput M28 217 13 3
          some M29
    else
      Option.bind (lp 1000000 (fun s => fM_reads_b95 s) M12) fun e95 =>
      let M34 : Mm := e95
      Option.bind (fM_wordAt (M34 217 12) (M34 217 11) M34) fun q36 =>
      let M37 : Mm := mput M34 217 14 q36
      if (M37 217 14) = (-1) then
        some M37
      else
        let M38 : Mm := mput M37 217 13 2
        some M38
def fM_errs (x1 : Int32) (M : Mm) : (Int32 × Mm) :=
  let M1 : Mm := mput M 217 28 x1
  let M2 : Mm := mput M1 217 29 (M1 217 12)
  ((-1), M2)
def fM_isWord (x1 : Int32) (M : Mm) : Int32 :=
  if (M 217 13) = 2 then
    if (M 217 14) = x1 then
      1
    else
      0
  else
    0
def fM_isSign (x1 : Int32) (M : Mm) : Int32 :=
  if (M 217 13) = 4 then
    if (M 217 14) = x1 then
      1
    else
      0
  else
    0
def fM_emits (x1 : Int32) (x2 : Int32) (M : Mm) : Option Mm :=
  if inb (800 + (M 217 24)) 1200 then
  let M1 : Mm := mput M 230 (jix (800 + (M 217 24))) x1
  if inb (800 + (M1 217 24)) 1200 then
  let M3 : Mm := mput M1 231 (jix (800 + (M1 217 24))) x2
  let M5 : Mm := mput M3 217 24 ((M3 217 24) + 1)
  some M5
  else none
  else none
def fM_canAsk (x1 : Int32) : Option Int32 :=
  let v1 : Int32 := fM_isIn x1 7 17
  if v1 = 0 ∨ v1 = 1 then
  some v1
  else none
def fM_readUnit_j43 (z1 : Int32) (M : Mm) : Option (Int32 × Mm) :=
  Option.bind (fM_emits (if z1 = 0 then 0 else 1) (if z1 = 0 then (M 217 14) else ((M 217 14) - 7)) M) fun M6 =>
  Option.bind (fM_reads M6) fun M8 =>
  some (0, M8)
def fM_readUnit (M : Mm) : Option (Int32 × Mm) :=
  Option.bind (
    if (M 217 13) = 2 then
      Option.bind (fM_canAsk (M 217 14)) fun q2 =>
      if q2 = 0 then
        some 0
      else
        some 1
    else
      some 0) fun y3 =>
  if y3 = 0 then
    if (M 217 13) = 3 then
      fM_readUnit_j43 y3 M
    else
      let q4 : Int32 × Mm := fM_errs 1 M
      some (q4.1, q4.2)
  else
    fM_readUnit_j43 y3 M
def fM_readProduct_j74 (z1 : Int32) (M : Mm) : Option (Mm ⊕ (Mm ⊕ Mm ⊕ Mm ⊕ Mm)) :=
  Option.bind (fM_readUnit M) fun q9 =>
  if q9.1 = (-1) then
    some (Sum.inr (Sum.inr (Sum.inr (Sum.inl q9.2))))
  else
    Option.bind (fM_emits (if z1 = 0 then 5 else 4) 0 q9.2) fun M11 =>
    some (Sum.inl M11)
def fM_readProduct_j57 (z1 : Int32) (M : Mm) : Option (Mm ⊕ (Mm ⊕ Mm ⊕ Mm ⊕ Mm)) :=
  if z1 = 0 then
    if (M 217 14) = 0 then
      some (Sum.inr (Sum.inr (Sum.inl M)))
    else
      fM_readProduct_j74 z1 M
  else
    fM_readProduct_j74 z1 M
def fM_readProduct_j28 (M : Mm) : Option (Mm ⊕ (Mm ⊕ Mm ⊕ Mm ⊕ Mm)) :=
  let v5 : Int32 := fM_isSign 42 M
  Option.bind (fM_reads M) fun M7 =>
  if v5 = 0 then
    if (M7 217 13) = 3 then
      fM_readProduct_j57 v5 M7
    else
      some (Sum.inr (Sum.inl M7))
  else
    fM_readProduct_j57 v5 M7
def fM_readProduct_b10 (M : Mm) : Option (Mm ⊕ (Mm ⊕ Mm ⊕ Mm ⊕ Mm)) :=
  let v3 : Int32 := fM_isSign 42 M
  if v3 = 0 then
    let v4 : Int32 := fM_isSign 47 M
    if v4 = 0 then
      some (Sum.inr (Sum.inr (Sum.inr (Sum.inr M))))
    else
      fM_readProduct_j28 M
  else
    fM_readProduct_j28 M
def fM_readProduct (M : Mm) : Option (Int32 × Mm) :=
  Option.bind (fM_readUnit M) fun q2 =>
  if q2.1 = (-1) then
    some ((-1), q2.2)
  else
    Option.bind (lp 1000000 (fun s => fM_readProduct_b10 s) q2.2) fun e10 =>
    match e10 with
    | Sum.inl p10 =>
        let M12 : Mm := p10
        let q13 : Int32 × Mm := fM_errs 1 M12
        some (q13.1, q13.2)
    | Sum.inr (Sum.inl p10) =>
        let M14 : Mm := p10
        let q15 : Int32 × Mm := fM_errs 2 M14
        some (q15.1, q15.2)
    | Sum.inr (Sum.inr (Sum.inl p10)) =>
        let M16 : Mm := p10
        some ((-1), M16)
    | Sum.inr (Sum.inr (Sum.inr p10)) =>
        let M17 : Mm := p10
        some (0, M17)
def fM_readSum_j28 (M : Mm) : Option (Mm ⊕ (Mm ⊕ Mm)) :=
  let v5 : Int32 := (if (M 217 14) = 43 then 2 else 3)
  Option.bind (fM_reads M) fun M7 =>
  Option.bind (fM_readProduct M7) fun q9 =>
  if q9.1 = (-1) then
    some (Sum.inr (Sum.inl q9.2))
  else
    Option.bind (fM_emits v5 0 q9.2) fun M11 =>
    some (Sum.inl M11)
def fM_readSum_b10 (M : Mm) : Option (Mm ⊕ (Mm ⊕ Mm)) :=
  let v3 : Int32 := fM_isSign 43 M
  if v3 = 0 then
    let v4 : Int32 := fM_isSign 45 M
    if v4 = 0 then
      some (Sum.inr (Sum.inr M))
    else
      fM_readSum_j28 M
  else
    fM_readSum_j28 M
def fM_readSum (M : Mm) : Option (Int32 × Mm) :=
  Option.bind (fM_readProduct M) fun q2 =>
  if q2.1 = (-1) then
    some ((-1), q2.2)
  else
    Option.bind (lp 1000000 (fun s => fM_readSum_b10 s) q2.2) fun e10 =>
    match e10 with
    | Sum.inl p10 =>
        let M12 : Mm := p10
        some ((-1), M12)
    | Sum.inr p10 =>
        let M13 : Mm := p10
        some (0, M13)
def fM_readCompared_j43 (M : Mm) : Option (Int32 × Mm) :=
  let v7 : Int32 := (if (M 217 14) = 60 then 6 else (if (M 217 14) = 61 then 7 else 8))
  Option.bind (fM_reads M) fun M9 =>
  Option.bind (fM_readSum M9) fun q11 =>
  if q11.1 = (-1) then
    some ((-1), q11.2)
  else
    Option.bind (fM_emits v7 0 q11.2) fun M13 =>
    some (0, M13)
def fM_readCompared (M : Mm) : Option (Int32 × Mm) :=
  Option.bind (fM_readSum M) fun q2 =>
  if q2.1 = (-1) then
    some ((-1), q2.2)
  else
    let v3 : Int32 := fM_isSign 60 q2.2
    if v3 = 0 then
      let v4 : Int32 := fM_isSign 61 q2.2
      if v4 = 0 then
        let v5 : Int32 := fM_isSign 62 q2.2
        if v5 = 0 then
          let q6 : Int32 × Mm := fM_errs 1 q2.2
          some (q6.1, q6.2)
        else
          fM_readCompared_j43 q2.2
      else
        fM_readCompared_j43 q2.2
    else
      fM_readCompared_j43 q2.2
def fM_waits (x1 : Int32) (M : Mm) : Option Mm :=
  if inb (M 217 27) 40 then
  let M1 : Mm := mput M 232 (jix (M 217 27)) x1
  let M3 : Mm := mput M1 217 27 ((M1 217 27) + 1)
  some M3
  else none
def fM_settles_b0 (x1 : Int32) (M : Mm) : Option (Mm ⊕ Mm) :=
  if (M 217 27) ≤ 0 then
    some (Sum.inr M)
  else
    if inb ((M 217 27) - 1) 40 then
    if (M 232 (jix ((M 217 27) - 1))) = x1 then
      let M2 : Mm := mput M 217 27 ((M 217 27) - 1)
      Option.bind (fM_emits x1 0 M2) fun M4 =>
      if x1 = 9 then
        let M5 : Mm := mput M4 217 25 ((M4 217 25) - 1)
        some (Sum.inl M5)
      else
        some (Sum.inl M4)
    else
      some (Sum.inr M)
    else none
def fM_settles (x1 : Int32) (M : Mm) : Option Mm :=
  Option.bind (lp 1000000 (fun s => fM_settles_b0 x1 s) M) fun e0 =>
  let M6 : Mm := e0
  some M6
def fM_readAny_j33 (z1 : Int32) (z2 : Int32) (z3 : Int32) (M : Mm) : Option ((Int32 × Int32 × Mm) ⊕ (Mm ⊕ Mm ⊕ Mm ⊕ Mm)) :=
  if (M 217 25) = 8 then
    some (Sum.inr (Sum.inl M))
  else
    let M36 : Mm := mput M 217 25 ((M 217 25) + 1)
    Option.bind (
      if z3 = 0 then
        let v37 : Int32 := (z1 + 1)
        some v37
      else
        some z1) fun y38 =>
    Option.bind (fM_waits (if z3 = 0 then 12 else 9) M36) fun M40 =>
    Option.bind (fM_reads M40) fun M42 =>
    some (Sum.inl (y38, z2, M42))
def fM_readAny_b9 (x1 : Int32) (x2 : Int32) (M : Mm) : Option ((Int32 × Int32 × Mm) ⊕ (Mm ⊕ Mm ⊕ Mm ⊕ Mm)) :=
  if x2 = 0 then
    let v2 : Int32 := fM_isWord 5 M
    if v2 = 0 then
      let v3 : Int32 := fM_isWord 4 M
      if v3 = 0 then
        Option.bind (fM_settles 10 M) fun M5 =>
        Option.bind (fM_settles 11 M5) fun M7 =>
        if x1 = 0 then
          some (Sum.inr (Sum.inr (Sum.inr (Sum.inl M7))))
        else
          let v8 : Int32 := fM_isSign 41 M7
          if v8 = 0 then
            some (Sum.inr (Sum.inr (Sum.inr (Sum.inr M7))))
          else
            let M9 : Mm := mput M7 217 27 ((M7 217 27) - 1)
            let v10 : Int32 := (x1 - 1)
            let M11 : Mm := mput M9 217 25 ((M9 217 25) - 1)
            Option.bind (fM_settles 9 M11) fun M13 =>
            Option.bind (fM_reads M13) fun M15 =>
            some (Sum.inl (v10, x2, M15))
      else
        Option.bind (fM_settles 10 M) fun M17 =>
        Option.bind (fM_settles 11 M17) fun M19 =>
        Option.bind (fM_waits 11 M19) fun M21 =>
        Option.bind (fM_reads M21) fun M23 =>
        some (Sum.inl (x1, 1, M23))
    else
      Option.bind (fM_settles 10 M) fun M25 =>
      Option.bind (fM_waits 10 M25) fun M27 =>
      Option.bind (fM_reads M27) fun M29 =>
      some (Sum.inl (x1, 1, M29))
  else
    let v30 : Int32 := fM_isWord 6 M
    if v30 = 0 then
      let v31 : Int32 := fM_isSign 40 M
      if v31 = 0 then
        Option.bind (fM_readCompared M) fun q33 =>
        if q33.1 = (-1) then
          some (Sum.inr (Sum.inr (Sum.inl q33.2)))
        else
          Option.bind (fM_settles 9 q33.2) fun M35 =>
          some (Sum.inl (x1, 0, M35))
      else
        fM_readAny_j33 x1 x2 v30 M
    else
      fM_readAny_j33 x1 x2 v30 M
def fM_readAny (M : Mm) : Option (Int32 × Mm) :=
  let M1 : Mm := mput M 217 27 0
  Option.bind (lp 1000000 (fun s => fM_readAny_b9 s.1 s.2.1 s.2.2) (0, 1, M1)) fun e9 =>
  match e9 with
  | Sum.inl p9 =>
      let M43 : Mm := p9
      let q44 : Int32 × Mm := fM_errs 3 M43
      some (q44.1, q44.2)
  | Sum.inr (Sum.inl p9) =>
      let M45 : Mm := p9
      some ((-1), M45)
  | Sum.inr (Sum.inr (Sum.inl p9)) =>
      let M46 : Mm := p9
      some (0, M46)
  | Sum.inr (Sum.inr (Sum.inr p9)) =>
      let M47 : Mm := p9
      let q48 : Int32 × Mm := fM_errs 1 M47
      some (q48.1, q48.2)
def fM_isLineWord (M : Mm) : Int32 :=
  if (M 217 13) = 2 then
    let v1 : Int32 := fM_isIn (M 217 14) 0 2
    if v1 = 0 then
      0
    else
      1
  else
    0
def fM_readLaw_j92 (z1 : Int32) (z2 : Int32) (M : Mm) : Option ((Int32 × Mm) ⊕ (Mm ⊕ Mm ⊕ Mm ⊕ Mm ⊕ (Int32 × Mm))) :=
  if inb z2 48 then
  let M18 : Mm := mput M 229 (jix z2) (M 217 24)
  let v20 : Int32 := fM_isSign 59 M18
  if v20 = 0 then
    some (Sum.inr (Sum.inr (Sum.inr (Sum.inr (Sum.inl M18)))))
  else
    Option.bind (fM_reads M18) fun M22 =>
    let v23 : Int32 := (z1 + 1)
    some (Sum.inl (v23, M22))
  else none
def fM_readLaw_b2 (x1 : Int32) (M : Mm) : Option ((Int32 × Mm) ⊕ (Mm ⊕ Mm ⊕ Mm ⊕ Mm ⊕ (Int32 × Mm))) :=
  let v1 : Int32 := fM_isLineWord M
  if v1 = 0 then
    some (Sum.inr (Sum.inr (Sum.inr (Sum.inr (Sum.inr (x1, M))))))
  else
    if x1 = 16 then
      some (Sum.inr (Sum.inl M))
    else
      let v2 : Int32 := (32 + x1)
      if inb v2 48 then
      let M3 : Mm := mput M 226 (jix v2) (M 217 14)
      Option.bind (fM_reads M3) fun M6 =>
      if inb v2 48 then
      let M7 : Mm := mput M6 227 (jix v2) (M6 217 24)
      Option.bind (fM_readSum M7) fun q10 =>
      if q10.1 = (-1) then
        some (Sum.inr (Sum.inr (Sum.inl q10.2)))
      else
        if inb v2 48 then
        let M11 : Mm := mput q10.2 228 (jix v2) (q10.2 217 24)
        let v13 : Int32 := fM_isWord 3 M11
        if v13 = 0 then
          fM_readLaw_j92 x1 v2 M11
        else
          Option.bind (fM_reads M11) fun M15 =>
          Option.bind (fM_readAny M15) fun q17 =>
          if q17.1 = (-1) then
            some (Sum.inr (Sum.inr (Sum.inr (Sum.inl q17.2))))
          else
            fM_readLaw_j92 x1 v2 q17.2
        else none
      else none
      else none
def fM_readLaw (M : Mm) : Option (Int32 × Mm) :=
  Option.bind (lp 1000000 (fun s => fM_readLaw_b2 s.1 s.2) (0, M)) fun e2 =>
  match e2 with
  | Sum.inl p2 =>
      let M24 : Mm := p2
      let q25 : Int32 × Mm := fM_errs 3 M24
      some (q25.1, q25.2)
  | Sum.inr (Sum.inl p2) =>
      let M26 : Mm := p2
      some ((-1), M26)
  | Sum.inr (Sum.inr (Sum.inl p2)) =>
      let M27 : Mm := p2
      some ((-1), M27)
  | Sum.inr (Sum.inr (Sum.inr (Sum.inl p2))) =>
      let M28 : Mm := p2
      let q29 : Int32 × Mm := fM_errs 1 M28
      some (q29.1, q29.2)
  | Sum.inr (Sum.inr (Sum.inr (Sum.inr p2))) =>
      let y30 : Int32 := p2.1
      let M31 : Mm := p2.2
      if (M31 217 13) = 0 then
        some (y30, M31)
      else
        let q32 : Int32 × Mm := fM_errs 1 M31
        some (q32.1, q32.2)
def fM_takesLaw_b2 (x1 : Int32) (x2 : Int32) (M : Mm) : Option ((Int32 × Mm) ⊕ Mm) :=
  if x1 ≤ x2 then
    some (Sum.inr M)
  else
    if inb (32 + x2) 48 then
    if inb ((16 * (M 217 23)) + x2) 48 then
    let M2 : Mm := mput M 226 (jix ((16 * (M 217 23)) + x2)) (M 226 (jix (32 + x2)))
    if inb (32 + x2) 48 then
    if inb ((16 * (M2 217 23)) + x2) 48 then
    let M5 : Mm := mput M2 227 (jix ((16 * (M2 217 23)) + x2)) (M2 227 (jix (32 + x2)))
    if inb (32 + x2) 48 then
    if inb ((16 * (M5 217 23)) + x2) 48 then
    let M8 : Mm := mput M5 228 (jix ((16 * (M5 217 23)) + x2)) (M5 228 (jix (32 + x2)))
    if inb (32 + x2) 48 then
    if inb ((16 * (M8 217 23)) + x2) 48 then
    let M11 : Mm := mput M8 229 (jix ((16 * (M8 217 23)) + x2)) (M8 229 (jix (32 + x2)))
    some (Sum.inl ((x2 + 1), M11))
    else none
    else none
    else none
    else none
    else none
    else none
    else none
    else none
def fM_takesLaw_b107 (x1 : Int32) (x2 : Int32) (M : Mm) : Option ((Int32 × Mm) ⊕ Mm) :=
  if (M 217 24) ≤ x2 then
    some (Sum.inr M)
  else
    if inb (800 + x2) 1200 then
    if inb ((400 * (M 217 23)) + x2) 1200 then
    let M15 : Mm := mput M 230 (jix ((400 * (M 217 23)) + x2)) (M 230 (jix (800 + x2)))
    if inb (800 + x2) 1200 then
    if inb ((400 * (M15 217 23)) + x2) 1200 then
    let M18 : Mm := mput M15 231 (jix ((400 * (M15 217 23)) + x2)) (M15 231 (jix (800 + x2)))
    some (Sum.inl ((x2 + 1), M18))
    else none
    else none
    else none
    else none
def fM_takesLaw (x1 : Int32) (M : Mm) : Option Mm :=
  Option.bind (lp 1000000 (fun s => fM_takesLaw_b2 x1 s.1 s.2) (0, M)) fun e2 =>
  let M13 : Mm := e2
  Option.bind (lp 1000000 (fun s => fM_takesLaw_b107 x1 s.1 s.2) (0, M13)) fun e107 =>
  let M20 : Mm := e107
  if inb (M20 217 23) 2 then
  let M21 : Mm := mput M20 225 (jix (M20 217 23)) x1
  some M21
  else none
def fM_readNumber (x1 : Int32) (x2 : Int32) (M : Mm) : Option (Int32 × Mm) :=
  if (M 217 13) = 3 then
    let v1 : Int32 := fM_isIn (M 217 14) x1 x2
    if v1 = 0 then
      let q5 : Int32 × Mm := fM_errs 2 M
      some (q5.1, q5.2)
    else
      let v2 : Int32 := (M 217 14)
      Option.bind (fM_reads M) fun M4 =>
      some (v2, M4)
  else
    let q6 : Int32 × Mm := fM_errs 1 M
    some (q6.1, q6.2)
def fM_readMark (x1 : Int32) (M : Mm) : Option (Int32 × Mm) :=
  let v1 : Int32 := fM_isSign x1 M
  if v1 = 0 then
    let q4 : Int32 × Mm := fM_errs 1 M
    some (q4.1, q4.2)
  else
    Option.bind (fM_reads M) fun M3 =>
    some (0, M3)
def fM_readTold (x1 : Int32) (x2 : Int32) (x3 : Int32) (M : Mm) : Option (Int32 × Mm) :=
  let v1 : Int32 := fM_isWord x1 M
  if v1 = 0 then
    let q6 : Int32 × Mm := fM_errs 1 M
    some (q6.1, q6.2)
  else
    Option.bind (fM_reads M) fun M3 =>
    Option.bind (fM_readNumber x2 x3 M3) fun q5 =>
    some (q5.1, q5.2)
def fM_readPostLine (x1 : Int32) (M : Mm) : Option (Int32 × Mm) :=
  Option.bind (fM_readTold 18 0 999 M) fun q2 =>
  if inb x1 128 then
  let M3 : Mm := mput q2.2 233 (jix x1) q2.1
  if inb x1 128 then
  if (M3 233 (jix x1)) = (-1) then
    some ((-1), M3)
  else
    Option.bind (fM_readTold 19 0 ((M3 217 6) - 1) M3) fun q7 =>
    if inb (x1 + 1) 128 then
    let M8 : Mm := mput q7.2 233 (jix (x1 + 1)) q7.1
    if inb (x1 + 1) 128 then
    if (M8 233 (jix (x1 + 1))) = (-1) then
      some ((-1), M8)
    else
      if (M8 217 13) = 2 then
        let v12 : Int32 := fM_isIn (M8 217 14) 22 28
        if v12 = 0 then
          let q24 : Int32 × Mm := fM_errs 1 M8
          some (q24.1, q24.2)
        else
          if inb (x1 + 2) 128 then
          let M13 : Mm := mput M8 233 (jix (x1 + 2)) ((M8 217 14) - 22)
          Option.bind (fM_reads M13) fun M16 =>
          Option.bind (fM_readNumber 1 99 M16) fun q18 =>
          if inb (x1 + 3) 128 then
          let M19 : Mm := mput q18.2 233 (jix (x1 + 3)) q18.1
          if inb (x1 + 3) 128 then
          if (M19 233 (jix (x1 + 3))) = (-1) then
            some ((-1), M19)
          else
            Option.bind (fM_readMark 59 M19) fun q23 =>
            some (q23.1, q23.2)
          else none
          else none
          else none
      else
        let q11 : Int32 × Mm := fM_errs 1 M8
        some (q11.1, q11.2)
    else none
    else none
  else none
  else none
def fM_readPost_b2 (x1 : Int32) (M : Mm) : Option ((Int32 × Mm) ⊕ (Mm ⊕ Mm ⊕ (Int32 × Mm))) :=
  let v1 : Int32 := fM_isWord 18 M
  if v1 = 0 then
    some (Sum.inr (Sum.inr (Sum.inr (x1, M))))
  else
    if x1 = 16 then
      some (Sum.inr (Sum.inl M))
    else
      Option.bind (fM_readPostLine (64 + (4 * x1)) M) fun q3 =>
      if q3.1 = (-1) then
        some (Sum.inr (Sum.inr (Sum.inl q3.2)))
      else
        let v4 : Int32 := (x1 + 1)
        some (Sum.inl (v4, q3.2))
def fM_readPost (M : Mm) : Option (Int32 × Mm) :=
  Option.bind (lp 1000000 (fun s => fM_readPost_b2 s.1 s.2) (0, M)) fun e2 =>
  match e2 with
  | Sum.inl p2 =>
      let M5 : Mm := p2
      let q6 : Int32 × Mm := fM_errs 3 M5
      some (q6.1, q6.2)
  | Sum.inr (Sum.inl p2) =>
      let M7 : Mm := p2
      some ((-1), M7)
  | Sum.inr (Sum.inr p2) =>
      let y8 : Int32 := p2.1
      let M9 : Mm := p2.2
      if (M9 217 13) = 0 then
        some (y8, M9)
      else
        let q10 : Int32 × Mm := fM_errs 1 M9
        some (q10.1, q10.2)
def fM_readRound_b2 (x1 : Int32) (M : Mm) : Option ((Int32 × Mm) ⊕ (Mm ⊕ Mm ⊕ (Int32 × Mm))) :=
  let v1 : Int32 := fM_isWord 20 M
  if v1 = 0 then
    some (Sum.inr (Sum.inr (Sum.inr (x1, M))))
  else
    if x1 = 16 then
      some (Sum.inr (Sum.inl M))
    else
      Option.bind (fM_readTold 20 0 ((M 217 6) - 1) M) fun q3 =>
      if inb (16 + x1) 32 then
      let M4 : Mm := mput q3.2 234 (jix (16 + x1)) q3.1
      if inb (16 + x1) 32 then
      if (M4 234 (jix (16 + x1))) = (-1) then
        some (Sum.inr (Sum.inr (Sum.inl M4)))
      else
        Option.bind (fM_readMark 59 M4) fun q8 =>
        if q8.1 = (-1) then
          some (Sum.inr (Sum.inr (Sum.inl q8.2)))
        else
          let v9 : Int32 := (x1 + 1)
          some (Sum.inl (v9, q8.2))
      else none
      else none
def fM_readRound (M : Mm) : Option (Int32 × Mm) :=
  Option.bind (lp 1000000 (fun s => fM_readRound_b2 s.1 s.2) (0, M)) fun e2 =>
  match e2 with
  | Sum.inl p2 =>
      let M10 : Mm := p2
      let q11 : Int32 × Mm := fM_errs 3 M10
      some (q11.1, q11.2)
  | Sum.inr (Sum.inl p2) =>
      let M12 : Mm := p2
      some ((-1), M12)
  | Sum.inr (Sum.inr p2) =>
      let y13 : Int32 := p2.1
      let M14 : Mm := p2.2
      if (M14 217 13) = 0 then
        some (y13, M14)
      else
        let q15 : Int32 × Mm := fM_errs 1 M14
        some (q15.1, q15.2)
def fM_takesStreet_j19 (z1 : Int32) (z2 : Int32) (M : Mm) : Option Mm :=
  if inb z1 288 then
  let M3 : Mm := mput M 235 (jix z1) z2
  some M3
  else none
def fM_takesStreet (x1 : Int32) (x2 : Int32) (M : Mm) : Option Mm :=
  if inb x1 288 then
  if (M 235 (jix x1)) = 0 then
    fM_takesStreet_j19 x1 x2 M
  else
    if inb x1 288 then
    if (M 235 (jix x1)) ≤ x2 then
      some M
    else
      fM_takesStreet_j19 x1 x2 M
    else none
  else none
def fM_readStreet_j43 (z1 : Int32) (M : Mm) : Option (Int32 × Mm) :=
  Option.bind (fM_readNumber 0 ((M 217 6) - 1) M) fun q5 =>
  if q5.1 = (-1) then
    some ((-1), q5.2)
  else
    Option.bind (fM_readNumber 1 99 q5.2) fun q7 =>
    if q7.1 = (-1) then
      some ((-1), q7.2)
    else
      Option.bind (fM_takesStreet ((144 + (12 * z1)) + q5.1) q7.1 q7.2) fun M9 =>
      Option.bind (fM_takesStreet ((144 + (12 * q5.1)) + z1) q7.1 M9) fun M11 =>
      Option.bind (fM_readMark 59 M11) fun q13 =>
      some (q13.1, q13.2)
def fM_readStreet (M : Mm) : Option (Int32 × Mm) :=
  Option.bind (fM_readTold 21 0 ((M 217 6) - 1) M) fun q2 =>
  if q2.1 = (-1) then
    some ((-1), q2.2)
  else
    if (q2.2 217 13) = 3 then
      if (q2.2 217 14) = q2.1 then
        let q3 : Int32 × Mm := fM_errs 2 q2.2
        some (q3.1, q3.2)
      else
        fM_readStreet_j43 q2.1 q2.2
    else
      fM_readStreet_j43 q2.1 q2.2
def fM_readStreets_b2 (x1 : Int32) (M : Mm) : Option ((Int32 × Mm) ⊕ Mm) :=
  if 144 ≤ x1 then
    some (Sum.inr M)
  else
    if inb (144 + x1) 288 then
    let M1 : Mm := mput M 235 (jix (144 + x1)) 0
    some (Sum.inl ((x1 + 1), M1))
    else none
def fM_readStreets_b28 (x1 : Int32) (M : Mm) : Option ((Int32 × Mm) ⊕ (Mm ⊕ Mm ⊕ (Int32 × Mm))) :=
  let v4 : Int32 := fM_isWord 21 M
  if v4 = 0 then
    some (Sum.inr (Sum.inr (Sum.inr (x1, M))))
  else
    if x1 = 16 then
      some (Sum.inr (Sum.inl M))
    else
      Option.bind (fM_readStreet M) fun q6 =>
      if q6.1 = (-1) then
        some (Sum.inr (Sum.inr (Sum.inl q6.2)))
      else
        let v7 : Int32 := (x1 + 1)
        some (Sum.inl (v7, q6.2))
def fM_readStreets (M : Mm) : Option (Int32 × Mm) :=
  Option.bind (lp 1000000 (fun s => fM_readStreets_b2 s.1 s.2) (0, M)) fun e2 =>
  let M3 : Mm := e2
  Option.bind (lp 1000000 (fun s => fM_readStreets_b28 s.1 s.2) (0, M3)) fun e28 =>
  match e28 with
  | Sum.inl p28 =>
      let M8 : Mm := p28
      let q9 : Int32 × Mm := fM_errs 3 M8
      some (q9.1, q9.2)
  | Sum.inr (Sum.inl p28) =>
      let M10 : Mm := p28
      some ((-1), M10)
  | Sum.inr (Sum.inr p28) =>
      let y11 : Int32 := p28.1
      let M12 : Mm := p28.2
      if (M12 217 13) = 0 then
        some (y11, M12)
      else
        let q13 : Int32 × Mm := fM_errs 1 M12
        some (q13.1, q13.2)
def fM_readsText (x1 : Int32) (M : Mm) : Option (Int32 × Mm) :=
  let M1 : Mm := mput M 217 23 0
  Option.bind (fM_reads M1) fun M3 =>
  if x1 = 1 then
    Option.bind (fM_readPost M3) fun q11 =>
    some (q11.1, q11.2)
  else
    if x1 = 2 then
      Option.bind (fM_readRound M3) fun q9 =>
      some (q9.1, q9.2)
    else
      if x1 = 3 then
        Option.bind (fM_readStreets M3) fun q7 =>
        some (q7.1, q7.2)
      else
        Option.bind (fM_readLaw M3) fun q5 =>
        some (q5.1, q5.2)
def fM_takesOther_b7 (x2 : Int32) (x3 : Int32) (M : Mm) : Option ((Int32 × Mm) ⊕ Mm) :=
  if 144 ≤ x3 then
    some (Sum.inr M)
  else
    if inb (144 + x3) 288 then
    if inb x3 288 then
    let M14 : Mm := mput M 235 (jix x3) (M 235 (jix (144 + x3)))
    some (Sum.inl ((x3 + 1), M14))
    else none
    else none
def fM_takesOther_b49 (x2 : Int32) (x3 : Int32) (M : Mm) : Option ((Int32 × Mm) ⊕ Mm) :=
  if (4 * x2) ≤ x3 then
    some (Sum.inr M)
  else
    if inb (64 + x3) 128 then
    if inb x3 128 then
    let M8 : Mm := mput M 233 (jix x3) (M 233 (jix (64 + x3)))
    some (Sum.inl ((x3 + 1), M8))
    else none
    else none
def fM_takesOther_b87 (x2 : Int32) (x3 : Int32) (M : Mm) : Option ((Int32 × Mm) ⊕ Mm) :=
  if x2 ≤ x3 then
    some (Sum.inr M)
  else
    if inb (16 + x3) 32 then
    if inb x3 32 then
    let M2 : Mm := mput M 234 (jix x3) (M 234 (jix (16 + x3)))
    some (Sum.inl ((x3 + 1), M2))
    else none
    else none
def fM_takesOther (x1 : Int32) (x2 : Int32) (M : Mm) : Option Mm :=
  if x1 = 3 then
    Option.bind (lp 1000000 (fun s => fM_takesOther_b7 x2 s.1 s.2) (0, M)) fun e7 =>
    let M16 : Mm := e7
    let M17 : Mm := mput M16 217 36 x2
    some M17
  else
    if x1 = 1 then
      Option.bind (lp 1000000 (fun s => fM_takesOther_b49 x2 s.1 s.2) (0, M)) fun e49 =>
      let M10 : Mm := e49
      let M11 : Mm := mput M10 217 32 x2
      let M12 : Mm := mput M11 217 3 0
      some M12
    else
      Option.bind (lp 1000000 (fun s => fM_takesOther_b87 x2 s.1 s.2) (0, M)) fun e87 =>
      let M4 : Mm := e87
      let M5 : Mm := mput M4 217 34 x2
      let M6 : Mm := mput M5 217 3 0
      some M6
def fM_text (x1 : Int32) (M : Mm) : Option (Int32 × Mm) :=
  let M1 : Mm := mput M 217 0 0
  let M2 : Mm := mput M1 217 30 0
  let M3 : Mm := mput M2 217 31 (-1)
  let M4 : Mm := mput M3 217 11 0
  let M5 : Mm := mput M4 217 24 0
  let M6 : Mm := mput M5 217 25 0
  let v7 : Int32 := fM_isIn x1 0 3
  Option.bind (
    if v7 = 0 then
      some ((-1), M6)
    else
      Option.bind (fM_readsText x1 M6) fun q9 =>
      if q9.1 = (-1) then
        let M10 : Mm := mput q9.2 217 30 (q9.2 217 28)
        let M11 : Mm := mput M10 217 31 (M10 217 29)
        some (q9.1, M11)
      else
        some (q9.1, q9.2)) fun t69 =>
  let y12 : Int32 := t69.1
  let M13 : Mm := t69.2
  let M14 : Mm := mput M13 217 10 0
  if y12 = (-1) then
    some ((-1), M14)
  else
    if x1 = 0 then
      Option.bind (fM_takesLaw y12 M14) fun M18 =>
      some (y12, M18)
    else
      Option.bind (fM_takesOther x1 y12 M14) fun M16 =>
      some (y12, M16)
def fM_fault (x1 : Int32) (M : Mm) : (Int32 × Mm) :=
  let M1 : Mm := mput M 217 0 0
  if x1 = 0 then
    ((M1 217 30), M1)
  else
    if x1 = 1 then
      ((M1 217 31), M1)
    else
      ((-1), M1)
def fM_twoOf (x1 : Int32) (x2 : Int32) (x3 : Int32) : Option Int32 :=
  if x1 = 2 then
    some (x2 + x3)
  else
    if x1 = 3 then
      some (x2 - x3)
    else
      if x1 = 4 then
        some (x2 * x3)
      else
        if x1 = 5 then
          if ¬ x3 = 0 then
          some (x2 / x3)
          else none
        else
          if x1 = 6 then
            if x3 ≤ x2 then
              some 0
            else
              some 1
          else
            if x1 = 7 then
              if x2 = x3 then
                some 1
              else
                some 0
            else
              if x1 = 8 then
                if x2 ≤ x3 then
                  some 0
                else
                  some 1
              else
                if x1 = 10 then
                  some (x2 * x3)
                else
                  if (x2 + x3) ≤ 0 then
                    some 0
                  else
                    some 1
def fM_runs_b12 (x1 : Int32) (x3 : Int32) (x4 : Int32) (x5 : Int32) (M : Mm) : Option ((Int32 × Int32 × Mm) ⊕ Mm) :=
  if ((400 * x1) + x3) ≤ x5 then
    some (Sum.inr M)
  else
    if inb x5 1200 then
    Option.bind (
      if (M 230 (jix x5)) = 0 then
        if inb x5 1200 then
        Option.bind (
          if (M 230 (jix x5)) = 0 then
            if inb x5 1200 then
            some (M 231 (jix x5))
            else none
          else
            if inb x5 1200 then
            if inb (M 231 (jix x5)) 11 then
            some (M 236 (jix (M 231 (jix x5))))
            else none
            else none) fun y7 =>
        if inb x4 420 then
        let M8 : Mm := mput M 237 (jix x4) y7
        let v10 : Int32 := (x4 + 1)
        some (v10, M8)
        else none
        else none
      else
        if inb x5 1200 then
        if (M 230 (jix x5)) = 1 then
          if inb x5 1200 then
          Option.bind (
            if (M 230 (jix x5)) = 0 then
              if inb x5 1200 then
              some (M 231 (jix x5))
              else none
            else
              if inb x5 1200 then
              if inb (M 231 (jix x5)) 11 then
              some (M 236 (jix (M 231 (jix x5))))
              else none
              else none) fun y28 =>
          if inb x4 420 then
          let M29 : Mm := mput M 237 (jix x4) y28
          let v31 : Int32 := (x4 + 1)
          some (v31, M29)
          else none
          else none
        else
          if inb x5 1200 then
          if (M 230 (jix x5)) = 9 then
            if inb (x4 - 1) 420 then
            if inb (x4 - 1) 420 then
            let M22 : Mm := mput M 237 (jix (x4 - 1)) (1 - (M 237 (jix (x4 - 1))))
            some (x4, M22)
            else none
            else none
          else
            let v13 : Int32 := (x4 - 1)
            if inb x5 1200 then
            if inb (v13 - 1) 420 then
            if inb v13 420 then
            Option.bind (fM_twoOf (M 230 (jix x5)) (M 237 (jix (v13 - 1))) (M 237 (jix v13))) fun q18 =>
            if inb (v13 - 1) 420 then
            let M19 : Mm := mput M 237 (jix (v13 - 1)) q18
            some (v13, M19)
            else none
            else none
            else none
            else none
          else none
        else none) fun t170 =>
    let y32 : Int32 := t170.1
    let M33 : Mm := t170.2
    some (Sum.inl (y32, (x5 + 1), M33))
    else none
def fM_runs (x1 : Int32) (x2 : Int32) (x3 : Int32) (M : Mm) : Option (Int32 × Mm) :=
  let v1 : Int32 := ((400 * x1) + x2)
  Option.bind (lp 1000000 (fun s => fM_runs_b12 x1 x3 s.1 s.2.1 s.2.2) (0, v1, M)) fun e12 =>
  let M34 : Mm := e12
  some ((M34 237 0), M34)
def fM_lineOf_j59 (z1 : Int32) (z2 : Int32) (M : Mm) : Option ((Int32 × Mm) ⊕ ((Int32 × Mm) ⊕ Mm)) :=
  some (Sum.inl ((z2 + 1), M))
def fM_lineOf_b2 (x1 : Int32) (x2 : Int32) (M : Mm) : Option ((Int32 × Mm) ⊕ ((Int32 × Mm) ⊕ Mm)) :=
  if (M 225 0) ≤ x2 then
    some (Sum.inr (Sum.inr M))
  else
    if inb x2 48 then
    if (M 226 (jix x2)) = x1 then
      if inb x2 48 then
      if inb x2 48 then
      if (M 228 (jix x2)) = (M 229 (jix x2)) then
        some (Sum.inr (Sum.inl (x2, M)))
      else
        if inb x2 48 then
        if inb x2 48 then
        Option.bind (fM_runs 0 (M 228 (jix x2)) (M 229 (jix x2)) M) fun q7 =>
        if q7.1 = 0 then
          fM_lineOf_j59 x1 x2 q7.2
        else
          some (Sum.inr (Sum.inl (x2, q7.2)))
        else none
        else none
      else none
      else none
    else
      fM_lineOf_j59 x1 x2 M
    else none
def fM_lineOf (x1 : Int32) (M : Mm) : Option (Int32 × Mm) :=
  Option.bind (lp 1000000 (fun s => fM_lineOf_b2 x1 s.1 s.2) (0, M)) fun e2 =>
  match e2 with
  | Sum.inl p2 =>
      let y8 : Int32 := p2.1
      let M9 : Mm := p2.2
      some (y8, M9)
  | Sum.inr p2 =>
      let M10 : Mm := p2
      some ((-1), M10)
def fM_asks (x1 : Int32) (x2 : Int32) (x3 : Int32) (x4 : Int32) (M : Mm) : Option Mm :=
  let M1 : Mm := mput M 236 0 x2
  let M2 : Mm := mput M1 236 1 x3
  let M3 : Mm := mput M2 236 2 x4
  if inb (18 + x1) 174 then
  let M5 : Mm := mput M3 236 3 (M3 218 (jix (18 + x1)))
  if inb x1 12 then
  let M7 : Mm := mput M5 236 4 (M5 221 (jix x1))
  if inb (30 + x1) 174 then
  let M9 : Mm := mput M7 236 5 (M7 218 (jix (30 + x1)))
  let v10 : Int32 := fM_health M9
  let M11 : Mm := mput M9 236 6 v10
  let M12 : Mm := mput M11 236 7 (M11 218 5)
  let M13 : Mm := mput M12 236 8 (M12 218 3)
  let M14 : Mm := mput M13 236 9 (M13 218 8)
  let M15 : Mm := mput M14 236 10 (M14 218 0)
  some M15
  else none
  else none
  else none
def fM_lawTells (x1 : Int32) (x2 : Int32) (x3 : Int32) (M : Mm) : Option (Int32 × Mm) :=
  Option.bind (fM_lineOf x1 M) fun q2 =>
  if q2.1 = (-1) then
    let v8 : Int32 := fM_held x2 0 x3
    some (v8, q2.2)
  else
    if inb q2.1 48 then
    if inb q2.1 48 then
    Option.bind (fM_runs 0 (q2.2 227 (jix q2.1)) (q2.2 228 (jix q2.1)) q2.2) fun q6 =>
    let v7 : Int32 := fM_held q6.1 0 x3
    some (v7, q6.2)
    else none
    else none
def fM_opensNow (M : Mm) : Option (Int32 × Mm) :=
  Option.bind (fM_lawTells 0 ((900 - (100 * (M 218 8))) + (20 * (M 236 3))) 1000 M) fun q2 =>
  some (q2.1, q2.2)
def fM_givesNow (M : Mm) : Option (Int32 × Mm) :=
  Option.bind (fM_lawTells 1 (M 236 1) 99 M) fun q2 =>
  some (q2.1, q2.2)
def fM_tiresNow (M : Mm) : Option (Int32 × Mm) :=
  Option.bind (fM_lawTells 2 1 20 M) fun q2 =>
  some (q2.1, q2.2)
def fM_asksOf (x1 : Int32) (M : Mm) : Option Mm :=
  let v1 : Int32 := fM_letterAt x1
  if inb (v1 + 1) 174 then
  if inb (v1 + 2) 174 then
  if inb (v1 + 3) 174 then
  if inb (v1 + 4) 174 then
  Option.bind (fM_asks (M 218 (jix (v1 + 1))) (M 218 (jix (v1 + 2))) (M 218 (jix (v1 + 3))) (M 218 (jix (v1 + 4))) M) fun M7 =>
  some M7
  else none
  else none
  else none
  else none
def fM_notes (x1 : Int32) (x2 : Int32) (x3 : Int32) (M : Mm) : Option Mm :=
  if (M 217 5) = 0 then
    if (M 218 2) = 150 then
      some M
    else
      let v1 : Int32 := (4 * (M 218 2))
      if inb v1 600 then
      let M2 : Mm := mput M 222 (jix v1) (M 218 0)
      if inb (v1 + 1) 600 then
      let M4 : Mm := mput M2 222 (jix (v1 + 1)) x1
      if inb (v1 + 2) 600 then
      let M6 : Mm := mput M4 222 (jix (v1 + 2)) x2
      if inb (v1 + 3) 600 then
      let M8 : Mm := mput M6 222 (jix (v1 + 3)) x3
      let M10 : Mm := mput M8 218 2 ((M8 218 2) + 1)
      some M10
      else none
      else none
      else none
      else none
  else
    some M
def fM_comes (x1 : Int32) (x2 : Int32) (x3 : Int32) (M : Mm) : Option (Int32 × Mm) :=
  let v1 : Int32 := fM_letterAt (M 218 10)
  if inb v1 174 then
  let M2 : Mm := mput M 218 (jix v1) (M 218 9)
  if inb (v1 + 1) 174 then
  let M4 : Mm := mput M2 218 (jix (v1 + 1)) x1
  if inb (v1 + 2) 174 then
  let M6 : Mm := mput M4 218 (jix (v1 + 2)) x2
  if inb (v1 + 3) 174 then
  let M8 : Mm := mput M6 218 (jix (v1 + 3)) x3
  if inb (v1 + 4) 174 then
  let M10 : Mm := mput M8 218 (jix (v1 + 4)) 0
  let M12 : Mm := mput M10 218 10 ((M10 218 10) + 1)
  let M13 : Mm := mput M12 218 9 ((M12 218 9) + 1)
  if inb v1 174 then
  Option.bind (fM_notes 0 (M13 218 (jix v1)) x1 M13) fun M16 =>
  if inb v1 174 then
  some ((M16 218 (jix v1)), M16)
  else none
  else none
  else none
  else none
  else none
  else none
  else none
def fM_goesOut_b22 (x2 : Int32) (M : Mm) : Option ((Int32 × Mm) ⊕ Mm) :=
  let v3 : Int32 := fM_letterAt (M 218 10)
  if v3 ≤ x2 then
    some (Sum.inr M)
  else
    if inb (x2 + 5) 174 then
    if inb x2 174 then
    let M5 : Mm := mput M 218 (jix x2) (M 218 (jix (x2 + 5)))
    some (Sum.inl ((x2 + 1), M5))
    else none
    else none
def fM_goesOut (x1 : Int32) (M : Mm) : Option Mm :=
  let M1 : Mm := mput M 218 10 ((M 218 10) - 1)
  let v2 : Int32 := fM_letterAt x1
  Option.bind (lp 1000000 (fun s => fM_goesOut_b22 s.1 s.2) (v2, M1)) fun e22 =>
  let M7 : Mm := e22
  some M7
def fM_looks (x1 : Int32) (x2 : Int32) (M : Mm) : Option Mm :=
  if inb (18 + x1) 174 then
  let v2 : Int32 := fM_held ((M 218 (jix (18 + x1))) + x2) (-9) 9
  if inb (18 + x1) 174 then
  let M3 : Mm := mput M 218 (jix (18 + x1)) v2
  some M3
  else none
  else none
def fM_changes (x1 : Int32) (x2 : Int32) (x3 : Int32) (M : Mm) : Option Mm :=
  Option.bind (
    if x2 = 0 then
      Option.bind (fM_looks x1 (-1) M) fun M2 =>
      some M2
    else
      if x2 = 1 then
        Option.bind (fM_looks x1 (-1) M) fun M4 =>
        some M4
      else
        if x2 = 3 then
          Option.bind (fM_looks x1 (-1) M) fun M6 =>
          some M6
        else
          some M) fun M7 =>
  Option.bind (
    if x2 = 2 then
      Option.bind (fM_looks x1 1 M7) fun M9 =>
      some M9
    else
      some M7) fun M10 =>
  Option.bind (
    if x2 = 6 then
      Option.bind (fM_looks x1 2 M10) fun M12 =>
      some M12
    else
      some M10) fun M13 =>
  Option.bind (
    if x2 = 3 then
      let v14 : Int32 := fM_health M13
      let M15 : Mm := fM_hasHealth (v14 - x3) M13
      some M15
    else
      some M13) fun M16 =>
  if x2 = 4 then
    let v17 : Int32 := fM_greater 0 ((M16 218 5) - x3)
    let M18 : Mm := mput M16 218 5 v17
    some M18
  else
    some M16
def fM_isGiven (x1 : Int32) (x2 : Int32) (x3 : Int32) (x4 : Int32) (M : Mm) : Option Mm :=
  if inb (11 + x2) 174 then
  if inb (11 + x2) 174 then
  let M2 : Mm := mput M 218 (jix (11 + x2)) ((M 218 (jix (11 + x2))) + x4)
  Option.bind (
    if x2 = 1 then
      if inb (30 + x1) 174 then
      if inb (30 + x1) 174 then
      let M5 : Mm := mput M2 218 (jix (30 + x1)) ((M2 218 (jix (30 + x1))) - x4)
      some M5
      else none
      else none
    else
      some M2) fun M7 =>
  Option.bind (fM_changes x1 x2 x4 M7) fun M9 =>
  Option.bind (
    if x2 = 0 then
      if x3 < 50 then
        some M9
      else
        let M10 : Mm := mput M9 218 6 ((M9 218 6) + 1)
        let v11 : Int32 := fM_health M10
        let M12 : Mm := fM_hasHealth (v11 + 5) M10
        some M12
    else
      some M9) fun M13 =>
  if inb (42 + x1) 174 then
  if inb (42 + x1) 174 then
  let M15 : Mm := mput M13 218 (jix (42 + x1)) ((M13 218 (jix (42 + x1))) + 1)
  some M15
  else none
  else none
  else none
  else none
def fM_isOpen (x1 : Int32) (M : Mm) : Option (Int32 × Mm) :=
  if (M 217 5) = 0 then
    Option.bind (fM_draw 1000 M) fun q2 =>
    if x1 ≤ q2.1 then
      some (0, q2.2)
    else
      some (1, q2.2)
  else
    if (2 * x1) < 1000 then
      some (0, M)
    else
      some (1, M)
def fM_brings (x1 : Int32) (M : Mm) : Option (Int32 × Mm) :=
  let v1 : Int32 := fM_letterAt x1
  if inb v1 174 then
  let v3 : Int32 := (M 218 (jix v1))
  if inb (v1 + 1) 174 then
  let v5 : Int32 := (M 218 (jix (v1 + 1)))
  if inb (v1 + 2) 174 then
  let v7 : Int32 := (M 218 (jix (v1 + 2)))
  if inb (v1 + 3) 174 then
  let v9 : Int32 := (M 218 (jix (v1 + 3)))
  if inb (v1 + 4) 174 then
  let v11 : Int32 := (M 218 (jix (v1 + 4)))
  Option.bind (fM_asksOf x1 M) fun M13 =>
  Option.bind (fM_opensNow M13) fun q15 =>
  Option.bind (fM_isOpen q15.1 q15.2) fun q17 =>
  Option.bind (
    if q17.1 = 0 then
      Option.bind (fM_notes 2 v3 v5 q17.2) fun M19 =>
      some ((-1), M19)
    else
      Option.bind (fM_asksOf x1 q17.2) fun M21 =>
      Option.bind (
        if v7 = 1 then
          Option.bind (fM_givesNow M21) fun q25 =>
          if inb (30 + v5) 174 then
          let v27 : Int32 := fM_lesser q25.1 (q25.2 218 (jix (30 + v5)))
          some (v27, q25.2)
          else none
        else
          Option.bind (fM_givesNow M21) fun q23 =>
          some (q23.1, q23.2)) fun t108 =>
      let y28 : Int32 := t108.1
      let M29 : Mm := t108.2
      Option.bind (fM_isGiven v5 v7 v9 y28 M29) fun M31 =>
      Option.bind (fM_goesOut x1 M31) fun M33 =>
      Option.bind (fM_notes 1 v3 y28 M33) fun M35 =>
      some (y28, M35)) fun t146 =>
  let y36 : Int32 := t146.1
  let M37 : Mm := t146.2
  Option.bind (fM_asks v5 v7 v9 v11 M37) fun M39 =>
  Option.bind (fM_tiresNow M39) fun q41 =>
  let v42 : Int32 := fM_lesser 99 ((M39 218 3) + q41.1)
  let M43 : Mm := mput q41.2 218 3 v42
  some (y36, M43)
  else none
  else none
  else none
  else none
  else none
def fM_post (x1 : Int32) (x2 : Int32) (x3 : Int32) (M : Mm) : Option (Int32 × Mm) :=
  let M1 : Mm := mput M 217 0 0
  let v2 : Int32 := fM_isDoor x1 M1
  if v2 = 0 then
    some ((-1), M1)
  else
    let v3 : Int32 := fM_isIn x2 0 6
    if v3 = 0 then
      some ((-1), M1)
    else
      let v4 : Int32 := fM_isIn x3 1 99
      if v4 = 0 then
        some ((-1), M1)
      else
        if (M1 218 10) = 24 then
          some ((-1), M1)
        else
          Option.bind (fM_keepsAhead M1) fun M6 =>
          Option.bind (fM_comes x1 x2 x3 M6) fun q8 =>
          some (q8.1, q8.2)
def fM_bring_b17 (x1 : Int32) (M : Mm) (x2 : Int32) : Option (Int32 ⊕ (Int32 ⊕ Unit)) :=
  if (M 218 10) ≤ x2 then
    some (Sum.inr (Sum.inr ()))
  else
    let v3 : Int32 := fM_letterAt x2
    if inb v3 174 then
    if (M 218 (jix v3)) = x1 then
      some (Sum.inr (Sum.inl x2))
    else
      some (Sum.inl (x2 + 1))
    else none
def fM_bring (x1 : Int32) (M : Mm) : Option (Int32 × Mm) :=
  let M1 : Mm := mput M 217 0 0
  let v2 : Int32 := fM_health M1
  if v2 = 0 then
    some ((-2), M1)
  else
    Option.bind (lp 1000000 (fun s => fM_bring_b17 x1 M1 s) 0) fun e17 =>
    match e17 with
    | Sum.inl p17 =>
        let y5 : Int32 := p17
        Option.bind (fM_keepsAhead M1) fun M7 =>
        Option.bind (fM_brings y5 M7) fun q9 =>
        some (q9.1, q9.2)
    | Sum.inr p17 =>
        some ((-2), M1)
def fM_rain (x1 : Int32) (M : Mm) : Option (Int32 × Mm) :=
  let M1 : Mm := mput M 217 0 0
  let v2 : Int32 := fM_isIn x1 0 9
  if v2 = 0 then
    some (0, M1)
  else
    Option.bind (fM_keepsAhead M1) fun M4 =>
    let M5 : Mm := mput M4 218 8 x1
    some (1, M5)
def fM_morning_b9 (x1 : Int32) (M : Mm) : Option ((Int32 × Mm) ⊕ Mm) :=
  if (4 * (M 217 32)) ≤ x1 then
    some (Sum.inr M)
  else
    if inb x1 128 then
    Option.bind (
      if (M 233 (jix x1)) = (M 218 0) then
        if 24 ≤ (M 218 10) then
          let M3 : Mm := mput M 218 7 ((M 218 7) + 1)
          if inb (x1 + 1) 128 then
          Option.bind (fM_notes 3 (-1) (M3 233 (jix (x1 + 1))) M3) fun M6 =>
          some M6
          else none
        else
          if inb (x1 + 1) 128 then
          if inb (x1 + 2) 128 then
          if inb (x1 + 3) 128 then
          Option.bind (fM_comes (M 233 (jix (x1 + 1))) (M 233 (jix (x1 + 2))) (M 233 (jix (x1 + 3))) M) fun q11 =>
          some q11.2
          else none
          else none
          else none
      else
        some M) fun M12 =>
    let v13 : Int32 := (x1 + 4)
    some (Sum.inl (v13, M12))
    else none
def fM_morning (M : Mm) : Option Mm :=
  let M1 : Mm := mput M 218 3 0
  Option.bind (lp 1000000 (fun s => fM_morning_b9 s.1 s.2) (0, M1)) fun e9 =>
  let M14 : Mm := e9
  some M14
def fM_walksTo_b4 (x1 : Int32) (x2 : Int32) (x3 : Int32) (M : Mm) : Option ((Int32 × Int32 × Mm) ⊕ (Int32 × Mm)) :=
  if (M 218 10) ≤ x3 then
    some (Sum.inr (x2, M))
  else
    Option.bind (fM_doorOf x3 M) fun q2 =>
    Option.bind (
      if q2 = x1 then
        if 24 ≤ (M 218 3) then
          some (0, M)
        else
          let v3 : Int32 := fM_health M
          if v3 ≤ 0 then
            some (0, M)
          else
            Option.bind (fM_brings x3 M) fun q5 =>
            if q5.1 = (-1) then
              some (0, q5.2)
            else
              some (1, q5.2)
      else
        some (0, M)) fun t56 =>
    let y6 : Int32 := t56.1
    let M7 : Mm := t56.2
    if y6 = 0 then
      let v8 : Int32 := (x3 + 1)
      some (Sum.inl (x2, v8, M7))
    else
      let v9 : Int32 := (x2 + 1)
      let M10 : Mm := mput M7 217 40 ((M7 217 40) ||| ((1 : Int32) <<< (x1 &&& 31)))
      some (Sum.inl (v9, x3, M10))
def fM_walksTo (x1 : Int32) (M : Mm) : Option (Int32 × Mm) :=
  Option.bind (lp 1000000 (fun s => fM_walksTo_b4 x1 s.1 s.2.1 s.2.2) (0, 0, M)) fun e4 =>
  let y11 : Int32 := e4.1
  let M12 : Mm := e4.2
  some (y11, M12)
def fM_lettersAge_b2 (x1 : Int32) (M : Mm) : Option ((Int32 × Mm) ⊕ Mm) :=
  if (M 218 10) ≤ x1 then
    some (Sum.inr M)
  else
    let v1 : Int32 := fM_letterAt x1
    if inb (v1 + 4) 174 then
    if inb (v1 + 4) 174 then
    let M3 : Mm := mput M 218 (jix (v1 + 4)) ((M 218 (jix (v1 + 4))) + 1)
    if inb (v1 + 4) 174 then
    if 9 ≤ (M3 218 (jix (v1 + 4))) then
      let M6 : Mm := mput M3 218 7 ((M3 218 7) + 1)
      if inb v1 174 then
      if inb (v1 + 1) 174 then
      Option.bind (fM_notes 3 (M6 218 (jix v1)) (M6 218 (jix (v1 + 1))) M6) fun M10 =>
      Option.bind (fM_goesOut x1 M10) fun M12 =>
      some (Sum.inl (x1, M12))
      else none
      else none
    else
      let v13 : Int32 := (x1 + 1)
      some (Sum.inl (v13, M3))
    else none
    else none
    else none
def fM_lettersAge (M : Mm) : Option Mm :=
  Option.bind (lp 1000000 (fun s => fM_lettersAge_b2 s.1 s.2) (0, M)) fun e2 =>
  let M14 : Mm := e2
  some M14
def fM_evening_b52 (x1 : Int32) (M : Mm) : Option ((Int32 × Mm) ⊕ Mm) :=
  if (M 217 6) ≤ x1 then
    some (Sum.inr M)
  else
    let v7 : Int32 := fM_lies (M 217 40) x1
    Option.bind (
      if v7 = 0 then
        if inb (18 + x1) 174 then
        Option.bind (
          if (M 218 (jix (18 + x1))) ≤ 0 then
            if inb (18 + x1) 174 then
            if 0 ≤ (M 218 (jix (18 + x1))) then
              some 0
            else
              some 1
            else none
          else
            some (-1)) fun y10 =>
        Option.bind (fM_looks x1 y10 M) fun M12 =>
        some M12
        else none
      else
        some M) fun M13 =>
    some (Sum.inl ((x1 + 1), M13))
def fM_evening (M : Mm) : Option Mm :=
  let v1 : Int32 := fM_lesser 99 ((M 218 5) + 5)
  let M2 : Mm := mput M 218 5 v1
  Option.bind (
    if (M2 218 5) ≤ 50 then
      let v3 : Int32 := fM_health M2
      some (v3 + 3)
    else
      let v4 : Int32 := fM_health M2
      some (v4 - 5)) fun y5 =>
  let M6 : Mm := fM_hasHealth y5 M2
  Option.bind (lp 1000000 (fun s => fM_evening_b52 s.1 s.2) (0, M6)) fun e52 =>
  let M14 : Mm := e52
  let M15 : Mm := mput M14 218 0 ((M14 218 0) + 1)
  some M15
def fM_goesBy_b13 (x1 : Int32) (x2 : Int32) (M : Mm) : Option ((Int32 × Int32 × Mm) ⊕ (Int32 × Mm)) :=
  if (M 217 34) ≤ x2 then
    some (Sum.inr (x1, M))
  else
    if inb x2 32 then
    Option.bind (fM_walksTo (M 234 (jix x2)) M) fun q6 =>
    let v7 : Int32 := (x1 + q6.1)
    some (Sum.inl (v7, (x2 + 1), q6.2))
    else none
def fM_goesBy (M : Mm) : Option (Int32 × Mm) :=
  Option.bind (fM_morning M) fun M2 =>
  let M3 : Mm := mput M2 217 40 0
  Option.bind (lp 1000000 (fun s => fM_goesBy_b13 s.1 s.2.1 s.2.2) (0, 0, M3)) fun e13 =>
  let y8 : Int32 := e13.1
  let M9 : Mm := e13.2
  Option.bind (fM_lettersAge M9) fun M11 =>
  Option.bind (fM_evening M11) fun M13 =>
  some (y8, M13)
def fM_days_b36 (x1 : Int32) (x2 : Int32) (x3 : Int32) (M : Mm) : Option ((Int32 × Int32 × Mm) ⊕ (Int32 × Mm)) :=
  if x1 ≤ x3 then
    some (Sum.inr (x2, M))
  else
    Option.bind (fM_keepsAhead M) fun M4 =>
    Option.bind (fM_goesBy M4) fun q6 =>
    let v7 : Int32 := (x2 + q6.1)
    some (Sum.inl (v7, (x3 + 1), q6.2))
def fM_days (x1 : Int32) (M : Mm) : Option (Int32 × Mm) :=
  let M1 : Mm := mput M 217 0 0
  let v2 : Int32 := fM_isIn x1 1 60
  if v2 = 0 then
    some ((-1), M1)
  else
    if ((M1 218 0) + x1) ≤ 9999 then
      Option.bind (lp 1000000 (fun s => fM_days_b36 x1 s.1 s.2.1 s.2.2) (0, 0, M1)) fun e36 =>
      let y8 : Int32 := e36.1
      let M9 : Mm := e36.2
      some (y8, M9)
    else
      some ((-1), M1)
def fM_of (x1 : Int32) (x2 : Int32) (M : Mm) : Option (Int32 × Mm) :=
  let M1 : Mm := mput M 217 0 0
  let v2 : Int32 := fM_isDoor x1 M1
  if v2 = 0 then
    some ((-100), M1)
  else
    if x2 = 0 then
      if inb (18 + x1) 174 then
      some ((M1 218 (jix (18 + x1))), M1)
      else none
    else
      if x2 = 1 then
        if inb x1 12 then
        some ((M1 221 (jix x1)), M1)
        else none
      else
        if x2 = 2 then
          if inb (30 + x1) 174 then
          some ((M1 218 (jix (30 + x1))), M1)
          else none
        else
          if x2 = 3 then
            if inb (42 + x1) 174 then
            some ((M1 218 (jix (42 + x1))), M1)
            else none
          else
            if x2 = 4 then
              Option.bind (fM_lettersFor x1 M1) fun q7 =>
              some (q7, M1)
            else
              let v3 : Int32 := fM_isIn x2 10 (9 + (M1 217 6))
              if v3 = 0 then
                some ((-100), M1)
              else
                if inb (((12 * x1) + x2) - 10) 288 then
                let v5 : Int32 := (M1 235 (jix (((12 * x1) + x2) - 10)))
                if v5 = 0 then
                  some ((-1), M1)
                else
                  some (v5, M1)
                else none
def fM_letter (x1 : Int32) (x2 : Int32) (M : Mm) : Option (Int32 × Mm) :=
  let M1 : Mm := mput M 217 0 0
  let v2 : Int32 := fM_isIn x1 0 ((M1 218 10) - 1)
  if v2 = 0 then
    some ((-1), M1)
  else
    let v3 : Int32 := fM_isIn x2 0 7
    if v3 = 0 then
      some ((-1), M1)
    else
      if 5 ≤ x2 then
        Option.bind (fM_asksOf x1 M1) fun M5 =>
        if x2 = 5 then
          Option.bind (fM_opensNow M5) fun q11 =>
          some (q11.1, q11.2)
        else
          if x2 = 6 then
            Option.bind (fM_givesNow M5) fun q9 =>
            some (q9.1, q9.2)
          else
            Option.bind (fM_tiresNow M5) fun q7 =>
            some (q7.1, q7.2)
      else
        let v12 : Int32 := fM_letterAt x1
        if inb (v12 + x2) 174 then
        some ((M1 218 (jix (v12 + x2))), M1)
        else none
def fM_given (x1 : Int32) (M : Mm) : Option (Int32 × Mm) :=
  let M1 : Mm := mput M 217 0 0
  let v2 : Int32 := fM_isIn x1 0 6
  if v2 = 0 then
    some ((-1), M1)
  else
    if inb (11 + x1) 174 then
    some ((M1 218 (jix (11 + x1))), M1)
    else none
def fM_book (x1 : Int32) (x2 : Int32) (M : Mm) : Option (Int32 × Mm) :=
  let M1 : Mm := mput M 217 0 0
  let v2 : Int32 := fM_isIn x1 0 ((M1 218 2) - 1)
  if v2 = 0 then
    some ((-2), M1)
  else
    let v3 : Int32 := fM_isIn x2 0 3
    if v3 = 0 then
      some ((-2), M1)
    else
      if inb ((4 * x1) + x2) 600 then
      some ((M1 222 (jix ((4 * x1) + x2))), M1)
      else none
def fM_goes_b34 (x1 : Int32) (x2 : Int32) (x3 : Int32) (M : Mm) : Option ((Int32 × Mm) ⊕ Mm) :=
  if x1 ≤ x3 then
    some (Sum.inr M)
  else
    Option.bind (fM_goesBy M) fun q7 =>
    some (Sum.inl ((x3 + 1), q7.2))
def fM_goes (x1 : Int32) (x2 : Int32) (M : Mm) : Option (Int32 × Mm) :=
  let M1 : Mm := mput M 217 0 0
  let v2 : Int32 := fM_isIn x1 1 60
  if v2 = 0 then
    some ((-1), M1)
  else
    let v3 : Int32 := fM_isIn x2 0 3
    if v3 = 0 then
      some ((-1), M1)
    else
      Option.bind (fM_thinks M1) fun M5 =>
      Option.bind (lp 1000000 (fun s => fM_goes_b34 x1 x2 s.1 s.2) (0, M5)) fun e34 =>
      let M8 : Mm := e34
      Option.bind (
        if x2 = 0 then
          let v9 : Int32 := fM_health M8
          some v9
        else
          if x2 = 1 then
            some (M8 218 5)
          else
            if x2 = 2 then
              some (M8 218 10)
            else
              some (M8 218 7)) fun y10 =>
      Option.bind (fM_endsThought M8) fun M12 =>
      some (y10, M12)
def fM_findsWays_b12 (x1 : Int32) (x2 : Int32) (M : Mm) : Option ((Int32 × Mm) ⊕ Mm) :=
  if (M 217 6) ≤ x2 then
    some (Sum.inr M)
  else
    Option.bind (
      if x1 = x2 then
        some 0
      else
        if inb ((12 * x1) + x2) 288 then
        if (M 235 (jix ((12 * x1) + x2))) = 0 then
          some 100000000
        else
          if inb ((12 * x1) + x2) 288 then
          some (M 235 (jix ((12 * x1) + x2)))
          else none
        else none) fun y3 =>
    if inb ((12 * x1) + x2) 144 then
    let M4 : Mm := mput M 238 (jix ((12 * x1) + x2)) y3
    some (Sum.inl ((x2 + 1), M4))
    else none
def fM_findsWays_b2 (x1 : Int32) (M : Mm) : Option ((Int32 × Mm) ⊕ Mm) :=
  if (M 217 6) ≤ x1 then
    some (Sum.inr M)
  else
    Option.bind (lp 1000000 (fun s => fM_findsWays_b12 x1 s.1 s.2) (0, M)) fun e12 =>
    let M6 : Mm := e12
    some (Sum.inl ((x1 + 1), M6))
def fM_findsWays_b105 (x1 : Int32) (x2 : Int32) (x3 : Int32) (M : Mm) : Option ((Int32 × Mm) ⊕ Mm) :=
  if (M 217 6) ≤ x3 then
    some (Sum.inr M)
  else
    if inb ((12 * x2) + x3) 144 then
    if inb ((12 * x2) + x1) 144 then
    if inb ((12 * x1) + x3) 144 then
    let v11 : Int32 := fM_lesser (M 238 (jix ((12 * x2) + x3))) ((M 238 (jix ((12 * x2) + x1))) + (M 238 (jix ((12 * x1) + x3))))
    if inb ((12 * x2) + x3) 144 then
    let M12 : Mm := mput M 238 (jix ((12 * x2) + x3)) v11
    some (Sum.inl ((x3 + 1), M12))
    else none
    else none
    else none
    else none
def fM_findsWays_b95 (x1 : Int32) (x2 : Int32) (M : Mm) : Option ((Int32 × Mm) ⊕ Mm) :=
  if (M 217 6) ≤ x2 then
    some (Sum.inr M)
  else
    Option.bind (lp 1000000 (fun s => fM_findsWays_b105 x1 x2 s.1 s.2) (0, M)) fun e105 =>
    let M14 : Mm := e105
    some (Sum.inl ((x2 + 1), M14))
def fM_findsWays_b85 (x1 : Int32) (M : Mm) : Option ((Int32 × Mm) ⊕ Mm) :=
  if (M 217 6) ≤ x1 then
    some (Sum.inr M)
  else
    Option.bind (lp 1000000 (fun s => fM_findsWays_b95 x1 s.1 s.2) (0, M)) fun e95 =>
    let M15 : Mm := e95
    some (Sum.inl ((x1 + 1), M15))
def fM_findsWays (M : Mm) : Option Mm :=
  Option.bind (lp 1000000 (fun s => fM_findsWays_b2 s.1 s.2) (0, M)) fun e2 =>
  let M7 : Mm := e2
  Option.bind (lp 1000000 (fun s => fM_findsWays_b85 s.1 s.2) (0, M7)) fun e85 =>
  let M16 : Mm := e85
  some M16
def fM_findsGoals_b7 (x1 : Int32) (x2 : Int32) (M : Mm) : Option ((Int32 × Mm) ⊕ Mm) :=
  if (M 217 6) ≤ x2 then
    some (Sum.inr M)
  else
    Option.bind (
      if x2 = x1 then
        some M
      else
        Option.bind (fM_lettersFor x2 M) fun q3 =>
        if q3 = 0 then
          some M
        else
          if inb (M 217 42) 12 then
          let M4 : Mm := mput M 239 (jix (M 217 42)) x2
          let M6 : Mm := mput M4 217 42 ((M4 217 42) + 1)
          some M6
          else none) fun M7 =>
    some (Sum.inl ((x2 + 1), M7))
def fM_findsGoals (x1 : Int32) (M : Mm) : Option Mm :=
  let M1 : Mm := mput M 217 42 0
  Option.bind (lp 1000000 (fun s => fM_findsGoals_b7 x1 s.1 s.2) (0, M1)) fun e7 =>
  let M8 : Mm := e7
  some M8
def fM_leastTo_b39 (x3 : Int32) (x4 : Int32) (M : Mm) (x5 : Int32) (x6 : Int32) : Option ((Int32 × Int32) ⊕ Int32) :=
  if (M 217 42) ≤ x6 then
    some (Sum.inr x5)
  else
    let v2 : Int32 := fM_lies x4 x6
    Option.bind (
      if v2 = 0 then
        some x5
      else
        if inb ((8 * x4) + x6) 2048 then
        if inb x6 12 then
        if inb x3 12 then
        if inb ((12 * (M 239 (jix x6))) + (M 239 (jix x3))) 144 then
        let v7 : Int32 := fM_lesser x5 ((M 240 (jix ((8 * x4) + x6))) + (M 238 (jix ((12 * (M 239 (jix x6))) + (M 239 (jix x3))))))
        some v7
        else none
        else none
        else none
        else none) fun y8 =>
    some (Sum.inl (y8, (x6 + 1)))
def fM_leastTo (x1 : Int32) (x2 : Int32) (x3 : Int32) (M : Mm) : Option Int32 :=
  let v1 : Int32 := (x2 &&& (((1 : Int32) <<< (x3 &&& 31)) ^^^ (-1)))
  if v1 = 0 then
    if inb x3 12 then
    if inb ((12 * x1) + (M 239 (jix x3))) 144 then
    some (M 238 (jix ((12 * x1) + (M 239 (jix x3)))))
    else none
    else none
  else
    Option.bind (lp 1000000 (fun s => fM_leastTo_b39 x3 v1 M s.1 s.2) (100000000, 0)) fun e39 =>
    let y9 : Int32 := e39
    some y9
def fM_shortest_b83 (x1 : Int32) (x2 : Int32) (x3 : Int32) (x4 : Int32) (x5 : Int32) (M : Mm) : Option ((Int32 × Mm) ⊕ Mm) :=
  if (M 217 42) ≤ x5 then
    some (Sum.inr M)
  else
    let v9 : Int32 := fM_lies x4 x5
    Option.bind (
      if v9 = 0 then
        some M
      else
        Option.bind (fM_leastTo x1 x4 x5 M) fun q11 =>
        if inb ((8 * x4) + x5) 2048 then
        let M12 : Mm := mput M 240 (jix ((8 * x4) + x5)) q11
        some M12
        else none) fun M14 =>
    some (Sum.inl ((x5 + 1), M14))
def fM_shortest_b74 (x1 : Int32) (x2 : Int32) (x3 : Int32) (x4 : Int32) (M : Mm) : Option ((Int32 × Mm) ⊕ Mm) :=
  if x3 < x4 then
    some (Sum.inr M)
  else
    Option.bind (lp 1000000 (fun s => fM_shortest_b83 x1 x2 x3 x4 s.1 s.2) (0, M)) fun e83 =>
    let M15 : Mm := e83
    some (Sum.inl ((x4 + 1), M15))
def fM_shortest_b143 (x2 : Int32) (x3 : Int32) (M : Mm) (x4 : Int32) (x5 : Int32) : Option ((Int32 × Int32) ⊕ Int32) :=
  if (M 217 42) ≤ x5 then
    some (Sum.inr x4)
  else
    if inb ((8 * x3) + x5) 2048 then
    if inb ((8 * x3) + x4) 2048 then
    some (Sum.inl ((if (M 240 (jix ((8 * x3) + x4))) ≤ (M 240 (jix ((8 * x3) + x5))) then x4 else x5), (x5 + 1)))
    else none
    else none
def fM_shortest (x1 : Int32) (x2 : Int32) (M : Mm) : Option (Int32 × Mm) :=
  let M1 : Mm := mput M 217 0 0
  let v2 : Int32 := fM_isDoor x1 M1
  if v2 = 0 then
    some ((-1), M1)
  else
    let v3 : Int32 := fM_isIn x2 0 1
    if v3 = 0 then
      some ((-1), M1)
    else
      Option.bind (fM_findsGoals x1 M1) fun M5 =>
      if (M5 217 42) ≤ 8 then
        if (M5 217 42) = 0 then
          if x2 = 0 then
            some (0, M5)
          else
            some (x1, M5)
        else
          Option.bind (fM_findsWays M5) fun M7 =>
          let v8 : Int32 := (((1 : Int32) <<< ((M7 217 42) &&& 31)) - 1)
          Option.bind (lp 1000000 (fun s => fM_shortest_b74 x1 x2 v8 s.1 s.2) (1, M7)) fun e74 =>
          let M16 : Mm := e74
          Option.bind (lp 1000000 (fun s => fM_shortest_b143 x2 v8 M16 s.1 s.2) (0, 1)) fun e143 =>
          let y19 : Int32 := e143
          if inb ((8 * v8) + y19) 2048 then
          if (M16 240 (jix ((8 * v8) + y19))) < 100000000 then
            if x2 = 0 then
              if inb ((8 * v8) + y19) 2048 then
              some ((M16 240 (jix ((8 * v8) + y19))), M16)
              else none
            else
              if inb y19 12 then
              some ((M16 239 (jix y19)), M16)
              else none
          else
            some ((-1), M16)
          else none
      else
        some ((-1), M5)
def fM_farthestFrom_b4 (x1 : Int32) (M : Mm) (x2 : Int32) (x3 : Int32) : Option ((Int32 × Int32) ⊕ Int32) :=
  if (M 217 6) ≤ x3 then
    some (Sum.inr x2)
  else
    if inb ((12 * x1) + x3) 144 then
    let v2 : Int32 := fM_greater x2 (M 238 (jix ((12 * x1) + x3)))
    some (Sum.inl (v2, (x3 + 1)))
    else none
def fM_farthestFrom (x1 : Int32) (M : Mm) : Option Int32 :=
  Option.bind (lp 1000000 (fun s => fM_farthestFrom_b4 x1 M s.1 s.2) (0, 0)) fun e4 =>
  let y3 : Int32 := e4
  some y3
def fM_box_b32 (x1 : Int32) (M : Mm) (x2 : Int32) (x3 : Int32) : Option ((Int32 × Int32) ⊕ Int32) :=
  if (M 217 6) ≤ x3 then
    some (Sum.inr x2)
  else
    Option.bind (fM_farthestFrom x3 M) fun q6 =>
    Option.bind (fM_farthestFrom x2 M) fun q8 =>
    some (Sum.inl ((if q8 ≤ q6 then x2 else x3), (x3 + 1)))
def fM_box (x1 : Int32) (M : Mm) : Option (Int32 × Mm) :=
  let M1 : Mm := mput M 217 0 0
  if (M1 217 6) = 0 then
    some ((-1), M1)
  else
    let v2 : Int32 := fM_isIn x1 0 1
    if v2 = 0 then
      some ((-1), M1)
    else
      Option.bind (fM_findsWays M1) fun M4 =>
      Option.bind (lp 1000000 (fun s => fM_box_b32 x1 M4 s.1 s.2) (0, 1)) fun e32 =>
      let y9 : Int32 := e32
      Option.bind (fM_farthestFrom y9 M4) fun q11 =>
      if q11 < 100000000 then
        if x1 = 0 then
          some (y9, M4)
        else
          Option.bind (fM_farthestFrom y9 M4) fun q13 =>
          some (q13, M4)
      else
        some ((-1), M4)
def fM_blow (x1 : Int32) (M : Mm) : Option (Int32 × Mm) :=
  let M1 : Mm := mput M 217 0 0
  if x1 = 0 then
    let M6 : Mm := mput M1 217 45 0
    some (0, M6)
  else
    let v2 : Int32 := fM_isIn x1 (-50) 50
    if v2 = 0 then
      some ((-1), M1)
    else
      if (M1 217 45) = 8 then
        some ((-1), M1)
      else
        if inb (M1 217 45) 8 then
        let M3 : Mm := mput M1 241 (jix (M1 217 45)) x1
        let M5 : Mm := mput M3 217 45 ((M3 217 45) + 1)
        some ((M5 217 45), M5)
        else none
def fM_behind (x1 : Int32) (x2 : Int32) (M : Mm) : Option Int32 :=
  Option.bind (
    if x1 = (-1) then
      some (-1)
    else
      if inb x2 8 then
      let v2 : Int32 := fM_lesser 99 (x1 + (M 241 (jix x2)))
      some v2
      else none) fun y3 =>
  if 1 ≤ y3 then
    some y3
  else
    some (-1)
def fM_mostLeft_j111 (z1 : Int32) (z2 : Int32) (z3 : Int32) (z4 : Int32) (z5 : Int32) (M : Mm) : Option Mm :=
  if inb z4 256 then
  if inb (z4 &&& (((1 : Int32) <<< (z5 &&& 31)) ^^^ (-1))) 256 then
  Option.bind (fM_behind (M 242 (jix (z4 &&& (((1 : Int32) <<< (z5 &&& 31)) ^^^ (-1))))) z5 M) fun q14 =>
  let v15 : Int32 := fM_greater (M 242 (jix z4)) q14
  if inb z4 256 then
  let M16 : Mm := mput M 242 (jix z4) v15
  some M16
  else none
  else none
  else none
def fM_mostLeft_b69 (x1 : Int32) (x2 : Int32) (x3 : Int32) (x4 : Int32) (x5 : Int32) (M : Mm) : Option ((Int32 × Mm) ⊕ Mm) :=
  if (M 217 45) ≤ x5 then
    some (Sum.inr M)
  else
    let v9 : Int32 := fM_lies x4 x5
    Option.bind (
      if v9 = 0 then
        some M
      else
        if x2 = (-1) then
          fM_mostLeft_j111 x1 x2 x3 x4 x5 M
        else
          let v10 : Int32 := fM_lies (x4 &&& (((1 : Int32) <<< (x5 &&& 31)) ^^^ (-1))) x2
          if v10 = 0 then
            some M
          else
            fM_mostLeft_j111 x1 x2 x3 x4 x5 M) fun M18 =>
    some (Sum.inl ((x5 + 1), M18))
def fM_mostLeft_b12 (x1 : Int32) (x2 : Int32) (x3 : Int32) (x4 : Int32) (M : Mm) : Option ((Int32 × Mm) ⊕ Mm) :=
  if x3 < x4 then
    some (Sum.inr M)
  else
    if inb x4 256 then
    let M2 : Mm := mput M 242 (jix x4) (if x4 = 0 then (if x2 = (-1) then x1 else (-1)) else (-1))
    Option.bind (
      if x2 = (-1) then
        some M2
      else
        if x4 = ((1 : Int32) <<< (x2 &&& 31)) then
          Option.bind (fM_behind x1 x2 M2) fun q5 =>
          if inb x4 256 then
          let M6 : Mm := mput M2 242 (jix x4) q5
          some M6
          else none
        else
          some M2) fun M8 =>
    Option.bind (lp 1000000 (fun s => fM_mostLeft_b69 x1 x2 x3 x4 s.1 s.2) (0, M8)) fun e69 =>
    let M19 : Mm := e69
    some (Sum.inl ((x4 + 1), M19))
    else none
def fM_mostLeft (x1 : Int32) (x2 : Int32) (M : Mm) : Option (Int32 × Mm) :=
  let v1 : Int32 := (((1 : Int32) <<< ((M 217 45) &&& 31)) - 1)
  Option.bind (lp 1000000 (fun s => fM_mostLeft_b12 x1 x2 v1 s.1 s.2) (0, M)) fun e12 =>
  let M20 : Mm := e12
  if inb v1 256 then
  some ((M20 242 (jix v1)), M20)
  else none
def fM_bears_b42 (x1 : Int32) (x3 : Int32) (M : Mm) : Option ((Int32 × Mm) ⊕ ((Int32 × Mm) ⊕ Mm)) :=
  if (M 217 45) ≤ x3 then
    some (Sum.inr (Sum.inr M))
  else
    Option.bind (fM_mostLeft x1 x3 M) fun q5 =>
    if q5.1 = (-1) then
      some (Sum.inl ((x3 + 1), q5.2))
    else
      some (Sum.inr (Sum.inl (x3, q5.2)))
def fM_bears (x1 : Int32) (x2 : Int32) (M : Mm) : Option (Int32 × Mm) :=
  let M1 : Mm := mput M 217 0 0
  let v2 : Int32 := fM_isIn x1 1 99
  if v2 = 0 then
    some ((-1), M1)
  else
    let v3 : Int32 := fM_isIn x2 0 1
    if v3 = 0 then
      some ((-1), M1)
    else
      if x2 = 1 then
        Option.bind (fM_mostLeft x1 (-1) M1) fun q10 =>
        some (q10.1, q10.2)
      else
        Option.bind (lp 1000000 (fun s => fM_bears_b42 x1 s.1 s.2) (0, M1)) fun e42 =>
        match e42 with
        | Sum.inl p42 =>
            let y6 : Int32 := p42.1
            let M7 : Mm := p42.2
            some (y6, M7)
        | Sum.inr p42 =>
            let M8 : Mm := p42
            some ((-1), M8)
def fM_findsCarried_b2 (x1 : Int32) (x2 : Int32) (M : Mm) : Option ((Int32 × Mm) ⊕ Mm) :=
  if 10025 ≤ x2 then
    some (Sum.inr M)
  else
    if inb x2 10025 then
    let M1 : Mm := mput M 243 (jix x2) (if x2 = 0 then 1 else 0)
    some (Sum.inl ((x2 + 1), M1))
    else none
def fM_findsCarried_b67 (x1 : Int32) (x2 : Int32) (x3 : Int32) (x4 : Int32) (x5 : Int32) (M : Mm) : Option ((Int32 × Mm) ⊕ Mm) :=
  if x1 < (x5 + x3) then
    some (Sum.inr M)
  else
    if inb (((401 * (x4 + 1)) + x5) + x3) 10025 then
    if inb ((401 * x4) + x5) 10025 then
    let v9 : Int32 := fM_added (M 243 (jix (((401 * (x4 + 1)) + x5) + x3))) (M 243 (jix ((401 * x4) + x5)))
    if inb (((401 * (x4 + 1)) + x5) + x3) 10025 then
    let M10 : Mm := mput M 243 (jix (((401 * (x4 + 1)) + x5) + x3)) v9
    some (Sum.inl ((x5 + 1), M10))
    else none
    else none
    else none
def fM_findsCarried_b59 (x1 : Int32) (x2 : Int32) (x3 : Int32) (x4 : Int32) (M : Mm) : Option ((Int32 × Mm) ⊕ Mm) :=
  if x4 < 0 then
    some (Sum.inr M)
  else
    Option.bind (lp 1000000 (fun s => fM_findsCarried_b67 x1 x2 x3 x4 s.1 s.2) (0, M)) fun e67 =>
    let M12 : Mm := e67
    some (Sum.inl ((x4 + (-1)), M12))
def fM_findsCarried_b32 (x1 : Int32) (x2 : Int32) (M : Mm) : Option ((Int32 × Mm) ⊕ Mm) :=
  if (M 218 10) ≤ x2 then
    some (Sum.inr M)
  else
    let v4 : Int32 := fM_letterAt x2
    if inb (v4 + 3) 174 then
    let v6 : Int32 := (M 218 (jix (v4 + 3)))
    Option.bind (lp 1000000 (fun s => fM_findsCarried_b59 x1 x2 v6 s.1 s.2) (x2, M)) fun e59 =>
    let M13 : Mm := e59
    some (Sum.inl ((x2 + 1), M13))
    else none
def fM_findsCarried (x1 : Int32) (M : Mm) : Option Mm :=
  Option.bind (lp 1000000 (fun s => fM_findsCarried_b2 x1 s.1 s.2) (0, M)) fun e2 =>
  let M3 : Mm := e2
  Option.bind (lp 1000000 (fun s => fM_findsCarried_b32 x1 s.1 s.2) (0, M3)) fun e32 =>
  let M14 : Mm := e32
  some M14
def fM_carries_b47 (x1 : Int32) (x2 : Int32) (x5 : Int32) (M : Mm) (x3 : Int32) (x4 : Int32) (x6 : Int32) : Option ((Int32 × Int32 × Int32) ⊕ (Int32 × Int32)) :=
  if (M 218 10) ≤ x6 then
    some (Sum.inr (x3, x4))
  else
    let v4 : Int32 := fM_letterAt x6
    if inb (v4 + 3) 174 then
    Option.bind (
      if (M 218 (jix (v4 + 3))) = x5 then
        if (x4 + x5) ≤ x1 then
          let v6 : Int32 := (x4 + x5)
          let v7 : Int32 := (x3 + 1)
          some (v7, v6)
        else
          some (x3, x4)
      else
        some (x3, x4)) fun t100 =>
    let y8 : Int32 := t100.1
    let y9 : Int32 := t100.2
    some (Sum.inl (y8, y9, (x6 + 1)))
    else none
def fM_carries_b37 (x1 : Int32) (x2 : Int32) (M : Mm) (x3 : Int32) (x4 : Int32) (x5 : Int32) : Option ((Int32 × Int32 × Int32) ⊕ Int32) :=
  if 99 < x5 then
    some (Sum.inr x3)
  else
    Option.bind (lp 1000000 (fun s => fM_carries_b47 x1 x2 x5 M s.1 s.2.1 s.2.2) (x3, x4, 0)) fun e47 =>
    let y10 : Int32 := e47.1
    let y11 : Int32 := e47.2
    some (Sum.inl (y10, y11, (x5 + 1)))
def fM_carries_b129 (x1 : Int32) (x3 : Int32) (M : Mm) (x5 : Int32) (x6 : Int32) : Option ((Int32 × Int32) ⊕ Int32) :=
  if x1 < x6 then
    some (Sum.inr x5)
  else
    if inb ((401 * x3) + x6) 10025 then
    let v16 : Int32 := fM_added x5 (M 243 (jix ((401 * x3) + x6)))
    some (Sum.inl (v16, (x6 + 1)))
    else none
def fM_carries (x1 : Int32) (x2 : Int32) (M : Mm) : Option (Int32 × Mm) :=
  let M1 : Mm := mput M 217 0 0
  let v2 : Int32 := fM_isIn x1 1 400
  if v2 = 0 then
    some ((-1), M1)
  else
    let v3 : Int32 := fM_isIn x2 0 1
    if v3 = 0 then
      some ((-1), M1)
    else
      Option.bind (lp 1000000 (fun s => fM_carries_b37 x1 x2 M1 s.1 s.2.1 s.2.2) (0, 0, 1)) fun e37 =>
      let y12 : Int32 := e37
      if x2 = 0 then
        some (y12, M1)
      else
        Option.bind (fM_findsCarried x1 M1) fun M14 =>
        Option.bind (lp 1000000 (fun s => fM_carries_b129 x1 y12 M14 s.1 s.2) (0, 0)) fun e129 =>
        let y17 : Int32 := e129
        some (y17, M14)
def fM_owes_b18 (x4 : Int32) (M : Mm) : Option ((Int32 × Mm) ⊕ Mm) :=
  if 12 ≤ x4 then
    some (Sum.inr M)
  else
    if inb x4 12 then
    let M13 : Mm := mput M 244 (jix x4) 0
    some (Sum.inl ((x4 + 1), M13))
    else none
def fM_owes (x1 : Int32) (x2 : Int32) (x3 : Int32) (M : Mm) : Option (Int32 × Mm) :=
  let M1 : Mm := mput M 217 0 0
  if x1 = (-1) then
    let M12 : Mm := mput M1 217 49 0
    Option.bind (lp 1000000 (fun s => fM_owes_b18 s.1 s.2) (0, M12)) fun e18 =>
    let M15 : Mm := e18
    some (0, M15)
  else
    let v2 : Int32 := fM_isIn x1 0 11
    if v2 = 0 then
      some ((-1), M1)
    else
      let v3 : Int32 := fM_isIn x2 0 11
      if v3 = 0 then
        some ((-1), M1)
      else
        if x1 = x2 then
          some ((-1), M1)
        else
          let v4 : Int32 := fM_isIn x3 1 99
          if v4 = 0 then
            some ((-1), M1)
          else
            if (M1 217 49) = 16 then
              some ((-1), M1)
            else
              if inb x1 12 then
              if inb x1 12 then
              let M6 : Mm := mput M1 244 (jix x1) ((M1 244 (jix x1)) - x3)
              if inb x2 12 then
              if inb x2 12 then
              let M9 : Mm := mput M6 244 (jix x2) ((M6 244 (jix x2)) + x3)
              let M11 : Mm := mput M9 217 49 ((M9 217 49) + 1)
              some ((M11 217 49), M11)
              else none
              else none
              else none
              else none
def fM_netOf_b4 (x1 : Int32) (M : Mm) (x2 : Int32) (x3 : Int32) : Option ((Int32 × Int32) ⊕ Int32) :=
  if 12 ≤ x3 then
    some (Sum.inr x2)
  else
    let v1 : Int32 := fM_lies x1 x3
    Option.bind (
      if v1 = 0 then
        some x2
      else
        if inb x3 12 then
        let v3 : Int32 := (x2 + (M 244 (jix x3)))
        some v3
        else none) fun y4 =>
    some (Sum.inl (y4, (x3 + 1)))
def fM_netOf (x1 : Int32) (M : Mm) : Option Int32 :=
  Option.bind (lp 1000000 (fun s => fM_netOf_b4 x1 M s.1 s.2) (0, 0)) fun e4 =>
  let y5 : Int32 := e4
  some y5
def fM_fewestPayments_b4 (M : Mm) (x1 : Int32) (x2 : Int32) : Option ((Int32 × Int32) ⊕ Int32) :=
  if 12 ≤ x2 then
    some (Sum.inr x1)
  else
    if inb x2 12 then
    Option.bind (
      if (M 244 (jix x2)) = 0 then
        some x1
      else
        let v2 : Int32 := (x1 ||| ((1 : Int32) <<< (x2 &&& 31)))
        some v2) fun y3 =>
    some (Sum.inl (y3, (x2 + 1)))
    else none
def fM_fewestPayments_b61 (x1 : Int32) (x2 : Int32) (M : Mm) (x3 : Int32) (x4 : Int32) : Option ((Int32 × Int32) ⊕ Int32) :=
  if 12 ≤ x4 then
    some (Sum.inr x3)
  else
    let v6 : Int32 := fM_lies x2 x4
    Option.bind (
      if v6 = 0 then
        some x3
      else
        if inb (x2 &&& (((1 : Int32) <<< (x4 &&& 31)) ^^^ (-1))) 4096 then
        let v8 : Int32 := fM_greater x3 (M 245 (jix (x2 &&& (((1 : Int32) <<< (x4 &&& 31)) ^^^ (-1)))))
        some v8
        else none) fun y9 =>
    some (Sum.inl (y9, (x4 + 1)))
def fM_fewestPayments_b40 (x1 : Int32) (x2 : Int32) (M : Mm) : Option ((Int32 × Mm) ⊕ Mm) :=
  if x1 < x2 then
    some (Sum.inr M)
  else
    Option.bind (
      if (x2 &&& (x1 ^^^ (-1))) = 0 then
        Option.bind (lp 1000000 (fun s => fM_fewestPayments_b61 x1 x2 M s.1 s.2) (0, 0)) fun e61 =>
        let y10 : Int32 := e61
        Option.bind (fM_netOf x2 M) fun q12 =>
        if inb x2 4096 then
        let M13 : Mm := mput M 245 (jix x2) (y10 + (if q12 = 0 then 1 else 0))
        some M13
        else none
      else
        some M) fun M15 =>
    some (Sum.inl ((x2 + 1), M15))
def fM_fewestPayments (M : Mm) : Option (Int32 × Mm) :=
  Option.bind (lp 1000000 (fun s => fM_fewestPayments_b4 M s.1 s.2) (0, 0)) fun e4 =>
  let y4 : Int32 := e4
  let M5 : Mm := mput M 245 0 0
  Option.bind (lp 1000000 (fun s => fM_fewestPayments_b40 y4 s.1 s.2) (1, M5)) fun e40 =>
  let M16 : Mm := e40
  Option.bind (fM_onesOf y4) fun q18 =>
  if inb y4 4096 then
  some ((q18 - (M16 245 (jix y4))), M16)
  else none
def fM_net (x1 : Int32) (M : Mm) : Option (Int32 × Mm) :=
  let M1 : Mm := mput M 217 0 0
  let v2 : Int32 := fM_isIn x1 (-1) 11
  if v2 = 0 then
    some ((-10000), M1)
  else
    if x1 = (-1) then
      Option.bind (fM_fewestPayments M1) fun q5 =>
      some (q5.1, q5.2)
    else
      if inb x1 12 then
      some ((M1 244 (jix x1)), M1)
      else none
def fM_chain_j101 (z1 : Int32) (z2 : Int32) (z4 : Int32) (z5 : Int32) (z6 : Int32) (z7 : Int32) (z8 : Int32) (M : Mm) : Option ((Int32 × Int32 × Int32) ⊕ (Int32 ⊕ Int32 ⊕ Unit)) :=
  if z8 = z7 then
    some (Sum.inr (Sum.inr (Sum.inl z5)))
  else
    let v7 : Int32 := fM_lesser (z1 * z6) (z2 - z5)
    let v8 : Int32 := (z5 + v7)
    some (Sum.inl (v8, v7, (z8 + 1)))
def fM_chain_b79 (x1 : Int32) (x2 : Int32) (x4 : Int32) (x7 : Int32) (M : Mm) (x5 : Int32) (x6 : Int32) (x8 : Int32) : Option ((Int32 × Int32 × Int32) ⊕ (Int32 ⊕ Int32 ⊕ Unit)) :=
  if x7 < x8 then
    some (Sum.inr (Sum.inr (Sum.inr ())))
  else
    if x4 = 1 then
      if x5 = x2 then
        some (Sum.inr (Sum.inl x8))
      else
        fM_chain_j101 x1 x2 x4 x5 x6 x7 x8 M
    else
      fM_chain_j101 x1 x2 x4 x5 x6 x7 x8 M
def fM_chain_j57 (z1 : Int32) (z2 : Int32) (z3 : Int32) (z4 : Int32) (M : Mm) : Option (Int32 × Mm) :=
  let v6 : Int32 := (if z4 = 0 then z3 else 99)
  Option.bind (lp 1000000 (fun s => fM_chain_b79 z1 z2 z4 v6 M s.1 s.2.1 s.2.2) (1, 1, 0)) fun e79 =>
  match e79 with
  | Sum.inl p79 =>
      let y9 : Int32 := p79
      some (y9, M)
  | Sum.inr (Sum.inl p79) =>
      let y10 : Int32 := p79
      if z4 = 0 then
        some (y10, M)
      else
        some ((-1), M)
  | Sum.inr (Sum.inr p79) =>
      some ((-1), M)
def fM_chain (x1 : Int32) (x2 : Int32) (x3 : Int32) (x4 : Int32) (M : Mm) : Option (Int32 × Mm) :=
  let M1 : Mm := mput M 217 0 0
  let v2 : Int32 := fM_isIn x1 1 9
  if v2 = 0 then
    some ((-1), M1)
  else
    let v3 : Int32 := fM_isIn x2 1 9999
    if v3 = 0 then
      some ((-1), M1)
    else
      let v4 : Int32 := fM_isIn x4 0 1
      if v4 = 0 then
        some ((-1), M1)
      else
        if x4 = 0 then
          let v5 : Int32 := fM_isIn x3 0 99
          if v5 = 0 then
            some ((-1), M1)
          else
            fM_chain_j57 x1 x2 x3 x4 M1
        else
          fM_chain_j57 x1 x2 x3 x4 M1
def fM_has (x1 : Int32) (x2 : Int32) (M : Mm) : Option (Int32 × Mm) :=
  let M1 : Mm := mput M 217 0 0
  let v2 : Int32 := fM_isIn x1 0 25
  if v2 = 0 then
    some (0, M1)
  else
    let v3 : Int32 := fM_isIn x2 0 9
    if v3 = 0 then
      some (0, M1)
    else
      if inb x1 26 then
      let M4 : Mm := mput M1 246 (jix x1) x2
      some (1, M4)
      else none
def fM_spell (x1 : Int32) (M : Mm) : Option (Int32 × Mm) :=
  let M1 : Mm := mput M 217 0 0
  if x1 = (-1) then
    let M6 : Mm := mput M1 217 53 0
    some (0, M6)
  else
    let v2 : Int32 := fM_isIn x1 0 25
    if v2 = 0 then
      some ((-1), M1)
    else
      if (M1 217 53) = 8 then
        some ((-1), M1)
      else
        if inb (M1 217 53) 8 then
        let M3 : Mm := mput M1 247 (jix (M1 217 53)) x1
        let M5 : Mm := mput M3 217 53 ((M3 217 53) + 1)
        some ((M5 217 53), M5)
        else none
def fM_needOf_b5 (x1 : Int32) (x2 : Int32) (M : Mm) (x3 : Int32) (x4 : Int32) : Option ((Int32 × Int32) ⊕ Int32) :=
  if x2 ≤ x4 then
    some (Sum.inr x3)
  else
    if inb x4 8 then
    Option.bind (
      if (M 247 (jix x4)) = x1 then
        let v2 : Int32 := (x3 + 1)
        some v2
      else
        some x3) fun y3 =>
    some (Sum.inl (y3, (x4 + 1)))
    else none
def fM_needOf (x1 : Int32) (x2 : Int32) (M : Mm) : Option Int32 :=
  Option.bind (lp 1000000 (fun s => fM_needOf_b5 x1 x2 M s.1 s.2) (0, 0)) fun e5 =>
  let y4 : Int32 := e5
  some y4
def fM_lays_b37 (x1 : Int32) (M : Mm) (x2 : Int32) (x3 : Int32) (x4 : Int32) : Option ((Int32 × Int32 × Int32) ⊕ (Int32 × Int32)) :=
  if (M 217 53) ≤ x4 then
    some (Sum.inr (x2, x3))
  else
    if inb x4 8 then
    if inb (M 247 (jix x4)) 26 then
    if inb x4 8 then
    Option.bind (fM_needOf (M 247 (jix x4)) (M 217 53) M) fun q8 =>
    if ¬ q8 = 0 then
    let v10 : Int32 := fM_lesser x2 ((M 246 (jix (M 247 (jix x4)))) / q8)
    if inb x4 8 then
    Option.bind (fM_needOf (M 247 (jix x4)) (x4 + 1) M) fun q13 =>
    if ¬ q13 = 0 then
    let v15 : Int32 := ((x3 * (x4 + 1)) / q13)
    some (Sum.inl (v10, v15, (x4 + 1)))
    else none
    else none
    else none
    else none
    else none
    else none
def fM_lays (x1 : Int32) (M : Mm) : Option (Int32 × Mm) :=
  let M1 : Mm := mput M 217 0 0
  let v2 : Int32 := fM_isIn x1 0 1
  if v2 = 0 then
    some ((-1), M1)
  else
    let v3 : Int32 := (if (M1 217 53) = 0 then 0 else 100000000)
    Option.bind (lp 1000000 (fun s => fM_lays_b37 x1 M1 s.1 s.2.1 s.2.2) (v3, 1, 0)) fun e37 =>
    let y16 : Int32 := e37.1
    let y17 : Int32 := e37.2
    if x1 = 0 then
      some (y16, M1)
    else
      some (y17, M1)
def fM_answer_b17 (x3 : Int32) (M : Mm) : Option ((Int32 × Mm) ⊕ Mm) :=
  if 49 ≤ x3 then
    some (Sum.inr M)
  else
    if inb x3 49 then
    let M9 : Mm := mput M 248 (jix x3) 0
    some (Sum.inl ((x3 + 1), M9))
    else none
def fM_answer (x1 : Int32) (x2 : Int32) (M : Mm) : Option (Int32 × Mm) :=
  let M1 : Mm := mput M 217 0 0
  if x1 = (-1) then
    let M8 : Mm := mput M1 217 55 0
    Option.bind (lp 1000000 (fun s => fM_answer_b17 s.1 s.2) (0, M8)) fun e17 =>
    let M11 : Mm := e17
    some (0, M11)
  else
    let v2 : Int32 := fM_isIn x1 0 6
    if v2 = 0 then
      some ((-1), M1)
    else
      let v3 : Int32 := fM_isIn x2 0 6
      if v3 = 0 then
        some ((-1), M1)
      else
        if (M1 217 55) = 12 then
          some ((-1), M1)
        else
          if inb ((7 * x1) + x2) 49 then
          if inb ((7 * x1) + x2) 49 then
          let M5 : Mm := mput M1 248 (jix ((7 * x1) + x2)) ((M1 248 (jix ((7 * x1) + x2))) + 1)
          let M7 : Mm := mput M5 217 55 ((M5 217 55) + 1)
          some ((M7 217 55), M7)
          else none
          else none
def fM_likelyOf_b4 (x1 : Int32) (M : Mm) (x2 : Int32) (x3 : Int32) : Option ((Int32 × Int32) ⊕ Int32) :=
  if 7 ≤ x3 then
    some (Sum.inr x2)
  else
    if inb ((7 * x1) + x3) 49 then
    Option.bind (
      if x2 = (-1) then
        some 0
      else
        if inb ((7 * x1) + x2) 49 then
        some (M 248 (jix ((7 * x1) + x2)))
        else none) fun y3 =>
    some (Sum.inl ((if (M 248 (jix ((7 * x1) + x3))) ≤ y3 then x2 else x3), (x3 + 1)))
    else none
def fM_likelyOf (x1 : Int32) (M : Mm) : Option Int32 :=
  Option.bind (lp 1000000 (fun s => fM_likelyOf_b4 x1 M s.1 s.2) ((-1), 0)) fun e4 =>
  let y4 : Int32 := e4
  some y4
def fM_followsOf_b18 (M : Mm) (x2 : Int32) (x3 : Int32) (x4 : Int32) : Option ((Int32 × Int32 × Int32) ⊕ (Unit ⊕ Int32)) :=
  let v3 : Int32 := fM_lies x2 x3
  if v3 = 0 then
    let v4 : Int32 := (x2 ||| ((1 : Int32) <<< (x3 &&& 31)))
    Option.bind (fM_likelyOf x3 M) fun q6 =>
    let v7 : Int32 := (x4 + 1)
    if q6 = (-1) then
      some (Sum.inr (Sum.inl ()))
    else
      some (Sum.inl (v4, q6, v7))
  else
    some (Sum.inr (Sum.inr x4))
def fM_followsOf (x1 : Int32) (M : Mm) : Option Int32 :=
  Option.bind (fM_likelyOf x1 M) fun q2 =>
  if q2 = (-1) then
    some 0
  else
    Option.bind (lp 1000000 (fun s => fM_followsOf_b18 M s.1 s.2.1 s.2.2) (0, x1, 0)) fun e18 =>
    match e18 with
    | Sum.inl p18 =>
        some (-1)
    | Sum.inr p18 =>
        let y8 : Int32 := p18
        some y8
def fM_likely (x1 : Int32) (x2 : Int32) (M : Mm) : Option (Int32 × Mm) :=
  let M1 : Mm := mput M 217 0 0
  let v2 : Int32 := fM_isIn x1 0 6
  if v2 = 0 then
    some ((-1), M1)
  else
    let v3 : Int32 := fM_isIn x2 0 1
    if v3 = 0 then
      some ((-1), M1)
    else
      if x2 = 0 then
        Option.bind (fM_likelyOf x1 M1) fun q7 =>
        some (q7, M1)
      else
        Option.bind (fM_followsOf x1 M1) fun q5 =>
        some (q5, M1)
def fM_face (x1 : Int32) (x2 : Int32) (M : Mm) : Option (Int32 × Mm) :=
  let M1 : Mm := mput M 217 0 0
  if x1 = (-1) then
    let M9 : Mm := mput M1 217 57 0
    some (0, M9)
  else
    let v2 : Int32 := fM_isIn x1 0 63
    if v2 = 0 then
      some ((-1), M1)
    else
      let v3 : Int32 := fM_isIn x2 (-2) 2
      if v3 = 0 then
        some ((-1), M1)
      else
        if (M1 217 57) = 8 then
          some ((-1), M1)
        else
          if inb (M1 217 57) 8 then
          let M4 : Mm := mput M1 249 (jix (M1 217 57)) x1
          if inb (M4 217 57) 8 then
          let M6 : Mm := mput M4 250 (jix (M4 217 57)) x2
          let M8 : Mm := mput M6 217 57 ((M6 217 57) + 1)
          some ((M8 217 57), M8)
          else none
          else none
def fM_changeUp (x1 : Int32) (x2 : Int32) : Int32 :=
  ((x1 >>> ((2 * x2) &&& 31)) &&& 3)
def fM_canBe_b15 (x1 : Int32) (x2 : Int32) (M : Mm) (x3 : Int32) (x4 : Int32) : Option ((Int32 × Int32) ⊕ Int32) :=
  if 6 ≤ x4 then
    some (Sum.inr x3)
  else
    if inb x2 8 then
    let v2 : Int32 := fM_lies (M 249 (jix x2)) x4
    Option.bind (
      if v2 = 0 then
        some x3
      else
        let v3 : Int32 := fM_changeUp x1 x4
        let v4 : Int32 := ((x3 + v3) - 1)
        some v4) fun y5 =>
    some (Sum.inl (y5, (x4 + 1)))
    else none
def fM_canBe_b2 (x1 : Int32) (M : Mm) (x2 : Int32) : Option (Int32 ⊕ (Unit ⊕ Unit)) :=
  if (M 217 57) ≤ x2 then
    some (Sum.inr (Sum.inr ()))
  else
    Option.bind (lp 1000000 (fun s => fM_canBe_b15 x1 x2 M s.1 s.2) (0, 0)) fun e15 =>
    let y6 : Int32 := e15
    if inb x2 8 then
    if y6 = (M 250 (jix x2)) then
      some (Sum.inl (x2 + 1))
    else
      some (Sum.inr (Sum.inl ()))
    else none
def fM_canBe (x1 : Int32) (M : Mm) : Option Int32 :=
  Option.bind (lp 1000000 (fun s => fM_canBe_b2 x1 M s) 0) fun e2 =>
  match e2 with
  | Sum.inl p2 =>
      some 0
  | Sum.inr p2 =>
      some 1
def fM_kindsFor_b4 (x1 : Int32) (x2 : Int32) (x3 : Int32) : Option ((Int32 × Int32) ⊕ Int32) :=
  if 6 ≤ x3 then
    some (Sum.inr x2)
  else
    let v1 : Int32 := fM_changeUp x1 x3
    Option.bind (
      if v1 = 0 then
        some 3
      else
        let v2 : Int32 := fM_changeUp x1 x3
        if v2 = 1 then
          some 2
        else
          some 1) fun y3 =>
    let v4 : Int32 := (x2 * y3)
    some (Sum.inl (v4, (x3 + 1)))
def fM_kindsFor (x1 : Int32) : Option Int32 :=
  Option.bind (lp 1000000 (fun s => fM_kindsFor_b4 x1 s.1 s.2) (1, 0)) fun e4 =>
  let y5 : Int32 := e4
  some y5
def fM_faces_b27 (x1 : Int32) (M : Mm) (x2 : Int32) (x3 : Int32) (x4 : Int32) (x5 : Int32) : Option ((Int32 × Int32 × Int32 × Int32) ⊕ (Int32 × Int32 × Int32)) :=
  if 4096 ≤ x5 then
    some (Sum.inr (x2, x3, x4))
  else
    Option.bind (fM_canBe x5 M) fun q4 =>
    Option.bind (
      if q4 = 0 then
        some (x2, x3, x4)
      else
        let v5 : Int32 := (x4 ||| (x5 ^^^ (if x3 = (-1) then x5 else x3)))
        Option.bind (fM_kindsFor x5) fun q7 =>
        let v8 : Int32 := (x2 + q7)
        some (v8, (if x3 = (-1) then x5 else x3), v5)) fun t73 =>
    let y9 : Int32 := t73.1
    let y10 : Int32 := t73.2.1
    let y11 : Int32 := t73.2.2
    some (Sum.inl (y9, y10, y11, (x5 + 1)))
def fM_faces_b91 (x3 : Int32) (x4 : Int32) (M : Mm) (x5 : Int32) (x6 : Int32) : Option ((Int32 × Int32) ⊕ Int32) :=
  if 6 ≤ x6 then
    some (Sum.inr x5)
  else
    Option.bind (
      if x3 = (-1) then
        some x5
      else
        let v15 : Int32 := fM_changeUp x4 x6
        if v15 = 0 then
          let v16 : Int32 := (x5 ||| ((1 : Int32) <<< (x6 &&& 31)))
          some v16
        else
          some x5) fun y17 =>
    some (Sum.inl (y17, (x6 + 1)))
def fM_faces (x1 : Int32) (M : Mm) : Option (Int32 × Mm) :=
  let M1 : Mm := mput M 217 0 0
  let v2 : Int32 := fM_isIn x1 0 1
  if v2 = 0 then
    some ((-1), M1)
  else
    Option.bind (lp 1000000 (fun s => fM_faces_b27 x1 M1 s.1 s.2.1 s.2.2.1 s.2.2.2) (0, (-1), 0, 0)) fun e27 =>
    let y12 : Int32 := e27.1
    let y13 : Int32 := e27.2.1
    let y14 : Int32 := e27.2.2
    if x1 = 0 then
      some (y12, M1)
    else
      Option.bind (lp 1000000 (fun s => fM_faces_b91 y13 y14 M1 s.1 s.2) (0, 0)) fun e91 =>
      let y18 : Int32 := e91
      some (y18, M1)
def fM_joy_b50 (x1 : Int32) (x4 : Int32) (M : Mm) (x2 : Int32) (x3 : Int32) (x5 : Int32) (x6 : Int32) : Option ((Int32 × Int32 × Int32 × Int32) ⊕ (Int32 × Int32)) :=
  if (M 217 6) ≤ x6 then
    some (Sum.inr (x2, x3))
  else
    if inb (18 + x6) 174 then
    let v4 : Int32 := (x5 + (M 218 (jix (18 + x6))))
    let v5 : Int32 := (if v4 ≤ x2 then x3 else x4)
    let v6 : Int32 := fM_greater x2 v4
    some (Sum.inl (v6, v5, v4, (x6 + 1)))
    else none
def fM_joy_b34 (x1 : Int32) (M : Mm) (x2 : Int32) (x3 : Int32) (x4 : Int32) : Option ((Int32 × Int32 × Int32) ⊕ (Int32 × Int32)) :=
  if (M 217 6) ≤ x4 then
    some (Sum.inr (x2, x3))
  else
    Option.bind (lp 1000000 (fun s => fM_joy_b50 x1 x4 M s.1 s.2.1 s.2.2.1 s.2.2.2) (x2, x3, 0, x4)) fun e50 =>
    let y7 : Int32 := e50.1
    let y8 : Int32 := e50.2
    some (Sum.inl (y7, y8, (x4 + 1)))
def fM_joy (x1 : Int32) (M : Mm) : Option (Int32 × Mm) :=
  let M1 : Mm := mput M 217 0 0
  if (M1 217 6) = 0 then
    some ((-100), M1)
  else
    let v2 : Int32 := fM_isIn x1 0 1
    if v2 = 0 then
      some ((-100), M1)
    else
      Option.bind (lp 1000000 (fun s => fM_joy_b34 x1 M1 s.1 s.2.1 s.2.2) ((-100000000), 0, 0)) fun e34 =>
      let y9 : Int32 := e34.1
      let y10 : Int32 := e34.2
      if x1 = 0 then
        some (y9, M1)
      else
        some (y10, M1)
def fM_game_b21 (x1 : Int32) (M : Mm) (x2 : Int32) (x3 : Int32) : Option ((Int32 × Int32) ⊕ Int32) :=
  if (M 217 6) ≤ x3 then
    some (Sum.inr x2)
  else
    Option.bind (fM_lettersFor x3 M) fun q4 =>
    let v5 : Int32 := (x2 ^^^ (jrem q4 3))
    some (Sum.inl (v5, (x3 + 1)))
def fM_game_b73 (x1 : Int32) (x2 : Int32) (x3 : Int32) (x4 : Int32) (x5 : Int32) (M : Mm) (x6 : Int32) : Option (Int32 ⊕ (Int32 ⊕ Unit)) :=
  let v10 : Int32 := fM_lesser x4 2
  if v10 < x6 then
    some (Sum.inr (Sum.inr ()))
  else
    if (jrem (x4 - x6) 3) = x5 then
      some (Sum.inr (Sum.inl x6))
    else
      some (Sum.inl (x6 + 1))
def fM_game_b47 (x1 : Int32) (x2 : Int32) (M : Mm) (x3 : Int32) : Option (Int32 ⊕ ((Int32 × Int32) ⊕ Unit)) :=
  if (M 217 6) ≤ x3 then
    some (Sum.inr (Sum.inr ()))
  else
    Option.bind (fM_lettersFor x3 M) fun q8 =>
    let v9 : Int32 := (x2 ^^^ (jrem q8 3))
    Option.bind (lp 1000000 (fun s => fM_game_b73 x1 x2 x3 q8 v9 M s) 1) fun e73 =>
    match e73 with
    | Sum.inl p73 =>
        let y11 : Int32 := p73
        some (Sum.inr (Sum.inl (x3, y11)))
    | Sum.inr p73 =>
        some (Sum.inl (x3 + 1))
def fM_game (x1 : Int32) (M : Mm) : Option (Int32 × Mm) :=
  let M1 : Mm := mput M 217 0 0
  let v2 : Int32 := fM_isIn x1 0 1
  if v2 = 0 then
    some ((-1), M1)
  else
    Option.bind (lp 1000000 (fun s => fM_game_b21 x1 M1 s.1 s.2) (0, 0)) fun e21 =>
    let y6 : Int32 := e21
    Option.bind (lp 1000000 (fun s => fM_game_b47 x1 y6 M1 s) 0) fun e47 =>
    match e47 with
    | Sum.inl p47 =>
        let y12 : Int32 := p47.1
        let y13 : Int32 := p47.2
        if x1 = 0 then
          some (y12, M1)
        else
          some (y13, M1)
    | Sum.inr p47 =>
        some ((-1), M1)
def fM_keeps (x1 : Int32) (M : Mm) : Option (Int32 × Mm) :=
  let M1 : Mm := mput M 217 62 ((M 217 62) + 1)
  if (M1 217 60) = 0 then
    if inb ((M1 217 62) - 1) 2300 then
    some ((M1 251 (jix ((M1 217 62) - 1))), M1)
    else none
  else
    if inb ((M1 217 62) - 1) 2300 then
    let M2 : Mm := mput M1 251 (jix ((M1 217 62) - 1)) x1
    some (x1, M2)
    else none
def fM_keepsLaw_b18 (x1 : Int32) (M : Mm) : Option ((Int32 × Mm) ⊕ Mm) :=
  if 16 ≤ x1 then
    some (Sum.inr M)
  else
    if inb x1 48 then
    Option.bind (fM_keeps (M 226 (jix x1)) M) fun q6 =>
    if inb x1 48 then
    let M7 : Mm := mput q6.2 226 (jix x1) q6.1
    if inb x1 48 then
    Option.bind (fM_keeps (M7 227 (jix x1)) M7) fun q11 =>
    if inb x1 48 then
    let M12 : Mm := mput q11.2 227 (jix x1) q11.1
    if inb x1 48 then
    Option.bind (fM_keeps (M12 228 (jix x1)) M12) fun q16 =>
    if inb x1 48 then
    let M17 : Mm := mput q16.2 228 (jix x1) q16.1
    if inb x1 48 then
    Option.bind (fM_keeps (M17 229 (jix x1)) M17) fun q21 =>
    if inb x1 48 then
    let M22 : Mm := mput q21.2 229 (jix x1) q21.1
    some (Sum.inl ((x1 + 1), M22))
    else none
    else none
    else none
    else none
    else none
    else none
    else none
    else none
def fM_keepsLaw_b96 (x1 : Int32) (M : Mm) : Option ((Int32 × Mm) ⊕ Mm) :=
  if 400 ≤ x1 then
    some (Sum.inr M)
  else
    if inb x1 1200 then
    Option.bind (fM_keeps (M 230 (jix x1)) M) fun q27 =>
    if inb x1 1200 then
    let M28 : Mm := mput q27.2 230 (jix x1) q27.1
    if inb x1 1200 then
    Option.bind (fM_keeps (M28 231 (jix x1)) M28) fun q32 =>
    if inb x1 1200 then
    let M33 : Mm := mput q32.2 231 (jix x1) q32.1
    some (Sum.inl ((x1 + 1), M33))
    else none
    else none
    else none
    else none
def fM_keepsLaw (M : Mm) : Option Mm :=
  Option.bind (fM_keeps (M 225 0) M) fun q2 =>
  let M3 : Mm := mput q2.2 225 0 q2.1
  Option.bind (lp 1000000 (fun s => fM_keepsLaw_b18 s.1 s.2) (0, M3)) fun e18 =>
  let M24 : Mm := e18
  Option.bind (lp 1000000 (fun s => fM_keepsLaw_b96 s.1 s.2) (0, M24)) fun e96 =>
  let M35 : Mm := e96
  some M35
def fM_keepsMany (M : Mm) : Option Mm :=
  Option.bind (fM_keeps (M 217 6) M) fun q2 =>
  let M3 : Mm := mput q2.2 217 6 q2.1
  Option.bind (fM_keeps (M3 217 32) M3) fun q5 =>
  let M6 : Mm := mput q5.2 217 32 q5.1
  Option.bind (fM_keeps (M6 217 34) M6) fun q8 =>
  let M9 : Mm := mput q8.2 217 34 q8.1
  Option.bind (fM_keeps (M9 217 36) M9) fun q11 =>
  let M12 : Mm := mput q11.2 217 36 q11.1
  Option.bind (fM_keeps (M12 217 45) M12) fun q14 =>
  let M15 : Mm := mput q14.2 217 45 q14.1
  Option.bind (fM_keeps (M15 217 49) M15) fun q17 =>
  let M18 : Mm := mput q17.2 217 49 q17.1
  Option.bind (fM_keeps (M18 217 53) M18) fun q20 =>
  let M21 : Mm := mput q20.2 217 53 q20.1
  Option.bind (fM_keeps (M21 217 55) M21) fun q23 =>
  let M24 : Mm := mput q23.2 217 55 q23.1
  Option.bind (fM_keeps (M24 217 57) M24) fun q26 =>
  let M27 : Mm := mput q26.2 217 57 q26.1
  some M27
def fM_keepsTold_b2 (x1 : Int32) (M : Mm) : Option ((Int32 × Mm) ⊕ Mm) :=
  if 12 ≤ x1 then
    some (Sum.inr M)
  else
    if inb x1 12 then
    Option.bind (fM_keeps (M 221 (jix x1)) M) fun q3 =>
    if inb x1 12 then
    let M4 : Mm := mput q3.2 221 (jix x1) q3.1
    if inb x1 12 then
    Option.bind (fM_keeps (M4 244 (jix x1)) M4) fun q8 =>
    if inb x1 12 then
    let M9 : Mm := mput q8.2 244 (jix x1) q8.1
    some (Sum.inl ((x1 + 1), M9))
    else none
    else none
    else none
    else none
def fM_keepsTold_b48 (x1 : Int32) (M : Mm) : Option ((Int32 × Mm) ⊕ Mm) :=
  if 8 ≤ x1 then
    some (Sum.inr M)
  else
    if inb x1 8 then
    Option.bind (fM_keeps (M 241 (jix x1)) M) fun q14 =>
    if inb x1 8 then
    let M15 : Mm := mput q14.2 241 (jix x1) q14.1
    if inb x1 8 then
    Option.bind (fM_keeps (M15 247 (jix x1)) M15) fun q19 =>
    if inb x1 8 then
    let M20 : Mm := mput q19.2 247 (jix x1) q19.1
    if inb x1 8 then
    Option.bind (fM_keeps (M20 249 (jix x1)) M20) fun q24 =>
    if inb x1 8 then
    let M25 : Mm := mput q24.2 249 (jix x1) q24.1
    if inb x1 8 then
    Option.bind (fM_keeps (M25 250 (jix x1)) M25) fun q29 =>
    if inb x1 8 then
    let M30 : Mm := mput q29.2 250 (jix x1) q29.1
    some (Sum.inl ((x1 + 1), M30))
    else none
    else none
    else none
    else none
    else none
    else none
    else none
    else none
def fM_keepsTold_b126 (x1 : Int32) (M : Mm) : Option ((Int32 × Mm) ⊕ Mm) :=
  if 26 ≤ x1 then
    some (Sum.inr M)
  else
    if inb x1 26 then
    Option.bind (fM_keeps (M 246 (jix x1)) M) fun q35 =>
    if inb x1 26 then
    let M36 : Mm := mput q35.2 246 (jix x1) q35.1
    some (Sum.inl ((x1 + 1), M36))
    else none
    else none
def fM_keepsTold_b156 (x1 : Int32) (M : Mm) : Option ((Int32 × Mm) ⊕ Mm) :=
  if 49 ≤ x1 then
    some (Sum.inr M)
  else
    if inb x1 49 then
    Option.bind (fM_keeps (M 248 (jix x1)) M) fun q41 =>
    if inb x1 49 then
    let M42 : Mm := mput q41.2 248 (jix x1) q41.1
    some (Sum.inl ((x1 + 1), M42))
    else none
    else none
def fM_keepsTold_b186 (x1 : Int32) (M : Mm) : Option ((Int32 × Mm) ⊕ Mm) :=
  if 64 ≤ x1 then
    some (Sum.inr M)
  else
    if inb x1 128 then
    Option.bind (fM_keeps (M 233 (jix x1)) M) fun q47 =>
    if inb x1 128 then
    let M48 : Mm := mput q47.2 233 (jix x1) q47.1
    some (Sum.inl ((x1 + 1), M48))
    else none
    else none
def fM_keepsTold_b216 (x1 : Int32) (M : Mm) : Option ((Int32 × Mm) ⊕ Mm) :=
  if 16 ≤ x1 then
    some (Sum.inr M)
  else
    if inb x1 32 then
    Option.bind (fM_keeps (M 234 (jix x1)) M) fun q53 =>
    if inb x1 32 then
    let M54 : Mm := mput q53.2 234 (jix x1) q53.1
    some (Sum.inl ((x1 + 1), M54))
    else none
    else none
def fM_keepsTold_b246 (x1 : Int32) (M : Mm) : Option ((Int32 × Mm) ⊕ Mm) :=
  if 144 ≤ x1 then
    some (Sum.inr M)
  else
    if inb x1 288 then
    Option.bind (fM_keeps (M 235 (jix x1)) M) fun q59 =>
    if inb x1 288 then
    let M60 : Mm := mput q59.2 235 (jix x1) q59.1
    some (Sum.inl ((x1 + 1), M60))
    else none
    else none
def fM_keepsTold (M : Mm) : Option Mm :=
  Option.bind (lp 1000000 (fun s => fM_keepsTold_b2 s.1 s.2) (0, M)) fun e2 =>
  let M11 : Mm := e2
  Option.bind (lp 1000000 (fun s => fM_keepsTold_b48 s.1 s.2) (0, M11)) fun e48 =>
  let M32 : Mm := e48
  Option.bind (lp 1000000 (fun s => fM_keepsTold_b126 s.1 s.2) (0, M32)) fun e126 =>
  let M38 : Mm := e126
  Option.bind (lp 1000000 (fun s => fM_keepsTold_b156 s.1 s.2) (0, M38)) fun e156 =>
  let M44 : Mm := e156
  Option.bind (lp 1000000 (fun s => fM_keepsTold_b186 s.1 s.2) (0, M44)) fun e186 =>
  let M50 : Mm := e186
  Option.bind (lp 1000000 (fun s => fM_keepsTold_b216 s.1 s.2) (0, M50)) fun e216 =>
  let M56 : Mm := e216
  Option.bind (lp 1000000 (fun s => fM_keepsTold_b246 s.1 s.2) (0, M56)) fun e246 =>
  let M62 : Mm := e246
  some M62
def fM_image_b35 (x1 : Int32) (x2 : Int32) (M : Mm) : Option ((Int32 × Mm) ⊕ Mm) :=
  if 174 ≤ x2 then
    some (Sum.inr M)
  else
    if inb x2 174 then
    Option.bind (fM_keeps (M 218 (jix x2)) M) fun q8 =>
    if inb x2 174 then
    let M9 : Mm := mput q8.2 218 (jix x2) q8.1
    some (Sum.inl ((x2 + 1), M9))
    else none
    else none
def fM_image_b74 (x1 : Int32) (x2 : Int32) (M : Mm) : Option ((Int32 × Mm) ⊕ Mm) :=
  if 600 ≤ x2 then
    some (Sum.inr M)
  else
    if inb x2 600 then
    Option.bind (fM_keeps (M 222 (jix x2)) M) fun q18 =>
    if inb x2 600 then
    let M19 : Mm := mput q18.2 222 (jix x2) q18.1
    some (Sum.inl ((x2 + 1), M19))
    else none
    else none
def fM_image_j18 (z1 : Int32) (M : Mm) : Option (Int32 × Mm) :=
  if z1 = 0 ∨ z1 = 1 then
  let M3 : Mm := mput M 217 60 z1
  let M4 : Mm := mput M3 217 61 1
  let M5 : Mm := mput M4 217 62 0
  Option.bind (lp 1000000 (fun s => fM_image_b35 z1 s.1 s.2) (0, M5)) fun e35 =>
  let M11 : Mm := e35
  Option.bind (fM_keepsMany M11) fun M13 =>
  Option.bind (fM_keepsTold M13) fun M15 =>
  Option.bind (lp 1000000 (fun s => fM_image_b74 z1 s.1 s.2) (0, M15)) fun e74 =>
  let M21 : Mm := e74
  Option.bind (fM_keepsLaw M21) fun M23 =>
  if z1 = 0 then
    let M24 : Mm := mput M23 217 3 0
    some (1, M24)
  else
    some (1, M23)
  else none
def fM_image (x1 : Int32) (M : Mm) : Option (Int32 × Mm) :=
  let M1 : Mm := mput M 217 0 0
  if x1 = 0 then
    if (M1 217 61) = 0 then
      some (0, M1)
    else
      fM_image_j18 x1 M1
  else
    fM_image_j18 x1 M1
def fM_look (x1 : Int32) (M : Mm) : (Int32 × Mm) :=
  let M1 : Mm := mput M 217 0 0
  if x1 = 0 then
    ((M1 217 6), M1)
  else
    if x1 = 1 then
      ((M1 218 10), M1)
    else
      if x1 = 2 then
        let v2 : Int32 := fM_health M1
        (v2, M1)
      else
        if x1 = 3 then
          ((M1 218 5), M1)
        else
          if x1 = 4 then
            ((M1 218 6), M1)
          else
            if x1 = 5 then
              ((M1 218 7), M1)
            else
              if x1 = 6 then
                ((M1 218 3), M1)
              else
                if x1 = 7 then
                  ((M1 218 8), M1)
                else
                  if x1 = 8 then
                    ((M1 218 0), M1)
                  else
                    if x1 = 9 then
                      ((M1 218 2), M1)
                    else
                      if x1 = 10 then
                        ((M1 218 1), M1)
                      else
                        if x1 = 11 then
                          ((M1 225 0), M1)
                        else
                          if x1 = 12 then
                            ((M1 217 32), M1)
                          else
                            if x1 = 13 then
                              ((M1 217 34), M1)
                            else
                              if x1 = 14 then
                                ((M1 217 36), M1)
                              else
                                if x1 = 15 then
                                  ((M1 217 3), M1)
                                else
                                  ((-1), M1)
end FunPure
