section FunPure
def jix (i : Int32) : Nat := i.toNatClampNeg
def jushr (x y : Int32) : Int32 := (x.toUInt32 >>> (y.toUInt32 &&& Int32.toUInt32 31)).toInt32
def jrem (x y : Int32) : Int32 := x - x / y * y
def jbyte (x : Int32) : Int32 := x.toInt8.toInt32
def jchar (x : Int32) : Int32 := (x.toUInt32 % 65536).toInt32
def jmin (x y : Int32) : Int32 := if y < x then y else x
def jmax (x y : Int32) : Int32 := if x < y then y else x
def fC0 (k : Nat) : Int32 := ([-1, -1, 1, -1, 0, 0, 2] : List Int32).getD k 0
def fC1 (k : Nat) : Int32 := ([3, 2, 1, 1] : List Int32).getD k 0
def fC4 (k : Nat) : Int32 := rnSigns.getD k 0
def fC6 (k : Nat) : Int32 := rnWords.getD k 0
/-- the desk, made at its first use -/
def fK_theDesk (M : Mm) : Mm := if M 0 8 = 0 then fun b k => if b = 252 then 0 else if b = 0 ∧ k = 8 then 1 else M b k else M
def fP_forget (M : Mm) : Mm :=
  let Mz1 : Mm := mput M 31 0 0
  Mz1
def fK_state (x1 : Int32) (M : Mm) : (Int32 × Mm) :=
  let vz1 : Int32 := (M 1 12)
  let Mz2 : Mm := mput M 1 12 x1
  let Mz3 : Mm := fP_forget Mz2
  (vz1, Mz3)
def fK_isWithin (x0 : Int32) (x1 : Int32) (x2 : Int32) : Int32 :=
  if x0 < x1 then
    0
  else
    if x2 < x0 then
      0
    else
      1
def fK_isFace (x0 : Int32) : Option Int32 :=
  let vz1 : Int32 := fK_isWithin x0 (-9) 9
  if vz1 = 0 ∨ vz1 = 1 then
  some vz1
  else none
def fD_add (w : Nat) (x1 : Int32) (x2 : Int32) (x3 : Int32) (M : Mm) : Option (Int32 × Mm) :=
  if (M w 0) < 12 then
    if inb (M w 0) 12 then
    let Mz1 : Mm := mput M (w + 1) (jix (M w 0)) x1
    if inb (Mz1 w 0) 12 then
    let Mz3 : Mm := mput Mz1 (w + 2) (jix (Mz1 w 0)) x2
    if inb (Mz3 w 0) 12 then
    let Mz5 : Mm := mput Mz3 (w + 3) (jix (Mz3 w 0)) x3
    if inb (Mz5 w 0) 12 then
    let Mz7 : Mm := mput Mz5 (w + 4) (jix (Mz5 w 0)) 0
    let Mz9 : Mm := mput Mz7 w 0 ((Mz7 w 0) + 1)
    some (((Mz9 w 0) - 1), Mz9)
    else none
    else none
    else none
    else none
  else
    some ((-1), M)
def fK_door (x1 : Int32) (x2 : Int32) (x3 : Int32) (M : Mm) : Option (Int32 × Mm) :=
  Option.bind (fK_isFace x1) fun qz2 =>
  Option.bind (α := Int32) (
    if qz2 = 0 then
      some 0
    else
      let vz3 : Int32 := fK_isWithin x2 0 9
      if vz3 = 0 then
        some 0
      else
        let vz4 : Int32 := fK_isWithin x3 0 999
        if vz4 = 0 then
          some 0
        else
          some 1) fun yz5 =>
  if yz5 = 0 then
    some ((-1), M)
  else
    if (M 2 0) < 12 then
      let Mz6 : Mm := fP_forget M
      Option.bind (fD_add 2 x1 x2 x3 Mz6) fun qz8 =>
      some (qz8.1, qz8.2)
    else
      some ((-1), M)
def fK_setPostman (x1 : Int32) (x2 : Int32) (M : Mm) : (Int32 × Mm) :=
  let vz1 : Int32 := fK_isWithin x2 0 99
  if vz1 = 0 then
    (0, M)
  else
    if x1 = 3 then
      let Mz3 : Mm := mput M 1 5 x2
      (1, Mz3)
    else
      let Mz2 : Mm := mput M 1 6 x2
      (1, Mz2)
def fK_isDoor (x1 : Int32) (M : Mm) : Option Int32 :=
  let vz1 : Int32 := fK_isWithin x1 0 ((M 2 0) - 1)
  if vz1 = 0 ∨ vz1 = 1 then
  some vz1
  else none
def fK_setDoor_j66 (z1 : Int32) (z2 : Int32) (z3 : Int32) (M : Mm) : Option (Int32 × Mm) :=
  if z1 = 2 then
    let vz10 : Int32 := fK_isWithin z3 0 999
    if vz10 = 0 then
      some (0, M)
    else
      if inb z2 12 then
      let Mz11 : Mm := mput M 5 (jix z2) z3
      some (1, Mz11)
      else none
  else
    some (0, M)
def fK_setDoor_j36 (z1 : Int32) (z2 : Int32) (z3 : Int32) (M : Mm) : Option (Int32 × Mm) :=
  if z1 = 1 then
    let vz7 : Int32 := fK_isWithin z3 0 9
    if vz7 = 0 then
      fK_setDoor_j66 z1 z2 z3 M
    else
      if inb z2 12 then
      let Mz8 : Mm := mput M 4 (jix z2) z3
      some (1, Mz8)
      else none
  else
    fK_setDoor_j66 z1 z2 z3 M
def fK_setDoor (x1 : Int32) (x2 : Int32) (x3 : Int32) (M : Mm) : Option (Int32 × Mm) :=
  Option.bind (fK_isDoor x2 M) fun qz2 =>
  if qz2 = 0 then
    some (0, M)
  else
    if x1 = 0 then
      Option.bind (fK_isFace x3) fun qz4 =>
      if qz4 = 0 then
        fK_setDoor_j36 x1 x2 x3 M
      else
        if inb x2 12 then
        let Mz5 : Mm := mput M 3 (jix x2) x3
        some (1, Mz5)
        else none
    else
      fK_setDoor_j36 x1 x2 x3 M
def fK_set (x1 : Int32) (x2 : Int32) (x3 : Int32) (M : Mm) : Option (Int32 × Mm) :=
  Option.bind (α := (Int32 × Mm)) (
    if x1 = 3 then
      let qz1 : Int32 × Mm := fK_setPostman x1 x3 M
      some (qz1.1, qz1.2)
    else
      if x1 = 4 then
        let qz4 : Int32 × Mm := fK_setPostman x1 x3 M
        some (qz4.1, qz4.2)
      else
        Option.bind (fK_setDoor x1 x2 x3 M) fun qz3 =>
        some (qz3.1, qz3.2)) fun t26 =>
  let yz5 : Int32 := t26.1
  let Mz6 : Mm := t26.2
  if yz5 = 0 then
    if yz5 = 0 ∨ yz5 = 1 then
    some (yz5, Mz6)
    else none
  else
    let Mz8 : Mm := fP_forget Mz6
    if yz5 = 0 ∨ yz5 = 1 then
    some (yz5, Mz8)
    else none
def fK_isKind (x0 : Int32) : Option Int32 :=
  let vz1 : Int32 := fK_isWithin x0 0 6
  if vz1 = 0 ∨ vz1 = 1 then
  some vz1
  else none
def fD_copyFrom (w : Nat) (v : Nat) (M : Mm) : Mm :=
  let Mz1 : Mm := mput M w 0 (M v 0)
  let Mz2 : Mm := mcp Mz1 (v + 1) (w + 1) 0 0 12
  let Mz3 : Mm := mcp Mz2 (v + 2) (w + 2) 0 0 12
  let Mz4 : Mm := mcp Mz3 (v + 3) (w + 3) 0 0 12
  let Mz5 : Mm := mcp Mz4 (v + 4) (w + 4) 0 0 12
  Mz5
def fB_copyFrom (w : Nat) (v : Nat) (M : Mm) : Mm :=
  let Mz1 : Mm := mput M w 0 (M v 0)
  let Mz2 : Mm := mput Mz1 w 1 (Mz1 v 1)
  let Mz3 : Mm := mcp Mz2 (v + 1) (w + 1) 0 0 24
  let Mz4 : Mm := mcp Mz3 (v + 2) (w + 2) 0 0 24
  let Mz5 : Mm := mcp Mz4 (v + 3) (w + 3) 0 0 24
  let Mz6 : Mm := mcp Mz5 (v + 4) (w + 4) 0 0 24
  let Mz7 : Mm := mcp Mz6 (v + 5) (w + 5) 0 0 24
  Mz7
def fW_copyFrom (w : Nat) (v : Nat) (M : Mm) : Option Mm :=
  let Mz1 : Mm := fD_copyFrom (w + 1) (v + 1) M
  let Mz2 : Mm := fB_copyFrom (w + 7) (v + 7) Mz1
  let Mz3 : Mm := mcp Mz2 (v + 13) (w + 13) 0 0 7
  if ¬ (0 : Int32) < 0 ∧ ¬ (0 : Int32) < 0 ∧ ¬ ((jmin (nI (kbl w)) (nI (kbl v))) : Int32) < 0 ∧ jix 0 + jix (jmin (nI (kbl w)) (nI (kbl v))) ≤ kbl v ∧ jix 0 + jix (jmin (nI (kbl w)) (nI (kbl v))) ≤ kbl w then
  let Mz4 : Mm := mcp Mz3 (v + 14) (w + 14) (jix 0) (jix 0) (jix (jmin (nI (kbl w)) (nI (kbl v))))
  let Mz6 : Mm := mput Mz4 w 4 (Mz4 v 4)
  let Mz7 : Mm := mput Mz6 w 5 (Mz6 v 5)
  let Mz8 : Mm := mput Mz7 w 6 (Mz7 v 6)
  let Mz9 : Mm := mput Mz8 w 7 (Mz8 v 7)
  let Mz10 : Mm := mput Mz9 w 8 (Mz9 v 8)
  let Mz11 : Mm := mput Mz10 w 9 (Mz10 v 9)
  let Mz12 : Mm := mput Mz11 w 10 (Mz11 v 10)
  let Mz13 : Mm := mput Mz12 w 11 (Mz12 v 11)
  let Mz14 : Mm := mput Mz13 w 12 (Mz13 v 12)
  some Mz14
  else none
def fP_keep (M : Mm) : Option Mm :=
  let Mz1 : Mm := mput M 31 1 (jrem ((M 31 1) + 1) 6)
  if inb (Mz1 31 1) 6 then
  Option.bind (fW_copyFrom (33 + 15 * jix (Mz1 31 1)) 1 Mz1) fun Mz4 =>
  let Mz5 : Mm := mput Mz4 31 0 (jmin 6 ((Mz4 31 0) + 1))
  some Mz5
  else none
def fB_add (w : Nat) (x1 : Int32) (x2 : Int32) (x3 : Int32) (M : Mm) : Option (Int32 × Mm) :=
  if (M w 0) < 24 then
    if inb (M w 0) 24 then
    let Mz1 : Mm := mput M (w + 1) (jix (M w 0)) (M w 1)
    if inb (Mz1 w 0) 24 then
    let Mz3 : Mm := mput Mz1 (w + 2) (jix (Mz1 w 0)) x1
    if inb (Mz3 w 0) 24 then
    let Mz5 : Mm := mput Mz3 (w + 3) (jix (Mz3 w 0)) x2
    if inb (Mz5 w 0) 24 then
    let Mz7 : Mm := mput Mz5 (w + 4) (jix (Mz5 w 0)) x3
    if inb (Mz7 w 0) 24 then
    let Mz9 : Mm := mput Mz7 (w + 5) (jix (Mz7 w 0)) 0
    let Mz11 : Mm := mput Mz9 w 0 ((Mz9 w 0) + 1)
    let Mz12 : Mm := mput Mz11 w 1 ((Mz11 w 1) + 1)
    some (((Mz12 w 1) - 1), Mz12)
    else none
    else none
    else none
    else none
    else none
  else
    some ((-1), M)
def fW_write (w : Nat) (x1 : Int32) (x2 : Int32) (x3 : Int32) (M : Mm) : Option Mm :=
  let vz1 : Int32 := ((M w 4) * 4)
  if (vz1 + 4) ≤ (nI (kbl w)) then
    if inb vz1 (kbl w) then
    let Mz2 : Mm := mput M (w + 14) (jix vz1) (M w 11)
    if inb (vz1 + 1) (kbl w) then
    let Mz4 : Mm := mput Mz2 (w + 14) (jix (vz1 + 1)) x1
    if inb (vz1 + 2) (kbl w) then
    let Mz6 : Mm := mput Mz4 (w + 14) (jix (vz1 + 2)) x2
    if inb (vz1 + 3) (kbl w) then
    let Mz8 : Mm := mput Mz6 (w + 14) (jix (vz1 + 3)) x3
    let Mz10 : Mm := mput Mz8 w 4 ((Mz8 w 4) + 1)
    some Mz10
    else none
    else none
    else none
    else none
  else
    some M
def fW_arrive (w : Nat) (x1 : Int32) (x2 : Int32) (x3 : Int32) (M : Mm) : Option (Int32 × Mm) :=
  Option.bind (fB_add (w + 7) x1 x2 x3 M) fun qz2 =>
  Option.bind (α := Mm) (
    if qz2.1 = (-1) then
      let Mz3 : Mm := mput qz2.2 w 8 ((qz2.2 w 8) + 1)
      some Mz3
    else
      some qz2.2) fun Mz4 =>
  Option.bind (fW_write w (if qz2.1 = (-1) then (3 : Int32) else 0) qz2.1 x1 Mz4) fun Mz6 =>
  some (qz2.1, Mz6)
def fK_post (x1 : Int32) (x2 : Int32) (x3 : Int32) (M : Mm) : Option (Int32 × Mm) :=
  Option.bind (fK_isDoor x1 M) fun qz2 =>
  Option.bind (α := Int32) (
    if qz2 = 0 then
      some 0
    else
      Option.bind (fK_isKind x2) fun qz4 =>
      if qz4 = 0 then
        some 0
      else
        let vz5 : Int32 := fK_isWithin x3 1 99
        if vz5 = 0 then
          some 0
        else
          some 1) fun yz6 =>
  if yz6 = 0 then
    some ((-1), M)
  else
    if (M 8 0) < 24 then
      Option.bind (fP_keep M) fun Mz8 =>
      Option.bind (fW_arrive 1 x1 x2 x3 Mz8) fun qz10 =>
      some (qz10.1, qz10.2)
    else
      some ((-1), M)
def fB_placeOf_b2 (w : Nat) (x1 : Int32) (M : Mm) (x2 : Int32) : Option (Int32 ⊕ (Int32 ⊕ Unit)) :=
  if (M w 0) ≤ x2 then
    some (Sum.inr (Sum.inr ()))
  else
    if inb x2 24 then
    if (M (w + 1) (jix x2)) = x1 then
      some (Sum.inr (Sum.inl x2))
    else
      some (Sum.inl (x2 + 1))
    else none
def fB_placeOf (w : Nat) (x1 : Int32) (M : Mm) : Option Int32 :=
  Option.bind (lp 1000000 (fun s => fB_placeOf_b2 w x1 M s) 0) fun e2 =>
  match e2 with
  | Sum.inl p2 =>
      let yz2 : Int32 := p2
      some yz2
  | Sum.inr p2 =>
      some (-1)
def fL_plainly (x1 : Int32) (M : Mm) : Int32 :=
  if x1 = 0 then
    ((900 - (100 * (M 130 9))) + (20 * (M 130 3)))
  else if x1 = 1 then
    (M 130 1)
  else 
    1
def fL_joined (x0 : Int32) (x1 : Int32) (x2 : Int32) : Option Int32 :=
  if x0 = 20001 then
    some (x1 ||| x2)
  else if x0 = 20002 then
    some (x1 &&& x2)
  else if x0 = 20003 then
    if x1 ≤ x2 then
      some 0
    else
      some 1
  else if x0 = 20004 then
    some (x1 + x2)
  else if x0 = 20005 then
    some (x1 - x2)
  else if x0 = 20006 then
    some (x1 * x2)
  else if x0 = 20007 then
    if x2 = 0 then
      some 0
    else
      if ¬ x2 = 0 then
      some (x1 / x2)
      else none
  else if x0 = 20008 then
    if x2 ≤ x1 then
      some 0
    else
      some 1
  else if x0 = 20009 then
    if x1 = x2 then
      some 1
    else
      some 0
  else 
    if x1 ≤ x2 then
      some 0
    else
      some 1
def fL_worked_j101 (x2 : Int32) (x3 : Int32) (x4 : Int32) (z5 : Int32) (M : Mm) : Option (Int32 × Mm) :=
  if z5 < 20000 then
    some (x3, M)
  else
    if x3 < 1 then
      some (x3, M)
    else
      if inb (x3 + (-1)) 32 then
      if inb ((x3 + (-1)) + 1) 32 then
      Option.bind (fL_joined z5 (M 131 (jix (x3 + (-1)))) (M 131 (jix ((x3 + (-1)) + 1)))) fun qz9 =>
      if inb (x3 + (-1)) 32 then
      let Mz10 : Mm := mput M 131 (jix (x3 + (-1))) qz9
      some ((x3 + (-1)), Mz10)
      else none
      else none
      else none
def fL_worked_b5 (x2 : Int32) (x3 : Int32) (x4 : Int32) (M : Mm) : Option ((Int32 × Int32 × Mm) ⊕ (Int32 × Mm)) :=
  if x2 ≤ x4 then
    some (Sum.inr (x3, M))
  else
    if inb x4 400 then
    let vz2 : Int32 := (M 129 (jix x4))
    Option.bind (α := (Int32 × Mm)) (
      if 20000 ≤ vz2 then
        if vz2 = 20003 then
          if x3 < 0 then
            fL_worked_j101 x2 x3 x4 vz2 M
          else
            if inb x3 32 then
            if inb x3 32 then
            let Mz4 : Mm := mput M 131 (jix x3) (1 - (M 131 (jix x3)))
            some (x3, Mz4)
            else none
            else none
        else
          fL_worked_j101 x2 x3 x4 vz2 M
      else
        if 32 ≤ (x3 + 1) then
          if vz2 = 20003 then
            if x3 < 0 then
              fL_worked_j101 x2 x3 x4 vz2 M
            else
              if inb x3 32 then
              if inb x3 32 then
              let Mz13 : Mm := mput M 131 (jix x3) (1 - (M 131 (jix x3)))
              some (x3, Mz13)
              else none
              else none
          else
            fL_worked_j101 x2 x3 x4 vz2 M
        else
          Option.bind (α := Int32) (
            if 10000 ≤ vz2 then
              if inb (vz2 - 10000) 11 then
              some (M 130 (jix (vz2 - 10000)))
              else none
            else
              some vz2) fun yz22 =>
          if inb (x3 + 1) 32 then
          let Mz23 : Mm := mput M 131 (jix (x3 + 1)) yz22
          some ((x3 + 1), Mz23)
          else none) fun t142 =>
    let yz25 : Int32 := t142.1
    let Mz26 : Mm := t142.2
    some (Sum.inl (yz25, (x4 + 1), Mz26))
    else none
def fL_worked (x1 : Int32) (x2 : Int32) (M : Mm) : Option (Int32 × Mm) :=
  Option.bind (lp 1000000 (fun s => fL_worked_b5 x2 s.1 s.2.1 s.2.2) ((-1), x1, M)) fun e5 =>
  let yz27 : Int32 := e5.1
  let Mz28 : Mm := e5.2
  if yz27 < 0 then
    some (0, Mz28)
  else
    if inb yz27 32 then
    some ((Mz28 131 (jix yz27)), Mz28)
    else none
def fK_held (x0 : Int32) (x1 : Int32) (x2 : Int32) : Int32 :=
  (jmax x1 (jmin x2 x0))
def fL_tells_j92 (x1 : Int32) (x2 : Int32) (z3 : Int32) (M : Mm) : Option ((Int32 × Mm) ⊕ ((Int32 × Mm) ⊕ Mm)) :=
  some (Sum.inl ((z3 + 1), M))
def fL_tells_b8 (x1 : Int32) (x2 : Int32) (x3 : Int32) (M : Mm) : Option ((Int32 × Mm) ⊕ ((Int32 × Mm) ⊕ Mm)) :=
  if (M 124 0) ≤ x3 then
    some (Sum.inr (Sum.inr M))
  else
    if inb x3 16 then
    if inb x3 16 then
    let vz4 : Int32 := (if (M 127 (jix x3)) = (M 128 (jix x3)) then (1 : Int32) else 0)
    if inb x3 16 then
    if (M 125 (jix x3)) = x1 then
      if vz4 = 0 then
        if inb x3 16 then
        if inb x3 16 then
        Option.bind (fL_worked (M 127 (jix x3)) (M 128 (jix x3)) M) fun qz9 =>
        if qz9.1 = 0 then
          fL_tells_j92 x1 x2 x3 qz9.2
        else
          some (Sum.inr (Sum.inl (x3, qz9.2)))
        else none
        else none
      else
        some (Sum.inr (Sum.inl (x3, M)))
    else
      fL_tells_j92 x1 x2 x3 M
    else none
    else none
    else none
def fL_tells (x1 : Int32) (M : Mm) : Option (Int32 × Mm) :=
  let vz1 : Int32 := fL_plainly x1 M
  Option.bind (lp 1000000 (fun s => fL_tells_b8 x1 vz1 s.1 s.2) (0, M)) fun e8 =>
  match e8 with
  | Sum.inl p8 =>
      let yz10 : Int32 := p8.1
      let Mz11 : Mm := p8.2
      if inb yz10 16 then
      if inb yz10 16 then
      Option.bind (fL_worked (Mz11 126 (jix yz10)) (Mz11 127 (jix yz10)) Mz11) fun qz15 =>
      if x1 = 0 then
        let vz16 : Int32 := fK_held qz15.1 0 1000
        some (vz16, qz15.2)
      else if x1 = 1 then
        let vz17 : Int32 := fK_held qz15.1 0 99
        some (vz17, qz15.2)
      else 
        let vz18 : Int32 := fK_held qz15.1 0 20
        some (vz18, qz15.2)
      else none
      else none
  | Sum.inr p8 =>
      let Mz19 : Mm := p8
      if x1 = 0 then
        let vz20 : Int32 := fK_held vz1 0 1000
        some (vz20, Mz19)
      else if x1 = 1 then
        let vz21 : Int32 := fK_held vz1 0 99
        some (vz21, Mz19)
      else 
        let vz22 : Int32 := fK_held vz1 0 20
        some (vz22, Mz19)
def fW_ask (w : Nat) (x1 : Int32) (x2 : Int32) (M : Mm) : Option (Int32 × Mm) :=
  if inb x2 24 then
  let vz2 : Int32 := (M (w + 9) (jix x2))
  if inb x2 24 then
  let Mz4 : Mm := mput M 130 0 (M (w + 10) (jix x2))
  if inb x2 24 then
  let Mz6 : Mm := mput Mz4 130 1 (Mz4 (w + 11) (jix x2))
  if inb x2 24 then
  let Mz8 : Mm := mput Mz6 130 2 (Mz6 (w + 12) (jix x2))
  if inb vz2 12 then
  let Mz10 : Mm := mput Mz8 130 3 (Mz8 (w + 2) (jix vz2))
  if inb vz2 12 then
  let Mz12 : Mm := mput Mz10 130 4 (Mz10 (w + 3) (jix vz2))
  if inb vz2 12 then
  let Mz14 : Mm := mput Mz12 130 5 (Mz12 (w + 4) (jix vz2))
  let Mz15 : Mm := mput Mz14 130 6 (Mz14 w 5)
  let Mz16 : Mm := mput Mz15 130 7 (Mz15 w 6)
  let Mz17 : Mm := mput Mz16 130 8 (Mz16 w 9)
  let Mz18 : Mm := mput Mz17 130 9 (Mz17 w 10)
  let Mz19 : Mm := mput Mz18 130 10 (Mz18 w 11)
  Option.bind (fL_tells x1 Mz19) fun qz21 =>
  some (qz21.1, qz21.2)
  else none
  else none
  else none
  else none
  else none
  else none
  else none
def fW_isOpened (w : Nat) (x1 : Int32) (M : Mm) : (Int32 × Mm) :=
  if (M w 13) = 0 then
    let Mz1 : Mm := mput M w 12 ((1664525 * (M w 12)) + 1013904223)
    if x1 ≤ (jrem (jushr (Mz1 w 12) 8) 1000) then
      (0, Mz1)
    else
      (1, Mz1)
  else
    if x1 < 500 then
      (0, M)
    else
      (1, M)
def fW_take (w : Nat) (x1 : Int32) (x2 : Int32) (M : Mm) : Option (Int32 × Mm) :=
  if inb x1 24 then
  let vz2 : Int32 := (M (w + 10) (jix x1))
  if inb x1 24 then
  let vz4 : Int32 := (M (w + 9) (jix x1))
  Option.bind (α := (Int32 × Mm)) (
    if vz2 = 1 then
      if inb vz4 12 then
      let vz6 : Int32 := (jmin x2 (M (w + 4) (jix vz4)))
      if inb vz4 12 then
      if inb vz4 12 then
      let Mz8 : Mm := mput M (w + 4) (jix vz4) ((M (w + 4) (jix vz4)) - vz6)
      some (vz6, Mz8)
      else none
      else none
      else none
    else
      some (x2, M)) fun t60 =>
  let yz10 : Int32 := t60.1
  let Mz11 : Mm := t60.2
  if inb vz2 7 then
  if inb vz2 7 then
  let Mz13 : Mm := mput Mz11 (w + 13) (jix vz2) ((Mz11 (w + 13) (jix vz2)) + yz10)
  if inb vz4 12 then
  if inb vz4 12 then
  let Mz16 : Mm := mput Mz13 (w + 5) (jix vz4) ((Mz13 (w + 5) (jix vz4)) + 1)
  some (yz10, Mz16)
  else none
  else none
  else none
  else none
  else none
  else none
def fW_feel (w : Nat) (x1 : Int32) (x2 : Int32) (M : Mm) : Option Mm :=
  if inb x1 24 then
  let vz2 : Int32 := (M (w + 10) (jix x1))
  if inb x1 24 then
  let vz4 : Int32 := (M (w + 9) (jix x1))
  if inb vz4 12 then
  if inb vz2 7 then
  let vz7 : Int32 := fK_held ((M (w + 2) (jix vz4)) + (fC0 (jix vz2))) (-9) 9
  if inb vz4 12 then
  let Mz8 : Mm := mput M (w + 2) (jix vz4) vz7
  Option.bind (α := Mm) (
    if vz2 = 3 then
      let Mz10 : Mm := mput Mz8 w 5 (jmax 0 ((Mz8 w 5) - x2))
      some Mz10
    else
      some Mz8) fun Mz11 =>
  Option.bind (α := Mm) (
    if vz2 = 4 then
      let Mz12 : Mm := mput Mz11 w 6 (jmax 0 ((Mz11 w 6) - x2))
      some Mz12
    else
      some Mz11) fun Mz13 =>
  if vz2 = 0 then
    if inb x1 24 then
    if (Mz13 (w + 11) (jix x1)) < 50 then
      some Mz13
    else
      let Mz15 : Mm := mput Mz13 w 7 ((Mz13 w 7) + 1)
      let Mz16 : Mm := mput Mz15 w 5 (jmin 99 ((Mz15 w 5) + 5))
      some Mz16
    else none
  else
    some Mz13
  else none
  else none
  else none
  else none
  else none
def fB_remove (w : Nat) (x1 : Int32) (M : Mm) : Option Mm :=
  let vz1 : Int32 := (((M w 0) - x1) - 1)
  if x1 < 0 then
    some M
  else
    if 0 ≤ vz1 then
      if ¬ ((x1 + 1) : Int32) < 0 ∧ ¬ (x1 : Int32) < 0 ∧ ¬ (vz1 : Int32) < 0 ∧ jix (x1 + 1) + jix vz1 ≤ 24 ∧ jix x1 + jix vz1 ≤ 24 then
      let Mz2 : Mm := mcp M (w + 1) (w + 1) (jix (x1 + 1)) (jix x1) (jix vz1)
      if ¬ ((x1 + 1) : Int32) < 0 ∧ ¬ (x1 : Int32) < 0 ∧ ¬ (vz1 : Int32) < 0 ∧ jix (x1 + 1) + jix vz1 ≤ 24 ∧ jix x1 + jix vz1 ≤ 24 then
      let Mz4 : Mm := mcp Mz2 (w + 2) (w + 2) (jix (x1 + 1)) (jix x1) (jix vz1)
      if ¬ ((x1 + 1) : Int32) < 0 ∧ ¬ (x1 : Int32) < 0 ∧ ¬ (vz1 : Int32) < 0 ∧ jix (x1 + 1) + jix vz1 ≤ 24 ∧ jix x1 + jix vz1 ≤ 24 then
      let Mz6 : Mm := mcp Mz4 (w + 3) (w + 3) (jix (x1 + 1)) (jix x1) (jix vz1)
      if ¬ ((x1 + 1) : Int32) < 0 ∧ ¬ (x1 : Int32) < 0 ∧ ¬ (vz1 : Int32) < 0 ∧ jix (x1 + 1) + jix vz1 ≤ 24 ∧ jix x1 + jix vz1 ≤ 24 then
      let Mz8 : Mm := mcp Mz6 (w + 4) (w + 4) (jix (x1 + 1)) (jix x1) (jix vz1)
      if ¬ ((x1 + 1) : Int32) < 0 ∧ ¬ (x1 : Int32) < 0 ∧ ¬ (vz1 : Int32) < 0 ∧ jix (x1 + 1) + jix vz1 ≤ 24 ∧ jix x1 + jix vz1 ≤ 24 then
      let Mz10 : Mm := mcp Mz8 (w + 5) (w + 5) (jix (x1 + 1)) (jix x1) (jix vz1)
      let Mz12 : Mm := mput Mz10 w 0 ((Mz10 w 0) - 1)
      some Mz12
      else none
      else none
      else none
      else none
      else none
    else
      some M
def fW_bringAt (w : Nat) (x1 : Int32) (M : Mm) : Option (Int32 × Mm) :=
  Option.bind (fW_ask w 0 x1 M) fun qz2 =>
  let qz3 : Int32 × Mm := fW_isOpened w qz2.1 qz2.2
  Option.bind (α := (Int32 × Mm)) (
    if qz3.1 = 0 then
      some ((-1), qz3.2)
    else
      Option.bind (fW_ask w 1 x1 qz3.2) fun qz5 =>
      Option.bind (fW_take w x1 qz5.1 qz5.2) fun qz7 =>
      Option.bind (fW_feel w x1 qz7.1 qz7.2) fun Mz9 =>
      some (qz7.1, Mz9)) fun t40 =>
  let yz10 : Int32 := t40.1
  let Mz11 : Mm := t40.2
  Option.bind (fW_ask w 2 x1 Mz11) fun qz13 =>
  let Mz14 : Mm := mput qz13.2 w 9 (jmin 99 ((Mz11 w 9) + qz13.1))
  if inb x1 24 then
  Option.bind (α := Int32) (
    if qz3.1 = 0 then
      if inb x1 24 then
      some (Mz14 (w + 9) (jix x1))
      else none
    else
      some yz10) fun yz17 =>
  Option.bind (fW_write w (if qz3.1 = 0 then (2 : Int32) else 1) (Mz14 (w + 8) (jix x1)) yz17 Mz14) fun Mz19 =>
  if qz3.1 = 0 then
    some (yz10, Mz19)
  else
    Option.bind (fB_remove (w + 7) x1 Mz19) fun Mz21 =>
    some (yz10, Mz21)
  else none
def fK_bring (x1 : Int32) (M : Mm) : Option (Int32 × Mm) :=
  Option.bind (fB_placeOf 8 x1 M) fun qz2 =>
  if qz2 = (-1) then
    some ((-2), M)
  else
    if (M 1 5) = 0 then
      some ((-2), M)
    else
      Option.bind (fP_keep M) fun Mz4 =>
      Option.bind (fW_bringAt 1 qz2 Mz4) fun qz6 =>
      some (qz6.1, qz6.2)
def fK_rain (x1 : Int32) (M : Mm) : Option (Int32 × Mm) :=
  let vz1 : Int32 := fK_isWithin x1 0 9
  if vz1 = 0 then
    some (0, M)
  else
    Option.bind (fP_keep M) fun Mz3 =>
    let Mz4 : Mm := mput Mz3 1 10 x1
    some (1, Mz4)
def fW_takePost_b2 (w : Nat) (x2 : Int32) (M : Mm) : Option ((Int32 × Mm) ⊕ Mm) :=
  if (M 123 1) ≤ x2 then
    some (Sum.inr M)
  else
    if inb x2 16 then
    Option.bind (α := Mm) (
      if (M 132 (jix x2)) = (M w 11) then
        if inb x2 16 then
        if inb x2 16 then
        if inb x2 16 then
        Option.bind (fW_arrive w (M 133 (jix x2)) (M 134 (jix x2)) (M 135 (jix x2)) M) fun qz6 =>
        some qz6.2
        else none
        else none
        else none
      else
        some M) fun Mz7 =>
    some (Sum.inl ((x2 + 1), Mz7))
    else none
def fW_takePost (w : Nat) (M : Mm) : Option Mm :=
  Option.bind (lp 1000000 (fun s => fW_takePost_b2 w s.1 s.2) (0, M)) fun e2 =>
  let Mz8 : Mm := e2
  some Mz8
def fD_beginRound (w : Nat) (M : Mm) : Mm :=
  let Mz1 : Mm := mcp M (w + 4) (w + 5) 0 0 12
  Mz1
def fW_visit_b14 (w : Nat) (x1 : Int32) (x3 : Int32) (x4 : Int32) (x5 : Int32) (M : Mm) : Option ((Int32 × Int32 × Int32 × Mm) ⊕ (Int32 × Mm)) :=
  if x5 ≤ 0 then
    some (Sum.inr (x3, M))
  else
    if inb x4 24 then
    let vz3 : Int32 := (if (M (w + 9) (jix x4)) = x1 then (if 24 ≤ (M w 9) then (0 : Int32) else (if (M w 5) ≤ 0 then (0 : Int32) else 1)) else 0)
    Option.bind (α := (Int32 × Int32 × Mm)) (
      if vz3 = 0 then
        some (x3, (x4 + 1), M)
      else
        Option.bind (fW_bringAt w x4 M) fun qz5 =>
        if qz5.1 = (-1) then
          some (x3, (x4 + 1), qz5.2)
        else
          some ((x3 + 1), x4, qz5.2)) fun t81 =>
    let yz6 : Int32 := t81.1
    let yz7 : Int32 := t81.2.1
    let Mz8 : Mm := t81.2.2
    some (Sum.inl (yz6, yz7, (x5 + (-1)), Mz8))
    else none
def fW_visit (w : Nat) (x1 : Int32) (M : Mm) : Option (Int32 × Mm) :=
  let vz1 : Int32 := (M (w + 7) 0)
  Option.bind (lp 1000000 (fun s => fW_visit_b14 w x1 s.1 s.2.1 s.2.2.1 s.2.2.2) (0, 0, vz1, M)) fun e14 =>
  let yz9 : Int32 := e14.1
  let Mz10 : Mm := e14.2
  some (yz9, Mz10)
def fW_ageLetters_b10 (w : Nat) (x1 : Int32) (x2 : Int32) (M : Mm) : Option ((Int32 × Int32 × Mm) ⊕ Mm) :=
  if x2 ≤ 0 then
    some (Sum.inr M)
  else
    if inb x1 24 then
    if inb x1 24 then
    let Mz3 : Mm := mput M (w + 12) (jix x1) ((M (w + 12) (jix x1)) + 1)
    if inb x1 24 then
    Option.bind (α := (Int32 × Mm)) (
      if 9 ≤ (Mz3 (w + 12) (jix x1)) then
        let Mz6 : Mm := mput Mz3 w 8 ((Mz3 w 8) + 1)
        if inb x1 24 then
        if inb x1 24 then
        Option.bind (fW_write w 3 (Mz6 (w + 8) (jix x1)) (Mz6 (w + 9) (jix x1)) Mz6) fun Mz10 =>
        Option.bind (fB_remove (w + 7) x1 Mz10) fun Mz12 =>
        some (x1, Mz12)
        else none
        else none
      else
        some ((x1 + 1), Mz3)) fun t88 =>
    let yz13 : Int32 := t88.1
    let Mz14 : Mm := t88.2
    some (Sum.inl (yz13, (x2 + (-1)), Mz14))
    else none
    else none
    else none
def fW_ageLetters (w : Nat) (M : Mm) : Option Mm :=
  let vz1 : Int32 := (M (w + 7) 0)
  Option.bind (lp 1000000 (fun s => fW_ageLetters_b10 w s.1 s.2.1 s.2.2) (0, vz1, M)) fun e10 =>
  let Mz15 : Mm := e10
  some Mz15
def fD_calmTheUnvisited_b2 (w : Nat) (x1 : Int32) (M : Mm) : Option ((Int32 × Mm) ⊕ Mm) :=
  if (M w 0) ≤ x1 then
    some (Sum.inr M)
  else
    if inb x1 12 then
    if inb x1 12 then
    Option.bind (α := Mm) (
      if (M (w + 4) (jix x1)) = (M (w + 5) (jix x1)) then
        if inb x1 12 then
        if inb x1 12 then
        Option.bind (α := Int32) (
          if (M (w + 1) (jix x1)) ≤ 0 then
            if inb x1 12 then
            if 0 ≤ (M (w + 1) (jix x1)) then
              some 0
            else
              some 1
            else none
          else
            some (-1)) fun yz6 =>
        if inb x1 12 then
        let Mz7 : Mm := mput M (w + 1) (jix x1) ((M (w + 1) (jix x1)) + yz6)
        some Mz7
        else none
        else none
        else none
      else
        some M) fun Mz9 =>
    some (Sum.inl ((x1 + 1), Mz9))
    else none
    else none
def fD_calmTheUnvisited (w : Nat) (M : Mm) : Option Mm :=
  Option.bind (lp 1000000 (fun s => fD_calmTheUnvisited_b2 w s.1 s.2) (0, M)) fun e2 =>
  let Mz10 : Mm := e2
  some Mz10
def fW_passDay_b21 (w : Nat) (x2 : Int32) (x3 : Int32) (M : Mm) : Option ((Int32 × Int32 × Mm) ⊕ (Int32 × Mm)) :=
  if (M 123 6) ≤ x3 then
    some (Sum.inr (x2, M))
  else
    if inb x3 16 then
    Option.bind (fW_visit w (M 136 (jix x3)) M) fun qz7 =>
    let vz8 : Int32 := (x2 + qz7.1)
    some (Sum.inl (vz8, (x3 + 1), qz7.2))
    else none
def fW_passDay (w : Nat) (M : Mm) : Option (Int32 × Mm) :=
  let Mz1 : Mm := mput M w 9 0
  Option.bind (fW_takePost w Mz1) fun Mz3 =>
  let Mz4 : Mm := fD_beginRound (w + 1) Mz3
  Option.bind (lp 1000000 (fun s => fW_passDay_b21 w s.1 s.2.1 s.2.2) (0, 0, Mz4)) fun e21 =>
  let yz9 : Int32 := e21.1
  let Mz10 : Mm := e21.2
  Option.bind (fW_ageLetters w Mz10) fun Mz12 =>
  let Mz13 : Mm := mput Mz12 w 6 (jmin 99 ((Mz12 w 6) + 5))
  let vz14 : Int32 := fK_held (if (Mz13 w 6) ≤ 50 then ((Mz13 w 5) + 3) else ((Mz13 w 5) - 5)) 0 99
  let Mz15 : Mm := mput Mz13 w 5 vz14
  Option.bind (fD_calmTheUnvisited (w + 1) Mz15) fun Mz17 =>
  let Mz18 : Mm := mput Mz17 w 11 ((Mz17 w 11) + 1)
  some (yz9, Mz18)
def fK_days_b31 (x1 : Int32) (x2 : Int32) (x3 : Int32) (M : Mm) : Option ((Int32 × Int32 × Mm) ⊕ (Int32 × Mm)) :=
  if x1 ≤ x3 then
    some (Sum.inr (x2, M))
  else
    Option.bind (fP_keep M) fun Mz3 =>
    Option.bind (fW_passDay 1 Mz3) fun qz5 =>
    let vz6 : Int32 := (x2 + qz5.1)
    some (Sum.inl (vz6, (x3 + 1), qz5.2))
def fK_days (x1 : Int32) (M : Mm) : Option (Int32 × Mm) :=
  let vz1 : Int32 := fK_isWithin x1 1 60
  if vz1 = 0 then
    some ((-1), M)
  else
    if ((M 1 11) + x1) ≤ 9999 then
      Option.bind (lp 1000000 (fun s => fK_days_b31 x1 s.1 s.2.1 s.2.2) (0, 0, M)) fun e31 =>
      let yz7 : Int32 := e31.1
      let Mz8 : Mm := e31.2
      some (yz7, Mz8)
    else
      some ((-1), M)
def fK_feedOne_b3 (x1 : Int32) (x2 : Int32) (M : Mm) : Option ((Int32 × Mm) ⊕ Mm) :=
  if x2 < 0 then
    some (Sum.inr M)
  else
    if 400 ≤ (M 0 10) then
      some (Sum.inr M)
    else
      if inb (M 0 10) 400 then
      let Mz1 : Mm := mput M 178 (jix (M 0 10)) (jbyte (jbyte (jushr x1 x2)))
      let Mz3 : Mm := mput Mz1 0 10 ((Mz1 0 10) + 1)
      some (Sum.inl ((x2 + (-8)), Mz3))
      else none
def fK_feedOne (x1 : Int32) (M : Mm) : Option Mm :=
  Option.bind (lp 1000000 (fun s => fK_feedOne_b3 x1 s.1 s.2) (24, M)) fun e3 =>
  let Mz4 : Mm := e3
  some Mz4
def fK_feed (x1 : Int32) (x2 : Int32) (x3 : Int32) (x4 : Int32) (x5 : Int32) (M : Mm) : Option (Int32 × Mm) :=
  if ((M 0 10) + 20) ≤ 400 then
    Option.bind (fK_feedOne x1 M) fun Mz2 =>
    Option.bind (fK_feedOne x2 Mz2) fun Mz4 =>
    Option.bind (fK_feedOne x3 Mz4) fun Mz6 =>
    Option.bind (fK_feedOne x4 Mz6) fun Mz8 =>
    Option.bind (fK_feedOne x5 Mz8) fun Mz10 =>
    some ((Mz10 0 10), Mz10)
  else
    some ((-1), M)
def fK_end (x1 : Int32) (M : Mm) : (Int32 × Mm) :=
  let vz1 : Int32 := fK_isWithin x1 0 (M 0 10)
  if vz1 = 0 then
    (0, M)
  else
    let Mz2 : Mm := mput M 0 10 x1
    (1, Mz2)
def fR_forgive (M : Mm) : Mm :=
  let Mz1 : Mm := mput M 146 1 0
  let Mz2 : Mm := mput Mz1 146 2 (-1)
  Mz2
def fJ_isLatin1_aae02_3 : Int32 :=
  1
def fJ_coder_7d493_3 : Int32 :=
  0
def fJ_length_8abf5_3 : Int32 :=
  ((10 : Int32) >>> ((0 : Int32) &&& 31))
def fJ_canEncode_9a6ad (x0 : Int32) : Int32 :=
  if x0 < 0 then
    0
  else
    if 255 < x0 then
      0
    else
      1
def fJ_indexOfChar_4cfef_3_b7 (x3 : Int32) (x4 : Int32) (M : Mm) (x5 : Int32) : Option (Int32 ⊕ (Int32 ⊕ Unit)) :=
  if x3 ≤ x5 then
    some (Sum.inr (Sum.inr ()))
  else
    if inb x5 10 then
    if (fC4 (jix x5)) = x4 then
      some (Sum.inr (Sum.inl x5))
    else
      some (Sum.inl (x5 + 1))
    else none
def fJ_indexOfChar_4cfef_3 (x1 : Int32) (x2 : Int32) (x3 : Int32) (M : Mm) : Option Int32 :=
  let vz1 : Int32 := (jbyte x1)
  Option.bind (lp 1000000 (fun s => fJ_indexOfChar_4cfef_3_b7 x3 vz1 M s) x2) fun e7 =>
  match e7 with
  | Sum.inl p7 =>
      let yz3 : Int32 := p7
      some yz3
  | Sum.inr p7 =>
      some (-1)
def fJ_indexOf_4cfef_3 (x1 : Int32) (x2 : Int32) (x3 : Int32) (M : Mm) : Option Int32 :=
  let vz1 : Int32 := fJ_canEncode_9a6ad x1
  if vz1 = 0 then
    some (-1)
  else
    let vz2 : Int32 := (jmax x2 0)
    let vz3 : Int32 := (jmin x3 10)
    if vz2 < vz3 then
      Option.bind (fJ_indexOfChar_4cfef_3 x1 vz2 vz3 M) fun qz5 =>
      some qz5
    else
      some (-1)
def fJ_indexOf_7cf53_3 (x1 : Int32) (x2 : Int32) (M : Mm) : Option Int32 :=
  let vz1 : Int32 := fJ_length_8abf5_3
  Option.bind (fJ_indexOf_4cfef_3 x1 x2 vz1 M) fun qz3 =>
  some qz3
def fJ_indexOf_0f7a4_3 (x1 : Int32) (M : Mm) : Option Int32 :=
  Option.bind (fJ_indexOf_7cf53_3 x1 0 M) fun qz2 =>
  some qz2
def fO_sortOf (x0 : Int32) (M : Mm) : Option Int32 :=
  if x0 = 32 then
    some 3
  else
    if x0 = 10 then
      some 3
    else
      let vz1 : Int32 := fK_isWithin x0 48 57
      if vz1 = 0 then
        let vz2 : Int32 := fK_isWithin x0 97 122
        if vz2 = 0 then
          let vz3 : Int32 := fK_isWithin x0 65 90
          if vz3 = 0 then
            if x0 ≤ 0 then
              some 0
            else
              Option.bind (fJ_indexOf_0f7a4_3 (jchar x0) M) fun qz5 =>
              if qz5 < 0 then
                some 0
              else
                some x0
          else
            some 4
        else
          some 4
      else
        some 1
def fO_add (x1 : Int32) (x2 : Int32) (x3 : Int32) (M : Mm) : Option Mm :=
  if 400 < (M 162 0) then
    some M
  else
    if inb (M 162 0) 401 then
    let Mz1 : Mm := mput M 163 (jix (M 162 0)) x1
    if inb (Mz1 162 0) 401 then
    let Mz3 : Mm := mput Mz1 164 (jix (Mz1 162 0)) 0
    if inb (Mz3 162 0) 401 then
    let Mz5 : Mm := mput Mz3 165 (jix (Mz3 162 0)) x2
    if inb (Mz5 162 0) 401 then
    let Mz7 : Mm := mput Mz5 166 (jix (Mz5 162 0)) x3
    let Mz9 : Mm := mput Mz7 162 0 ((Mz7 162 0) + 1)
    some Mz9
    else none
    else none
    else none
    else none
def fJ_coder_7d493_5 : Int32 :=
  0
def fJ_length_8abf5_5 : Int32 :=
  ((152 : Int32) >>> ((0 : Int32) &&& 31))
def fJ_isLatin1_aae02_5 : Int32 :=
  1
def fJ_checkIndex_8e157_j9 (z0 : Int32) (z1 : Int32) : Option Int32 :=
  none
def fJ_checkIndex_8e157 (x0 : Int32) (x1 : Int32) : Option Int32 :=
  if x0 < 0 then
    fJ_checkIndex_8e157_j9 x0 x1
  else
    if x0 < x1 then
      some x0
    else
      fJ_checkIndex_8e157_j9 x0 x1
def fJ_checkIndex_df160 (x0 : Int32) (x1 : Int32) : Option Unit :=
  Option.bind (fJ_checkIndex_8e157 x0 x1) fun qz2 =>
  some ()
def fJ_charAt_3b067_5 (x1 : Int32) (M : Mm) : Option Int32 :=
  Option.bind (fJ_checkIndex_df160 x1 152) fun uz2 =>
  if inb x1 152 then
  if narrow .char (Value.int (jchar ((fC6 (jix x1)) &&& 255))) = Value.int (jchar ((fC6 (jix x1)) &&& 255)) then
  some (jchar ((fC6 (jix x1)) &&& 255))
  else none
  else none
def fJ_charAt_5068e_5 (x1 : Int32) (M : Mm) : Option Int32 :=
  Option.bind (fJ_charAt_3b067_5 x1 M) fun qz2 =>
  if narrow .char (Value.int qz2) = Value.int qz2 then
  some qz2
  else none
def fO_isWordAt_b3 (x0 : Int32) (x2 : Int32) (x3 : Int32) (M : Mm) (x4 : Int32) : Option (Int32 ⊕ (Unit ⊕ Unit)) :=
  if x3 ≤ x4 then
    some (Sum.inr (Sum.inr ()))
  else
    Option.bind (fJ_charAt_5068e_5 ((x0 + x4) - x2) M) fun qz2 =>
    if inb x4 400 then
    if qz2 = (M 178 (jix x4)) then
      some (Sum.inl (x4 + 1))
    else
      some (Sum.inr (Sum.inl ()))
    else none
def fO_isWordAt (x0 : Int32) (x2 : Int32) (x3 : Int32) (M : Mm) : Option Int32 :=
  Option.bind (lp 1000000 (fun s => fO_isWordAt_b3 x0 x2 x3 M s) x2) fun e3 =>
  match e3 with
  | Sum.inl p3 =>
      some 0
  | Sum.inr p3 =>
      some 1
def fO_wordOf_j65 (x1 : Int32) (x2 : Int32) (z3 : Int32) (z4 : Int32) (z5 : Int32) (M : Mm) : Option ((Int32 × Int32 × Int32) ⊕ (Int32 ⊕ Unit)) :=
  some (Sum.inl (z3, z4, (z5 + 1)))
def fO_wordOf_j56 (x1 : Int32) (x2 : Int32) (z3 : Int32) (z5 : Int32) (M : Mm) : Option ((Int32 × Int32 × Int32) ⊕ (Int32 ⊕ Unit)) :=
  let vz6 : Int32 := (z5 + 1)
  fO_wordOf_j65 x1 x2 (z3 + 1) vz6 z5 M
def fO_wordOf_b10 (x1 : Int32) (x2 : Int32) (M : Mm) (x3 : Int32) (x4 : Int32) (x5 : Int32) : Option ((Int32 × Int32 × Int32) ⊕ (Int32 ⊕ Unit)) :=
  let vz1 : Int32 := fJ_length_8abf5_5
  if vz1 ≤ x5 then
    some (Sum.inr (Sum.inr ()))
  else
    Option.bind (fJ_charAt_5068e_5 x5 M) fun qz3 =>
    if qz3 = 32 then
      if (x5 - x4) = (x2 - x1) then
        Option.bind (fO_isWordAt x4 x1 x2 M) fun qz5 =>
        if qz5 = 0 then
          fO_wordOf_j56 x1 x2 x3 x5 M
        else
          some (Sum.inr (Sum.inl x3))
      else
        fO_wordOf_j56 x1 x2 x3 x5 M
    else
      fO_wordOf_j65 x1 x2 x3 x4 x5 M
def fO_wordOf (x1 : Int32) (x2 : Int32) (M : Mm) : Option Int32 :=
  Option.bind (lp 1000000 (fun s => fO_wordOf_b10 x1 x2 M s.1 s.2.1 s.2.2) (256, 0, 0)) fun e10 =>
  match e10 with
  | Sum.inl p10 =>
      let yz7 : Int32 := p10
      some yz7
  | Sum.inr p10 =>
      some 0
def fO_weigh_b89 (x1 : Int32) (x3 : Int32) (M : Mm) : Option ((Int32 × Mm) ⊕ Mm) :=
  if inb x1 401 then
  if (M 166 (jix x1)) ≤ x3 then
    some (Sum.inr M)
  else
    if inb x1 401 then
    if inb x3 400 then
    if inb x1 401 then
    let Mz13 : Mm := mput M 164 (jix x1) (((10 * (M 164 (jix x1))) + (M 178 (jix x3))) - 48)
    some (Sum.inl ((x3 + 1), Mz13))
    else none
    else none
    else none
  else none
def fO_weigh_j72 (z1 : Int32) (M : Mm) : Option Mm :=
  if inb z1 401 then
  if (M 163 (jix z1)) = 1 then
    if inb z1 401 then
    let vz9 : Int32 := (M 165 (jix z1))
    Option.bind (lp 1000000 (fun s => fO_weigh_b89 z1 s.1 s.2) (vz9, M)) fun e89 =>
    let Mz15 : Mm := e89
    some Mz15
    else none
  else
    some M
  else none
def fO_weigh (x1 : Int32) (M : Mm) : Option Mm :=
  if inb x1 401 then
  if (M 163 (jix x1)) = 4 then
    if inb x1 401 then
    if inb x1 401 then
    Option.bind (fO_wordOf (M 165 (jix x1)) (M 166 (jix x1)) M) fun qz19 =>
    if inb x1 401 then
    let Mz20 : Mm := mput M 163 (jix x1) qz19
    some Mz20
    else none
    else none
    else none
  else
    if inb x1 401 then
    if (M 163 (jix x1)) = 1 then
      if inb x1 401 then
      if inb x1 401 then
      if ((M 166 (jix x1)) - (M 165 (jix x1))) ≤ 4 then
        fO_weigh_j72 x1 M
      else
        if inb x1 401 then
        let Mz5 : Mm := mput M 163 (jix x1) 0
        some Mz5
        else none
      else none
      else none
    else
      fO_weigh_j72 x1 M
    else none
  else none
def fO_scan_b10 (x2 : Int32) (x3 : Int32) (x4 : Int32) (M : Mm) : Option ((Int32 × Int32 × Mm) ⊕ Mm) :=
  if x2 ≤ x4 then
    some (Sum.inr M)
  else
    if 400 ≤ x4 then
      some (Sum.inr M)
    else
      if inb x4 400 then
      Option.bind (fO_sortOf (M 178 (jix x4)) M) fun qz4 =>
      let vz5 : Int32 := (if qz4 = x3 then (if qz4 = 4 then (1 : Int32) else (if qz4 = 1 then (1 : Int32) else 0)) else 0)
      Option.bind (α := Mm) (
        if vz5 = 0 then
          if qz4 = 3 then
            some M
          else
            Option.bind (fO_add qz4 x4 (x4 + 1) M) fun Mz7 =>
            some Mz7
        else
          if (M 162 0) ≤ 0 then
            if qz4 = 3 then
              some M
            else
              Option.bind (fO_add qz4 x4 (x4 + 1) M) fun Mz9 =>
              some Mz9
          else
            if inb ((M 162 0) - 1) 401 then
            let Mz10 : Mm := mput M 166 (jix ((M 162 0) - 1)) (x4 + 1)
            some Mz10
            else none) fun Mz12 =>
      some (Sum.inl (qz4, (x4 + 1), Mz12))
      else none
def fO_scan_b124 (x4 : Int32) (M : Mm) : Option ((Int32 × Mm) ⊕ Mm) :=
  if (M 162 0) ≤ x4 then
    some (Sum.inr M)
  else
    Option.bind (fO_weigh x4 M) fun Mz17 =>
    some (Sum.inl ((x4 + 1), Mz17))
def fO_scan (x2 : Int32) (M : Mm) : Option Mm :=
  let Mz1 : Mm := mput M 162 0 0
  Option.bind (lp 1000000 (fun s => fO_scan_b10 x2 s.1 s.2.1 s.2.2) (3, 0, Mz1)) fun e10 =>
  let Mz13 : Mm := e10
  Option.bind (fO_add 2 x2 x2 Mz13) fun Mz15 =>
  Option.bind (lp 1000000 (fun s => fO_scan_b124 s.1 s.2) (0, Mz15)) fun e124 =>
  let Mz18 : Mm := e124
  some Mz18
def fL_clear (M : Mm) : Mm :=
  let Mz1 : Mm := mput M 148 0 0
  let Mz2 : Mm := mput Mz1 148 1 0
  Mz2
def fJ_fill_53178_b5 (a : Nat) (na : Nat) (x1 : Int32) (x3 : Int32) (x2 : Int32) (M : Mm) : Option ((Int32 × Mm) ⊕ Mm) :=
  if x3 ≤ x2 then
    some (Sum.inr M)
  else
    if inb x2 na then
    let Mz2 : Mm := mput M a (jix x2) x1
    some (Sum.inl ((x2 + 1), Mz2))
    else none
def fJ_fill_53178 (a : Nat) (na : Nat) (x1 : Int32) (M : Mm) : Option Mm :=
  let vz1 : Int32 := (nI na)
  Option.bind (lp 1000000 (fun s => fJ_fill_53178_b5 a na x1 vz1 s.1 s.2) (0, M)) fun e5 =>
  let Mz4 : Mm := e5
  some Mz4
def fT_clearOne (x1 : Int32) (M : Mm) : Option Mm :=
  if x1 = 0 then
    let Mz1 : Mm := fL_clear M
    some Mz1
  else if x1 = 1 then
    let Mz2 : Mm := mput M 147 1 0
    some Mz2
  else if x1 = 2 then
    let Mz3 : Mm := mput M 147 6 0
    some Mz3
  else 
    let Mz4 : Mm := mput M 147 8 0
    Option.bind (fJ_fill_53178 161 144 0 Mz4) fun Mz6 =>
    some Mz6
def fR_sort (M : Mm) : Option Int32 :=
  if (M 146 1) = 0 then
    if (M 162 0) ≤ (M 146 4) then
      some 2
    else
      if inb (M 146 4) 401 then
      some (M 163 (jix (M 146 4)))
      else none
  else
    some 0
def fR_isFirstWord (x0 : Int32) (x1 : Int32) : Option Int32 :=
  if x0 = 0 then
    let vz1 : Int32 := fK_isWithin x1 256 258
    if vz1 = 0 ∨ vz1 = 1 then
    some vz1
    else none
  else if x0 = 1 then
    if x1 = 274 then
      some 1
    else
      some 0
  else if x0 = 2 then
    if x1 = 283 then
      some 1
    else
      some 0
  else 
    if x1 = 284 then
      some 1
    else
      some 0
def fR_blame (x1 : Int32) (M : Mm) : Option Mm :=
  if (M 146 1) = 0 then
    let Mz1 : Mm := mput M 146 1 x1
    Option.bind (α := Int32) (
      if (Mz1 162 0) ≤ (Mz1 146 4) then
        some (-1)
      else
        if inb (Mz1 146 4) 401 then
        some (Mz1 165 (jix (Mz1 146 4)))
        else none) fun yz3 =>
    let Mz4 : Mm := mput Mz1 146 2 yz3
    some Mz4
  else
    some M
def fR_begins (x1 : Int32) (x2 : Int32) (M : Mm) : Option (Int32 × Mm) :=
  Option.bind (fR_sort M) fun qz2 =>
  Option.bind (fR_isFirstWord x1 qz2) fun qz4 =>
  Option.bind (α := Mm) (
    if qz4 = 0 then
      Option.bind (fR_blame 1 M) fun Mz8 =>
      some Mz8
    else
      if x2 < 16 then
        some M
      else
        Option.bind (fR_blame 3 M) fun Mz6 =>
        some Mz6) fun Mz9 =>
  if (Mz9 146 1) = 0 then
    some (1, Mz9)
  else
    some (0, Mz9)
def fL_addStep (x1 : Int32) (M : Mm) : Option Mm :=
  if 400 ≤ (M 148 1) then
    some M
  else
    if inb (M 148 1) 400 then
    let Mz1 : Mm := mput M 153 (jix (M 148 1)) x1
    let Mz3 : Mm := mput Mz1 148 1 ((Mz1 148 1) + 1)
    some Mz3
    else none
def fR_operand (M : Mm) : Option Mm :=
  Option.bind (fR_sort M) fun qz2 =>
  if qz2 = 1 then
    if inb (M 146 4) 401 then
    Option.bind (fL_addStep (M 164 (jix (M 146 4))) M) fun Mz11 =>
    let Mz12 : Mm := mput Mz11 146 4 ((Mz11 146 4) + 1)
    some Mz12
    else none
  else
    let vz3 : Int32 := fK_isWithin qz2 263 273
    if vz3 = 0 then
      Option.bind (fR_blame 1 M) fun Mz5 =>
      some Mz5
    else
      Option.bind (fL_addStep ((10000 + qz2) - 263) M) fun Mz7 =>
      let Mz8 : Mm := mput Mz7 146 4 ((Mz7 146 4) + 1)
      some Mz8
def fR_number (x1 : Int32) (x2 : Int32) (M : Mm) : Option (Int32 × Mm) :=
  Option.bind (fR_sort M) fun qz2 =>
  if qz2 = 1 then
    if inb (M 146 4) 401 then
    let vz4 : Int32 := (M 164 (jix (M 146 4)))
    let vz5 : Int32 := fK_isWithin vz4 x1 x2
    if vz5 = 0 then
      Option.bind (fR_blame 2 M) fun Mz8 =>
      some (0, Mz8)
    else
      let Mz6 : Mm := mput M 146 4 ((M 146 4) + 1)
      some (vz4, Mz6)
    else none
  else
    Option.bind (fR_blame 1 M) fun Mz10 =>
    some (0, Mz10)
def fR_product_j31 (z1 : Int32) (M : Mm) : Option ((Int32 × Mm) ⊕ Mm) :=
  Option.bind (fR_sort M) fun qz8 =>
  let vz9 : Int32 := (if qz8 = 47 then (1 : Int32) else 0)
  let Mz10 : Mm := mput M 146 4 ((M 146 4) + 1)
  Option.bind (α := Mm) (
    if vz9 = 0 then
      Option.bind (fR_operand Mz10) fun Mz12 =>
      some Mz12
    else
      Option.bind (fR_number 1 9999 Mz10) fun qz14 =>
      Option.bind (fL_addStep qz14.1 qz14.2) fun Mz16 =>
      some Mz16) fun Mz17 =>
  Option.bind (fL_addStep (if vz9 = 0 then (20006 : Int32) else 20007) Mz17) fun Mz19 =>
  some (Sum.inl ((z1 + 1), Mz19))
def fR_product_b6 (x1 : Int32) (M : Mm) : Option ((Int32 × Mm) ⊕ Mm) :=
  if 400 ≤ x1 then
    some (Sum.inr M)
  else
    Option.bind (fR_sort M) fun qz4 =>
    if qz4 = 42 then
      fR_product_j31 x1 M
    else
      Option.bind (fR_sort M) fun qz6 =>
      if qz6 = 47 then
        fR_product_j31 x1 M
      else
        some (Sum.inr M)
def fR_product (M : Mm) : Option Mm :=
  Option.bind (fR_operand M) fun Mz2 =>
  Option.bind (lp 1000000 (fun s => fR_product_b6 s.1 s.2) (0, Mz2)) fun e6 =>
  let Mz20 : Mm := e6
  some Mz20
def fR_sum_j31 (z1 : Int32) (M : Mm) : Option ((Int32 × Mm) ⊕ Mm) :=
  Option.bind (fR_sort M) fun qz8 =>
  let vz9 : Int32 := (if qz8 = 43 then (20004 : Int32) else 20005)
  let Mz10 : Mm := mput M 146 4 ((M 146 4) + 1)
  Option.bind (fR_product Mz10) fun Mz12 =>
  Option.bind (fL_addStep vz9 Mz12) fun Mz14 =>
  some (Sum.inl ((z1 + 1), Mz14))
def fR_sum_b6 (x1 : Int32) (M : Mm) : Option ((Int32 × Mm) ⊕ Mm) :=
  if 400 ≤ x1 then
    some (Sum.inr M)
  else
    Option.bind (fR_sort M) fun qz4 =>
    if qz4 = 43 then
      fR_sum_j31 x1 M
    else
      Option.bind (fR_sort M) fun qz6 =>
      if qz6 = 45 then
        fR_sum_j31 x1 M
      else
        some (Sum.inr M)
def fR_sum (M : Mm) : Option Mm :=
  Option.bind (fR_product M) fun Mz2 =>
  Option.bind (lp 1000000 (fun s => fR_sum_b6 s.1 s.2) (0, Mz2)) fun e6 =>
  let Mz15 : Mm := e6
  some Mz15
def fR_relation_j32 (z1 : Int32) (M : Mm) : Option (Int32 × Mm) :=
  let Mz5 : Mm := mput M 146 4 ((M 146 4) + 1)
  if z1 = 61 then
    some (20009, Mz5)
  else
    if z1 = 60 then
      some (20008, Mz5)
    else
      some (20010, Mz5)
def fR_relation (M : Mm) : Option (Int32 × Mm) :=
  Option.bind (fR_sort M) fun qz2 =>
  if qz2 = 60 then
    fR_relation_j32 qz2 M
  else
    if qz2 = 61 then
      fR_relation_j32 qz2 M
    else
      if qz2 = 62 then
        fR_relation_j32 qz2 M
      else
        Option.bind (fR_blame 1 M) fun Mz4 =>
        some (20009, Mz4)
def fR_settle_b7 (x1 : Int32) (x2 : Int32) (M : Mm) : Option ((Int32 × Mm) ⊕ Mm) :=
  if x2 < 0 then
    some (Sum.inr M)
  else
    if inb x2 32 then
    if (M 167 (jix x2)) < x1 then
      some (Sum.inr M)
    else
      if inb x2 32 then
      Option.bind (fL_addStep (M 167 (jix x2)) M) fun Mz5 =>
      if inb x2 32 then
      Option.bind (α := Mm) (
        if (Mz5 167 (jix x2)) = 20003 then
          let Mz7 : Mm := mput Mz5 146 8 ((Mz5 146 8) - 1)
          some Mz7
        else
          some Mz5) fun Mz8 =>
      let Mz9 : Mm := mput Mz8 146 7 x2
      some (Sum.inl ((x2 + (-1)), Mz9))
      else none
      else none
    else none
def fR_settle (x1 : Int32) (M : Mm) : Option Mm :=
  let vz1 : Int32 := ((M 146 7) - 1)
  Option.bind (lp 1000000 (fun s => fR_settle_b7 x1 s.1 s.2) (vz1, M)) fun e7 =>
  let Mz10 : Mm := e7
  some Mz10
def fR_closeAll_b2 (x1 : Int32) (M : Mm) : Option ((Int32 × Mm) ⊕ (Mm ⊕ Mm)) :=
  if 8 ≤ x1 then
    some (Sum.inr (Sum.inr M))
  else
    Option.bind (fR_sort M) fun qz2 =>
    if qz2 = 41 then
      Option.bind (fR_settle 20001 M) fun Mz4 =>
      if (Mz4 146 7) = 0 then
        some (Sum.inr (Sum.inl Mz4))
      else
        let Mz5 : Mm := mput Mz4 146 7 ((Mz4 146 7) - 1)
        let Mz6 : Mm := mput Mz5 146 8 ((Mz5 146 8) - 1)
        let Mz7 : Mm := mput Mz6 146 4 ((Mz6 146 4) + 1)
        some (Sum.inl ((x1 + 1), Mz7))
    else
      some (Sum.inr (Sum.inr M))
def fR_closeAll (M : Mm) : Option Mm :=
  Option.bind (lp 1000000 (fun s => fR_closeAll_b2 s.1 s.2) (0, M)) fun e2 =>
  match e2 with
  | Sum.inl p2 =>
      let Mz8 : Mm := p2
      some Mz8
  | Sum.inr p2 =>
      let Mz9 : Mm := p2
      some Mz9
def fR_putOff (x1 : Int32) (M : Mm) : Option Mm :=
  Option.bind (α := Mm) (
    if 32 ≤ (M 146 7) then
      some M
    else
      if inb (M 146 7) 32 then
      let Mz1 : Mm := mput M 167 (jix (M 146 7)) x1
      let Mz3 : Mm := mput Mz1 146 7 ((Mz1 146 7) + 1)
      some Mz3
      else none) fun Mz4 =>
  let Mz5 : Mm := mput Mz4 146 4 ((Mz4 146 4) + 1)
  some Mz5
def fR_goesOn (M : Mm) : Option (Int32 × Mm) :=
  Option.bind (fR_sort M) fun qz2 =>
  if qz2 = 261 then
    Option.bind (fR_settle 20002 M) fun Mz12 =>
    Option.bind (fR_putOff 20002 Mz12) fun Mz14 =>
    some (1, Mz14)
  else
    Option.bind (fR_settle 20001 M) fun Mz4 =>
    Option.bind (fR_sort Mz4) fun qz6 =>
    if qz6 = 260 then
      Option.bind (fR_putOff 20001 Mz4) fun Mz10 =>
      some (1, Mz10)
    else
      if (Mz4 146 7) ≤ 0 then
        some (0, Mz4)
      else
        Option.bind (fR_blame 1 Mz4) fun Mz8 =>
        some (0, Mz8)
def fR_openOne (M : Mm) : Option Mm :=
  if (M 146 8) < 8 then
    let Mz1 : Mm := mput M 146 8 ((M 146 8) + 1)
    Option.bind (fR_sort Mz1) fun qz3 =>
    if qz3 = 262 then
      Option.bind (fR_putOff 20003 Mz1) fun Mz7 =>
      some Mz7
    else
      Option.bind (fR_putOff 0 Mz1) fun Mz5 =>
      some Mz5
  else
    Option.bind (fR_blame 3 M) fun Mz9 =>
    some Mz9
def fR_condition_j90 (z1 : Int32) (M : Mm) : Option ((Int32 × Mm) ⊕ (Mm ⊕ Mm)) :=
  some (Sum.inl ((z1 + 1), M))
def fR_condition_j45 (z1 : Int32) (M : Mm) : Option ((Int32 × Mm) ⊕ (Mm ⊕ Mm)) :=
  Option.bind (fR_openOne M) fun Mz20 =>
  fR_condition_j90 z1 Mz20
def fR_condition_b12 (x1 : Int32) (M : Mm) : Option ((Int32 × Mm) ⊕ (Mm ⊕ Mm)) :=
  if 400 ≤ x1 then
    some (Sum.inr (Sum.inr M))
  else
    if (M 146 1) = 0 then
      Option.bind (fR_sort M) fun qz4 =>
      if qz4 = 262 then
        fR_condition_j45 x1 M
      else
        Option.bind (fR_sort M) fun qz6 =>
        if qz6 = 40 then
          fR_condition_j45 x1 M
        else
          Option.bind (fR_sum M) fun Mz8 =>
          Option.bind (fR_relation Mz8) fun qz10 =>
          Option.bind (fR_sum qz10.2) fun Mz12 =>
          Option.bind (fL_addStep qz10.1 Mz12) fun Mz14 =>
          Option.bind (fR_closeAll Mz14) fun Mz16 =>
          Option.bind (fR_goesOn Mz16) fun qz18 =>
          if qz18.1 = 0 then
            some (Sum.inr (Sum.inl qz18.2))
          else
            fR_condition_j90 x1 qz18.2
    else
      some (Sum.inr (Sum.inr M))
def fR_condition (M : Mm) : Option Mm :=
  let Mz1 : Mm := mput M 146 7 0
  let Mz2 : Mm := mput Mz1 146 8 0
  Option.bind (lp 1000000 (fun s => fR_condition_b12 s.1 s.2) (0, Mz2)) fun e12 =>
  match e12 with
  | Sum.inl p12 =>
      let Mz21 : Mm := p12
      some Mz21
  | Sum.inr p12 =>
      let Mz22 : Mm := p12
      some Mz22
def fR_need (x1 : Int32) (M : Mm) : Option Mm :=
  Option.bind (fR_sort M) fun qz2 =>
  if qz2 = x1 then
    let Mz5 : Mm := mput M 146 4 ((M 146 4) + 1)
    some Mz5
  else
    Option.bind (fR_blame 1 M) fun Mz4 =>
    some Mz4
def fR_lawLine (x1 : Int32) (M : Mm) : Option Mm :=
  Option.bind (fR_sort M) fun qz2 =>
  if inb x1 16 then
  let Mz3 : Mm := mput M 149 (jix x1) (qz2 - 256)
  let Mz5 : Mm := mput Mz3 146 4 ((Mz3 146 4) + 1)
  if inb x1 16 then
  let Mz6 : Mm := mput Mz5 150 (jix x1) (Mz5 148 1)
  Option.bind (fR_sum Mz6) fun Mz9 =>
  if inb x1 16 then
  let Mz10 : Mm := mput Mz9 151 (jix x1) (Mz9 148 1)
  Option.bind (fR_sort Mz10) fun qz13 =>
  Option.bind (α := Mm) (
    if qz13 = 259 then
      let Mz14 : Mm := mput Mz10 146 4 ((Mz10 146 4) + 1)
      Option.bind (fR_condition Mz14) fun Mz16 =>
      some Mz16
    else
      some Mz10) fun Mz17 =>
  if inb x1 16 then
  let Mz18 : Mm := mput Mz17 152 (jix x1) (Mz17 148 1)
  Option.bind (fR_need 59 Mz18) fun Mz21 =>
  let Mz22 : Mm := mput Mz21 148 0 (x1 + 1)
  some Mz22
  else none
  else none
  else none
  else none
def fR_kindWord (M : Mm) : Option (Int32 × Mm) :=
  Option.bind (fR_sort M) fun qz2 =>
  let vz3 : Int32 := (qz2 - 276)
  Option.bind (fK_isKind vz3) fun qz5 =>
  if qz5 = 0 then
    Option.bind (fR_blame 1 M) fun Mz8 =>
    some (0, Mz8)
  else
    let Mz6 : Mm := mput M 146 4 ((M 146 4) + 1)
    some (vz3, Mz6)
def fR_postLine (x1 : Int32) (M : Mm) : Option Mm :=
  Option.bind (fR_need 274 M) fun Mz2 =>
  Option.bind (fR_number 0 999 Mz2) fun qz4 =>
  if inb x1 16 then
  let Mz5 : Mm := mput qz4.2 156 (jix x1) qz4.1
  Option.bind (fR_need 275 Mz5) fun Mz8 =>
  Option.bind (fR_number 0 ((Mz8 146 5) - 1) Mz8) fun qz10 =>
  if inb x1 16 then
  let Mz11 : Mm := mput qz10.2 157 (jix x1) qz10.1
  Option.bind (fR_kindWord Mz11) fun qz14 =>
  if inb x1 16 then
  let Mz15 : Mm := mput qz14.2 158 (jix x1) qz14.1
  Option.bind (fR_number 1 99 Mz15) fun qz18 =>
  if inb x1 16 then
  let Mz19 : Mm := mput qz18.2 159 (jix x1) qz18.1
  Option.bind (fR_need 59 Mz19) fun Mz22 =>
  let Mz23 : Mm := mput Mz22 147 1 (x1 + 1)
  some Mz23
  else none
  else none
  else none
  else none
def fR_walkLine (x1 : Int32) (M : Mm) : Option Mm :=
  Option.bind (fR_need 283 M) fun Mz2 =>
  Option.bind (fR_number 0 ((Mz2 146 5) - 1) Mz2) fun qz4 =>
  if inb x1 16 then
  let Mz5 : Mm := mput qz4.2 160 (jix x1) qz4.1
  Option.bind (fR_need 59 Mz5) fun Mz8 =>
  let Mz9 : Mm := mput Mz8 147 6 (x1 + 1)
  some Mz9
  else none
def fT_addStreet_j24 (z1 : Int32) (z2 : Int32) (z3 : Int32) (M : Mm) : Option Mm :=
  if inb ((z1 * 12) + z2) 144 then
  let Mz3 : Mm := mput M 161 (jix ((z1 * 12) + z2)) z3
  if inb ((z2 * 12) + z1) 144 then
  let Mz5 : Mm := mput Mz3 161 (jix ((z2 * 12) + z1)) z3
  some Mz5
  else none
  else none
def fT_addStreet (x1 : Int32) (x2 : Int32) (x3 : Int32) (M : Mm) : Option Mm :=
  if inb ((x1 * 12) + x2) 144 then
  let vz2 : Int32 := (M 161 (jix ((x1 * 12) + x2)))
  if vz2 = 0 then
    fT_addStreet_j24 x1 x2 x3 M
  else
    if vz2 ≤ x3 then
      some M
    else
      fT_addStreet_j24 x1 x2 x3 M
  else none
def fR_streetLine (x1 : Int32) (M : Mm) : Option Mm :=
  Option.bind (fR_need 284 M) fun Mz2 =>
  Option.bind (fR_number 0 ((Mz2 146 5) - 1) Mz2) fun qz4 =>
  Option.bind (fR_sort qz4.2) fun qz6 =>
  Option.bind (α := Mm) (
    if qz6 = 1 then
      if inb (qz4.2 146 4) 401 then
      if (qz4.2 164 (jix (qz4.2 146 4))) = qz4.1 then
        Option.bind (fR_blame 2 qz4.2) fun Mz9 =>
        some Mz9
      else
        some qz4.2
      else none
    else
      some qz4.2) fun Mz10 =>
  Option.bind (fR_number 0 ((Mz10 146 5) - 1) Mz10) fun qz12 =>
  Option.bind (fR_number 1 99 qz12.2) fun qz14 =>
  Option.bind (fR_need 59 qz14.2) fun Mz16 =>
  Option.bind (α := Mm) (
    if (Mz16 146 1) = 0 then
      Option.bind (fT_addStreet qz4.1 qz12.1 qz14.1 Mz16) fun Mz18 =>
      some Mz18
    else
      some Mz16) fun Mz19 =>
  let Mz20 : Mm := mput Mz19 147 8 (x1 + 1)
  some Mz20
def fR_read_b31 (x1 : Int32) (x5 : Int32) (M : Mm) : Option ((Int32 × Mm) ⊕ (Mm ⊕ Mm)) :=
  if 16 < x5 then
    some (Sum.inr (Sum.inr M))
  else
    Option.bind (fR_sort M) fun qz8 =>
    if qz8 = 2 then
      some (Sum.inr (Sum.inr M))
    else
      Option.bind (fR_begins x1 x5 M) fun qz10 =>
      if qz10.1 = 0 then
        some (Sum.inr (Sum.inl qz10.2))
      else
        Option.bind (α := Mm) (
          if x1 = 0 then
            Option.bind (fR_lawLine x5 qz10.2) fun Mz12 =>
            some Mz12
          else if x1 = 1 then
            Option.bind (fR_postLine x5 qz10.2) fun Mz14 =>
            some Mz14
          else if x1 = 2 then
            Option.bind (fR_walkLine x5 qz10.2) fun Mz16 =>
            some Mz16
          else 
            Option.bind (fR_streetLine x5 qz10.2) fun Mz18 =>
            some Mz18) fun Mz19 =>
        some (Sum.inl ((x5 + 1), Mz19))
def fR_read (x1 : Int32) (x3 : Int32) (x4 : Int32) (M : Mm) : Option (Int32 × Mm) :=
  Option.bind (fO_scan x3 M) fun Mz2 =>
  Option.bind (fT_clearOne x1 Mz2) fun Mz4 =>
  let Mz5 : Mm := mput Mz4 146 4 0
  let Mz6 : Mm := mput Mz5 146 5 x4
  Option.bind (lp 1000000 (fun s => fR_read_b31 x1 s.1 s.2) (0, Mz6)) fun e31 =>
  match e31 with
  | Sum.inl p31 =>
      let Mz20 : Mm := p31
      if (Mz20 146 1) = 0 then
        some (1, Mz20)
      else
        some (0, Mz20)
  | Sum.inr p31 =>
      let Mz21 : Mm := p31
      if (Mz21 146 1) = 0 then
        some (1, Mz21)
      else
        some (0, Mz21)
def fL_copyFrom (w : Nat) (v : Nat) (M : Mm) : Mm :=
  let Mz1 : Mm := mput M w 0 (M v 0)
  let Mz2 : Mm := mput Mz1 w 1 (Mz1 v 1)
  let Mz3 : Mm := mcp Mz2 (v + 1) (w + 1) 0 0 16
  let Mz4 : Mm := mcp Mz3 (v + 2) (w + 2) 0 0 16
  let Mz5 : Mm := mcp Mz4 (v + 3) (w + 3) 0 0 16
  let Mz6 : Mm := mcp Mz5 (v + 4) (w + 4) 0 0 16
  let Mz7 : Mm := mcp Mz6 (v + 5) (w + 5) 0 0 400
  Mz7
def fT_copyOne (w : Nat) (v : Nat) (x1 : Int32) (M : Mm) : Mm :=
  if x1 = 0 then
    let Mz1 : Mm := fL_copyFrom (w + 1) (v + 1) M
    Mz1
  else if x1 = 1 then
    let Mz2 : Mm := mput M w 1 (M v 1)
    let Mz3 : Mm := mcp Mz2 (v + 9) (w + 9) 0 0 16
    let Mz4 : Mm := mcp Mz3 (v + 10) (w + 10) 0 0 16
    let Mz5 : Mm := mcp Mz4 (v + 11) (w + 11) 0 0 16
    let Mz6 : Mm := mcp Mz5 (v + 12) (w + 12) 0 0 16
    Mz6
  else if x1 = 2 then
    let Mz7 : Mm := mput M w 6 (M v 6)
    let Mz8 : Mm := mcp Mz7 (v + 13) (w + 13) 0 0 16
    Mz8
  else 
    let Mz9 : Mm := mput M w 8 (M v 8)
    let Mz10 : Mm := mcp Mz9 (v + 14) (w + 14) 0 0 144
    Mz10
def fT_linesOf (x1 : Int32) (M : Mm) : Int32 :=
  if x1 = 0 then
    (M 124 0)
  else if x1 = 1 then
    (M 123 1)
  else if x1 = 2 then
    (M 123 6)
  else 
    (M 123 8)
def fK_text (x1 : Int32) (M : Mm) : Option (Int32 × Mm) :=
  let vz1 : Int32 := (M 0 10)
  let Mz2 : Mm := mput M 0 10 0
  let Mz3 : Mm := fR_forgive Mz2
  let vz4 : Int32 := fK_isWithin x1 0 3
  if vz4 = 0 then
    some ((-1), Mz3)
  else
    Option.bind (fR_read x1 vz1 (Mz3 2 0) Mz3) fun qz6 =>
    if qz6.1 = 0 then
      some ((-1), qz6.2)
    else
      let Mz7 : Mm := fT_copyOne 123 147 x1 qz6.2
      Option.bind (α := Mm) (
        if x1 = 1 then
          let Mz8 : Mm := fP_forget Mz7
          some Mz8
        else
          if x1 = 2 then
            let Mz9 : Mm := fP_forget Mz7
            some Mz9
          else
            some Mz7) fun Mz10 =>
      let vz11 : Int32 := fT_linesOf x1 Mz10
      some (vz11, Mz10)
def fK_fault (x1 : Int32) (M : Mm) : Int32 :=
  if x1 = 0 then
    (M 146 1)
  else
    if x1 = 1 then
      (M 146 2)
    else
      (-1)
def fB_countFor_b4 (w : Nat) (x1 : Int32) (M : Mm) (x2 : Int32) (x3 : Int32) : Option ((Int32 × Int32) ⊕ Int32) :=
  if (M w 0) ≤ x3 then
    some (Sum.inr x2)
  else
    if inb x3 24 then
    some (Sum.inl ((if (M (w + 2) (jix x3)) = x1 then (x2 + 1) else x2), (x3 + 1)))
    else none
def fB_countFor (w : Nat) (x1 : Int32) (M : Mm) : Option Int32 :=
  Option.bind (lp 1000000 (fun s => fB_countFor_b4 w x1 M s.1 s.2) (0, 0)) fun e4 =>
  let yz2 : Int32 := e4
  some yz2
def fT_streetBetween (x1 : Int32) (x2 : Int32) (M : Mm) : Option Int32 :=
  if inb ((x1 * 12) + x2) 144 then
  let vz2 : Int32 := (M 137 (jix ((x1 * 12) + x2)))
  if vz2 = 0 then
    some (-1)
  else
    some vz2
  else none
def fK_of (x1 : Int32) (x2 : Int32) (M : Mm) : Option Int32 :=
  Option.bind (fK_isDoor x1 M) fun qz2 =>
  if qz2 = 0 then
    some (-100)
  else
    if x2 = 0 then
      if inb x1 12 then
      some (M 3 (jix x1))
      else none
    else if x2 = 1 then
      if inb x1 12 then
      some (M 4 (jix x1))
      else none
    else if x2 = 2 then
      if inb x1 12 then
      some (M 5 (jix x1))
      else none
    else if x2 = 3 then
      if inb x1 12 then
      some (M 6 (jix x1))
      else none
    else if x2 = 4 then
      Option.bind (fB_countFor 8 x1 M) fun qz8 =>
      some qz8
    else 
      if x2 < 10 then
        some (-100)
      else
        Option.bind (fK_isDoor (x2 - 10) M) fun qz10 =>
        if qz10 = 0 then
          some (-100)
        else
          Option.bind (fT_streetBetween x1 (x2 - 10) M) fun qz12 =>
          some qz12
def fK_letter (x1 : Int32) (x2 : Int32) (M : Mm) : Option (Int32 × Mm) :=
  let vz1 : Int32 := fK_isWithin x1 0 ((M 8 0) - 1)
  if vz1 = 0 then
    some ((-1), M)
  else
    if x2 = 0 then
      if inb x1 24 then
      some ((M 9 (jix x1)), M)
      else none
    else if x2 = 1 then
      if inb x1 24 then
      some ((M 10 (jix x1)), M)
      else none
    else if x2 = 2 then
      if inb x1 24 then
      some ((M 11 (jix x1)), M)
      else none
    else if x2 = 3 then
      if inb x1 24 then
      some ((M 12 (jix x1)), M)
      else none
    else if x2 = 4 then
      if inb x1 24 then
      some ((M 13 (jix x1)), M)
      else none
    else if x2 = 5 then
      Option.bind (fW_ask 1 0 x1 M) fun qz8 =>
      some (qz8.1, qz8.2)
    else if x2 = 6 then
      Option.bind (fW_ask 1 1 x1 M) fun qz10 =>
      some (qz10.1, qz10.2)
    else if x2 = 7 then
      Option.bind (fW_ask 1 2 x1 M) fun qz12 =>
      some (qz12.1, qz12.2)
    else 
      some ((-1), M)
def fK_given (x1 : Int32) (M : Mm) : Option Int32 :=
  Option.bind (fK_isKind x1) fun qz2 =>
  if qz2 = 0 then
    some (-1)
  else
    if inb x1 7 then
    some (M 14 (jix x1))
    else none
def fK_book (x1 : Int32) (x2 : Int32) (M : Mm) : Option Int32 :=
  let vz1 : Int32 := fK_isWithin x1 0 ((M 1 4) - 1)
  if vz1 = 0 then
    some (-2)
  else
    let vz2 : Int32 := fK_isWithin x2 0 3
    if vz2 = 0 then
      some (-2)
    else
      if inb ((x1 * 4) + x2) 600 then
      some (M 15 (jix ((x1 * 4) + x2)))
      else none
def fK_goes_b34 (x1 : Int32) (x2 : Int32) (x3 : Int32) (M : Mm) : Option ((Int32 × Mm) ⊕ Mm) :=
  if x1 ≤ x3 then
    some (Sum.inr M)
  else
    Option.bind (fW_passDay 16 M) fun qz6 =>
    some (Sum.inl ((x3 + 1), qz6.2))
def fK_goes (x1 : Int32) (x2 : Int32) (M : Mm) : Option (Int32 × Mm) :=
  let vz1 : Int32 := fK_isWithin x1 1 60
  if vz1 = 0 then
    some ((-1), M)
  else
    let vz2 : Int32 := fK_isWithin x2 0 3
    if vz2 = 0 then
      some ((-1), M)
    else
      Option.bind (fW_copyFrom 16 1 M) fun Mz4 =>
      Option.bind (lp 1000000 (fun s => fK_goes_b34 x1 x2 s.1 s.2) (0, Mz4)) fun e34 =>
      let Mz7 : Mm := e34
      if x2 = 0 then
        some ((Mz7 16 5), Mz7)
      else if x2 = 1 then
        some ((Mz7 16 6), Mz7)
      else if x2 = 2 then
        some ((Mz7 23 0), Mz7)
      else 
        some ((Mz7 16 8), Mz7)
def fY_measure_b10 (x1 : Int32) (x3 : Int32) (x4 : Int32) (M : Mm) : Option ((Int32 × Mm) ⊕ Mm) :=
  if x1 ≤ x4 then
    some (Sum.inr M)
  else
    Option.bind (fT_streetBetween x3 x4 M) fun qz2 =>
    if inb ((x3 * 12) + x4) 144 then
    let Mz3 : Mm := mput M 174 (jix ((x3 * 12) + x4)) (if qz2 = (-1) then (1000000 : Int32) else qz2)
    some (Sum.inl ((x4 + 1), Mz3))
    else none
def fY_measure_b2 (x1 : Int32) (x3 : Int32) (M : Mm) : Option ((Int32 × Mm) ⊕ Mm) :=
  if x1 ≤ x3 then
    some (Sum.inr M)
  else
    Option.bind (lp 1000000 (fun s => fY_measure_b10 x1 x3 s.1 s.2) (0, M)) fun e10 =>
    let Mz5 : Mm := e10
    if inb ((x3 * 12) + x3) 144 then
    let Mz6 : Mm := mput Mz5 174 (jix ((x3 * 12) + x3)) 0
    some (Sum.inl ((x3 + 1), Mz6))
    else none
def fY_measure_b93 (x1 : Int32) (x3 : Int32) (x4 : Int32) (x5 : Int32) (M : Mm) : Option ((Int32 × Mm) ⊕ Mm) :=
  if x1 ≤ x5 then
    some (Sum.inr M)
  else
    if inb ((x4 * 12) + x3) 144 then
    if inb ((x3 * 12) + x5) 144 then
    let vz11 : Int32 := ((M 174 (jix ((x4 * 12) + x3))) + (M 174 (jix ((x3 * 12) + x5))))
    if inb ((x4 * 12) + x5) 144 then
    let vz13 : Int32 := (M 174 (jix ((x4 * 12) + x5)))
    if inb ((x4 * 12) + x5) 144 then
    let Mz14 : Mm := mput M 174 (jix ((x4 * 12) + x5)) (jmin vz13 vz11)
    some (Sum.inl ((x5 + 1), Mz14))
    else none
    else none
    else none
    else none
def fY_measure_b84 (x1 : Int32) (x3 : Int32) (x4 : Int32) (M : Mm) : Option ((Int32 × Mm) ⊕ Mm) :=
  if x1 ≤ x4 then
    some (Sum.inr M)
  else
    Option.bind (lp 1000000 (fun s => fY_measure_b93 x1 x3 x4 s.1 s.2) (0, M)) fun e93 =>
    let Mz16 : Mm := e93
    some (Sum.inl ((x4 + 1), Mz16))
def fY_measure_b76 (x1 : Int32) (x3 : Int32) (M : Mm) : Option ((Int32 × Mm) ⊕ Mm) :=
  if x1 ≤ x3 then
    some (Sum.inr M)
  else
    Option.bind (lp 1000000 (fun s => fY_measure_b84 x1 x3 s.1 s.2) (0, M)) fun e84 =>
    let Mz17 : Mm := e84
    some (Sum.inl ((x3 + 1), Mz17))
def fY_measure (x1 : Int32) (M : Mm) : Option Mm :=
  Option.bind (lp 1000000 (fun s => fY_measure_b2 x1 s.1 s.2) (0, M)) fun e2 =>
  let Mz8 : Mm := e2
  Option.bind (lp 1000000 (fun s => fY_measure_b76 x1 s.1 s.2) (0, Mz8)) fun e76 =>
  let Mz18 : Mm := e76
  some Mz18
def fJ_rangeCheck_23922 (x0 : Int32) (x1 : Int32) (x2 : Int32) : Option Unit :=
  if x1 ≤ x2 then
    if 0 ≤ x1 then
      if x2 ≤ x0 then
        some ()
      else
        none
    else
      none
  else
    none
def fJ_fill_fda19_b10 (x2 : Int32) (x3 : Int32) (x4 : Int32) (M : Mm) : Option ((Int32 × Mm) ⊕ Mm) :=
  if x2 ≤ x4 then
    some (Sum.inr M)
  else
    if ¬ M 0 8 = 0 ∧ inb x4 10025 then
    let Mz4 : Mm := mput M 252 (jix x4) x3
    some (Sum.inl ((x4 + 1), Mz4))
    else none
def fJ_fill_fda19 (x1 : Int32) (x2 : Int32) (x3 : Int32) (M : Mm) : Option Mm :=
  if ¬ M 0 8 = 0 then
  Option.bind (fJ_rangeCheck_23922 10025 x1 x2) fun uz3 =>
  Option.bind (lp 1000000 (fun s => fJ_fill_fda19_b10 x2 x3 s.1 s.2) (x1, M)) fun e10 =>
  let Mz6 : Mm := e10
  some Mz6
  else none
def fY_walkOn_b14 (x1 : Int32) (x2 : Int32) (x3 : Int32) (x5 : Int32) (x6 : Int32) (M : Mm) : Option ((Int32 × Mm) ⊕ Mm) :=
  if x3 ≤ x6 then
    some (Sum.inr M)
  else
    let vz3 : Int32 := (((x1 ||| ((1 : Int32) <<< (x6 &&& 31))) * 8) + x6)
    if inb x2 8 then
    if inb x6 8 then
    if inb (((M 175 (jix x2)) * 12) + (M 175 (jix x6))) 144 then
    let vz7 : Int32 := (x5 + (M 174 (jix (((M 175 (jix x2)) * 12) + (M 175 (jix x6))))))
    Option.bind (α := Mm) (
      if ((x1 >>> (x6 &&& 31)) &&& 1) = 0 then
        if ¬ M 0 8 = 0 ∧ inb vz3 10025 then
        if (M 252 (jix vz3)) ≤ vz7 then
          some M
        else
          if ¬ M 0 8 = 0 ∧ inb vz3 10025 then
          let Mz9 : Mm := mput M 252 (jix vz3) vz7
          some Mz9
          else none
        else none
      else
        some M) fun Mz11 =>
    some (Sum.inl ((x6 + 1), Mz11))
    else none
    else none
    else none
def fY_walkOn (x1 : Int32) (x2 : Int32) (x3 : Int32) (M : Mm) : Option Mm :=
  if ¬ M 0 8 = 0 ∧ inb ((x1 * 8) + x2) 10025 then
  let vz2 : Int32 := (M 252 (jix ((x1 * 8) + x2)))
  Option.bind (lp 1000000 (fun s => fY_walkOn_b14 x1 x2 x3 vz2 s.1 s.2) (0, M)) fun e14 =>
  let Mz12 : Mm := e14
  some Mz12
  else none
def fY_walkSets_b14 (x1 : Int32) (x2 : Int32) (x4 : Int32) (M : Mm) : Option ((Int32 × Mm) ⊕ Mm) :=
  if x2 ≤ x4 then
    some (Sum.inr M)
  else
    if inb x4 8 then
    if inb ((x1 * 12) + (M 175 (jix x4))) 144 then
    if ¬ M 0 8 = 0 ∧ inb ((((1 : Int32) <<< (x4 &&& 31)) * 8) + x4) 10025 then
    let Mz5 : Mm := mput M 252 (jix ((((1 : Int32) <<< (x4 &&& 31)) * 8) + x4)) (M 174 (jix ((x1 * 12) + (M 175 (jix x4)))))
    some (Sum.inl ((x4 + 1), Mz5))
    else none
    else none
    else none
def fY_walkSets_b69 (x2 : Int32) (x4 : Int32) (x5 : Int32) (M : Mm) : Option ((Int32 × Mm) ⊕ Mm) :=
  if x2 ≤ x5 then
    some (Sum.inr M)
  else
    if ¬ M 0 8 = 0 ∧ inb ((x4 * 8) + x5) 10025 then
    Option.bind (α := Mm) (
      if 1000000 ≤ (M 252 (jix ((x4 * 8) + x5))) then
        some M
      else
        Option.bind (fY_walkOn x4 x5 x2 M) fun Mz10 =>
        some Mz10) fun Mz11 =>
    some (Sum.inl ((x5 + 1), Mz11))
    else none
def fY_walkSets_b58 (x2 : Int32) (x4 : Int32) (M : Mm) : Option ((Int32 × Mm) ⊕ Mm) :=
  if ((1 : Int32) <<< (x2 &&& 31)) ≤ x4 then
    some (Sum.inr M)
  else
    Option.bind (lp 1000000 (fun s => fY_walkSets_b69 x2 x4 s.1 s.2) (0, M)) fun e69 =>
    let Mz12 : Mm := e69
    some (Sum.inl ((x4 + 1), Mz12))
def fY_walkSets (x1 : Int32) (x2 : Int32) (M : Mm) : Option Mm :=
  Option.bind (fJ_fill_fda19 0 ((8 : Int32) <<< (x2 &&& 31)) 1000000 M) fun Mz2 =>
  Option.bind (lp 1000000 (fun s => fY_walkSets_b14 x1 x2 s.1 s.2) (0, Mz2)) fun e14 =>
  let Mz7 : Mm := e14
  Option.bind (lp 1000000 (fun s => fY_walkSets_b58 x2 s.1 s.2) (1, Mz7)) fun e58 =>
  let Mz13 : Mm := e58
  some Mz13
def fY_shortestEnd_b17 (x1 : Int32) (x2 : Int32) (x4 : Int32) (M : Mm) (x5 : Int32) (x6 : Int32) (x7 : Int32) : Option ((Int32 × Int32 × Int32) ⊕ (Int32 × Int32)) :=
  if x1 ≤ x7 then
    some (Sum.inr (x5, x6))
  else
    if ¬ M 0 8 = 0 ∧ inb ((x4 * 8) + x7) 10025 then
    Option.bind (α := (Int32 × Int32)) (
      if x5 ≤ (M 252 (jix ((x4 * 8) + x7))) then
        some (x5, x6)
      else
        if ¬ M 0 8 = 0 ∧ inb ((x4 * 8) + x7) 10025 then
        let vz4 : Int32 := (M 252 (jix ((x4 * 8) + x7)))
        if inb x7 8 then
        let vz6 : Int32 := (M 175 (jix x7))
        some (vz4, vz6)
        else none
        else none) fun t59 =>
    let yz7 : Int32 := t59.1
    let yz8 : Int32 := t59.2
    some (Sum.inl (yz7, yz8, (x7 + 1)))
    else none
def fY_shortestEnd (x1 : Int32) (x2 : Int32) (M : Mm) : Option Int32 :=
  let vz1 : Int32 := (((1 : Int32) <<< (x1 &&& 31)) - 1)
  Option.bind (lp 1000000 (fun s => fY_shortestEnd_b17 x1 x2 vz1 M s.1 s.2.1 s.2.2) (1000000, (-1), 0)) fun e17 =>
  let yz9 : Int32 := e17.1
  let yz10 : Int32 := e17.2
  if x2 = 0 then
    if yz10 = (-1) then
      some yz10
    else
      some yz9
  else
    some yz10
def fY_walkAll_j57 (x1 : Int32) (x2 : Int32) (z6 : Int32) (z7 : Int32) (M : Mm) : Option ((Int32 × Int32 × Mm) ⊕ (Mm ⊕ (Int32 × Mm))) :=
  some (Sum.inl (z6, (z7 + 1), M))
def fY_walkAll_b6 (x1 : Int32) (x2 : Int32) (x6 : Int32) (x7 : Int32) (M : Mm) : Option ((Int32 × Int32 × Mm) ⊕ (Mm ⊕ (Int32 × Mm))) :=
  if (M 2 0) ≤ x7 then
    some (Sum.inr (Sum.inr (x6, M)))
  else
    if x7 = x1 then
      fY_walkAll_j57 x1 x2 x6 x7 M
    else
      Option.bind (fB_countFor 8 x7 M) fun qz2 =>
      if qz2 ≤ 0 then
        fY_walkAll_j57 x1 x2 x6 x7 M
      else
        if x6 < 8 then
          if inb x6 8 then
          let Mz3 : Mm := mput M 175 (jix x6) x7
          fY_walkAll_j57 x1 x2 (x6 + 1) x7 Mz3
          else none
        else
          some (Sum.inr (Sum.inl M))
def fY_walkAll (x1 : Int32) (x2 : Int32) (M : Mm) : Option (Int32 × Mm) :=
  Option.bind (lp 1000000 (fun s => fY_walkAll_b6 x1 x2 s.1 s.2.1 s.2.2) (0, 0, M)) fun e6 =>
  match e6 with
  | Sum.inl p6 =>
      let Mz5 : Mm := p6
      some ((-1), Mz5)
  | Sum.inr p6 =>
      let yz6 : Int32 := p6.1
      let Mz7 : Mm := p6.2
      if yz6 = 0 then
        if x2 = 0 then
          some (0, Mz7)
        else
          some (x1, Mz7)
      else
        Option.bind (fY_measure (Mz7 2 0) Mz7) fun Mz9 =>
        Option.bind (fY_walkSets x1 yz6 Mz9) fun Mz11 =>
        Option.bind (fY_shortestEnd yz6 x2 Mz11) fun qz13 =>
        some (qz13, Mz11)
def fK_shortest (x1 : Int32) (x2 : Int32) (M : Mm) : Option (Int32 × Mm) :=
  Option.bind (fK_isDoor x1 M) fun qz2 =>
  if qz2 = 0 then
    some ((-1), M)
  else
    let vz3 : Int32 := fK_isWithin x2 0 1
    if vz3 = 0 then
      some ((-1), M)
    else
      let Mz4 : Mm := fK_theDesk M
      Option.bind (fY_walkAll x1 (if x2 = 1 then (1 : Int32) else 0) Mz4) fun qz6 =>
      some (qz6.1, qz6.2)
def fE_addBlow (x1 : Int32) (M : Mm) : Option (Int32 × Mm) :=
  if x1 = 0 then
    let Mz5 : Mm := mput M 138 0 0
    some (0, Mz5)
  else
    let vz1 : Int32 := fK_isWithin x1 (-50) 50
    if vz1 = 0 then
      some ((-1), M)
    else
      if (M 138 0) < 8 then
        if inb (M 138 0) 8 then
        let Mz2 : Mm := mput M 139 (jix (M 138 0)) x1
        let Mz4 : Mm := mput Mz2 138 0 ((Mz2 138 0) + 1)
        some ((Mz4 138 0), Mz4)
        else none
      else
        some ((-1), M)
def fK_blow (x1 : Int32) (M : Mm) : Option (Int32 × Mm) :=
  Option.bind (fE_addBlow x1 M) fun qz2 =>
  some (qz2.1, qz2.2)
def fI_leftBehindAll_b38 (x4 : Int32) (x5 : Int32) (x6 : Int32) (M : Mm) : Option ((Int32 × Mm) ⊕ Mm) :=
  if (M 138 0) ≤ x6 then
    some (Sum.inr M)
  else
    if inb x5 256 then
    if (M 169 (jix x5)) ≤ 0 then
      some (Sum.inr M)
    else
      let vz7 : Int32 := (x5 ||| ((1 : Int32) <<< (x6 &&& 31)))
      if inb x5 256 then
      if inb x6 8 then
      let vz10 : Int32 := (jmin 99 ((M 169 (jix x5)) + (M 139 (jix x6))))
      Option.bind (α := Mm) (
        if vz7 = x5 then
          some M
        else
          if inb vz7 256 then
          if vz10 ≤ (M 169 (jix vz7)) then
            some M
          else
            if inb vz7 256 then
            let Mz12 : Mm := mput M 169 (jix vz7) vz10
            some Mz12
            else none
          else none) fun Mz14 =>
      some (Sum.inl ((x6 + 1), Mz14))
      else none
      else none
    else none
def fI_leftBehindAll_b28 (x4 : Int32) (x5 : Int32) (M : Mm) : Option ((Int32 × Mm) ⊕ Mm) :=
  if x4 ≤ x5 then
    some (Sum.inr M)
  else
    Option.bind (lp 1000000 (fun s => fI_leftBehindAll_b38 x4 x5 s.1 s.2) (0, M)) fun e38 =>
    let Mz15 : Mm := e38
    some (Sum.inl ((x5 + 1), Mz15))
def fI_leftBehindAll (x2 : Int32) (x3 : Int32) (M : Mm) : Option (Int32 × Mm) :=
  let vz1 : Int32 := (((1 : Int32) <<< ((M 138 0) &&& 31)) - 1)
  Option.bind (fJ_fill_53178 169 256 0 M) fun Mz3 =>
  if inb x2 256 then
  let Mz4 : Mm := mput Mz3 169 (jix x2) x3
  Option.bind (lp 1000000 (fun s => fI_leftBehindAll_b28 vz1 s.1 s.2) (x2, Mz4)) fun e28 =>
  let Mz16 : Mm := e28
  if inb vz1 256 then
  some ((Mz16 169 (jix vz1)), Mz16)
  else none
  else none
def fI_healthLeft (x2 : Int32) (M : Mm) : Option (Int32 × Mm) :=
  Option.bind (fI_leftBehindAll 0 x2 M) fun qz2 =>
  if qz2.1 ≤ 0 then
    some ((-1), qz2.2)
  else
    some (qz2.1, qz2.2)
def fI_firstBlow_j46 (x2 : Int32) (z3 : Int32) (M : Mm) : Option ((Int32 × Mm) ⊕ ((Int32 × Mm) ⊕ Mm)) :=
  some (Sum.inl ((z3 + 1), M))
def fI_firstBlow_b2 (x2 : Int32) (x3 : Int32) (M : Mm) : Option ((Int32 × Mm) ⊕ ((Int32 × Mm) ⊕ Mm)) :=
  if (M 138 0) ≤ x3 then
    some (Sum.inr (Sum.inr M))
  else
    if inb x3 8 then
    let vz2 : Int32 := (jmin 99 (x2 + (M 139 (jix x3))))
    if vz2 < 1 then
      fI_firstBlow_j46 x2 x3 M
    else
      Option.bind (fI_leftBehindAll ((1 : Int32) <<< (x3 &&& 31)) vz2 M) fun qz4 =>
      if qz4.1 ≤ 0 then
        fI_firstBlow_j46 x2 x3 qz4.2
      else
        some (Sum.inr (Sum.inl (x3, qz4.2)))
    else none
def fI_firstBlow (x2 : Int32) (M : Mm) : Option (Int32 × Mm) :=
  Option.bind (lp 1000000 (fun s => fI_firstBlow_b2 x2 s.1 s.2) (0, M)) fun e2 =>
  match e2 with
  | Sum.inl p2 =>
      let yz5 : Int32 := p2.1
      let Mz6 : Mm := p2.2
      some (yz5, Mz6)
  | Sum.inr p2 =>
      let Mz7 : Mm := p2
      some ((-1), Mz7)
def fK_bears (x1 : Int32) (x2 : Int32) (M : Mm) : Option (Int32 × Mm) :=
  let vz1 : Int32 := fK_isWithin x1 1 99
  if vz1 = 0 then
    some ((-1), M)
  else
    let vz2 : Int32 := fK_isWithin x2 0 1
    if vz2 = 0 then
      some ((-1), M)
    else
      if x2 = 0 then
        Option.bind (fI_firstBlow x1 M) fun qz6 =>
        some (qz6.1, qz6.2)
      else
        Option.bind (fI_healthLeft x1 M) fun qz4 =>
        some (qz4.1, qz4.2)
def fY_addLoad_b12 (x2 : Int32) (x3 : Int32) (x5 : Int32) (x6 : Int32) (M : Mm) : Option ((Int32 × Mm) ⊕ Mm) :=
  if x3 < x6 then
    some (Sum.inr M)
  else
    if ¬ M 0 8 = 0 ∧ inb ((x5 * 401) + x6) 10025 then
    if ¬ M 0 8 = 0 ∧ inb ((((x5 - 1) * 401) + x6) - x2) 10025 then
    if ¬ M 0 8 = 0 ∧ inb ((x5 * 401) + x6) 10025 then
    let Mz3 : Mm := mput M 252 (jix ((x5 * 401) + x6)) ((M 252 (jix ((x5 * 401) + x6))) + (M 252 (jix ((((x5 - 1) * 401) + x6) - x2))))
    some (Sum.inl ((x6 + 1), Mz3))
    else none
    else none
    else none
def fY_addLoad_b3 (x2 : Int32) (x3 : Int32) (x5 : Int32) (M : Mm) : Option ((Int32 × Mm) ⊕ Mm) :=
  if x5 < 1 then
    some (Sum.inr M)
  else
    Option.bind (lp 1000000 (fun s => fY_addLoad_b12 x2 x3 x5 s.1 s.2) (x2, M)) fun e12 =>
    let Mz5 : Mm := e12
    some (Sum.inl ((x5 + (-1)), Mz5))
def fY_addLoad (x1 : Int32) (x2 : Int32) (x3 : Int32) (M : Mm) : Option Mm :=
  Option.bind (lp 1000000 (fun s => fY_addLoad_b3 x2 x3 s.1 s.2) (x1, M)) fun e3 =>
  let Mz6 : Mm := e3
  some Mz6
def fY_loads_b25 (x1 : Int32) (x2 : Int32) (x5 : Int32) (M : Mm) : Option ((Int32 × Mm) ⊕ Mm) :=
  if (M 8 0) ≤ x5 then
    some (Sum.inr M)
  else
    if inb x5 24 then
    Option.bind (fY_addLoad (x5 + 1) (M 12 (jix x5)) x1 M) fun Mz7 =>
    some (Sum.inl ((x5 + 1), Mz7))
    else none
def fY_loads_b75 (x1 : Int32) (x2 : Int32) (x5 : Int32) (M : Mm) (x6 : Int32) (x7 : Int32) : Option ((Int32 × Int32) ⊕ Int32) :=
  if x1 < x7 then
    some (Sum.inr x6)
  else
    if ¬ M 0 8 = 0 ∧ inb ((x5 * 401) + x7) 10025 then
    let vz11 : Int32 := (x6 + (M 252 (jix ((x5 * 401) + x7))))
    some (Sum.inl (vz11, (x7 + 1)))
    else none
def fY_loads_b64 (x1 : Int32) (x2 : Int32) (M : Mm) (x5 : Int32) : Option (Int32 ⊕ ((Int32 × Int32) ⊕ Unit)) :=
  if x5 ≤ 0 then
    some (Sum.inr (Sum.inr ()))
  else
    Option.bind (lp 1000000 (fun s => fY_loads_b75 x1 x2 x5 M s.1 s.2) (0, 0)) fun e75 =>
    let yz12 : Int32 := e75
    if yz12 ≤ 0 then
      some (Sum.inl (x5 + (-1)))
    else
      some (Sum.inr (Sum.inl (x5, yz12)))
def fY_loads (x1 : Int32) (x2 : Int32) (M : Mm) : Option (Int32 × Mm) :=
  Option.bind (fJ_fill_fda19 0 (((M 8 0) + 1) * 401) 0 M) fun Mz2 =>
  if ¬ Mz2 0 8 = 0 ∧ inb 0 10025 then
  let Mz3 : Mm := mput Mz2 252 (jix 0) 1
  Option.bind (lp 1000000 (fun s => fY_loads_b25 x1 x2 s.1 s.2) (0, Mz3)) fun e25 =>
  let Mz8 : Mm := e25
  let vz9 : Int32 := (Mz8 8 0)
  Option.bind (lp 1000000 (fun s => fY_loads_b64 x1 x2 Mz8 s) vz9) fun e64 =>
  match e64 with
  | Sum.inl p64 =>
      let yz13 : Int32 := p64.1
      let yz14 : Int32 := p64.2
      if x2 = 0 then
        some (yz13, Mz8)
      else
        some (yz14, Mz8)
  | Sum.inr p64 =>
      if x2 = 0 then
        some (0, Mz8)
      else
        some (1, Mz8)
  else none
def fK_carries (x1 : Int32) (x2 : Int32) (M : Mm) : Option (Int32 × Mm) :=
  let vz1 : Int32 := fK_isWithin x1 1 400
  if vz1 = 0 then
    some ((-1), M)
  else
    let vz2 : Int32 := fK_isWithin x2 0 1
    if vz2 = 0 then
      some ((-1), M)
    else
      let Mz3 : Mm := fK_theDesk M
      Option.bind (fY_loads x1 (if x2 = 1 then (1 : Int32) else 0) Mz3) fun qz5 =>
      some (qz5.1, qz5.2)
def fE_addDebt (x1 : Int32) (x2 : Int32) (x3 : Int32) (M : Mm) : Option (Int32 × Mm) :=
  if x1 = (-1) then
    let Mz12 : Mm := mput M 138 2 0
    Option.bind (fJ_fill_53178 140 12 0 Mz12) fun Mz14 =>
    some (0, Mz14)
  else
    let vz1 : Int32 := fK_isWithin x1 0 11
    Option.bind (α := Int32) (
      if vz1 = 0 then
        some 0
      else
        let vz2 : Int32 := fK_isWithin x2 0 11
        if vz2 = 0 then
          some 0
        else
          if x1 = x2 then
            some 0
          else
            let vz3 : Int32 := fK_isWithin x3 1 99
            if vz3 = 0 then
              some 0
            else
              some 1) fun yz4 =>
    if yz4 = 0 then
      some ((-1), M)
    else
      if (M 138 2) < 16 then
        if inb x1 12 then
        if inb x1 12 then
        let Mz6 : Mm := mput M 140 (jix x1) ((M 140 (jix x1)) - x3)
        if inb x2 12 then
        if inb x2 12 then
        let Mz9 : Mm := mput Mz6 140 (jix x2) ((Mz6 140 (jix x2)) + x3)
        let Mz11 : Mm := mput Mz9 138 2 ((Mz9 138 2) + 1)
        some ((Mz11 138 2), Mz11)
        else none
        else none
        else none
        else none
      else
        some ((-1), M)
def fK_owes (x1 : Int32) (x2 : Int32) (x3 : Int32) (M : Mm) : Option (Int32 × Mm) :=
  Option.bind (fE_addDebt x1 x2 x3 M) fun qz2 =>
  some (qz2.1, qz2.2)
def fI_groupUp_b9 (x1 : Int32) (x2 : Int32) (M : Mm) (x4 : Int32) (x5 : Int32) (x6 : Int32) : Option ((Int32 × Int32 × Int32) ⊕ (Int32 × Int32)) :=
  if x2 ≤ x6 then
    some (Sum.inr (x4, x5))
  else
    let vz1 : Int32 := (x1 &&& (((1 : Int32) <<< (x6 &&& 31)) ^^^ (-1)))
    Option.bind (α := (Int32 × Int32)) (
      if vz1 = x1 then
        some (x4, x5)
      else
        if ¬ M 0 8 = 0 ∧ inb vz1 10025 then
        if inb x6 12 then
        let vz4 : Int32 := ((M 252 (jix vz1)) + (M 170 (jix x6)))
        if ¬ M 0 8 = 0 ∧ inb (4096 + vz1) 10025 then
        let vz6 : Int32 := (jmax x5 (M 252 (jix (4096 + vz1))))
        some (vz4, vz6)
        else none
        else none
        else none) fun t60 =>
    let yz7 : Int32 := t60.1
    let yz8 : Int32 := t60.2
    some (Sum.inl (yz7, yz8, (x6 + 1)))
def fI_groupUp (x1 : Int32) (x2 : Int32) (M : Mm) : Option Mm :=
  Option.bind (lp 1000000 (fun s => fI_groupUp_b9 x1 x2 M s.1 s.2.1 s.2.2) (0, 0, 0)) fun e9 =>
  let yz9 : Int32 := e9.1
  let yz10 : Int32 := e9.2
  if ¬ M 0 8 = 0 ∧ inb x1 10025 then
  let Mz11 : Mm := mput M 252 (jix x1) yz9
  if yz9 = 0 then
    if ¬ Mz11 0 8 = 0 ∧ inb (4096 + x1) 10025 then
    let Mz15 : Mm := mput Mz11 252 (jix (4096 + x1)) (yz10 + 1)
    some Mz15
    else none
  else
    if ¬ Mz11 0 8 = 0 ∧ inb (4096 + x1) 10025 then
    let Mz13 : Mm := mput Mz11 252 (jix (4096 + x1)) yz10
    some Mz13
    else none
  else none
def fI_fewestPayments_b5 (x3 : Int32) (x4 : Int32) (M : Mm) : Option ((Int32 × Int32 × Mm) ⊕ (Int32 × Mm)) :=
  if 12 ≤ x4 then
    some (Sum.inr (x3, M))
  else
    if inb x4 12 then
    Option.bind (α := (Int32 × Mm)) (
      if (M 140 (jix x4)) = 0 then
        some (x3, M)
      else
        if inb x4 12 then
        if inb x3 12 then
        let Mz3 : Mm := mput M 170 (jix x3) (M 140 (jix x4))
        some ((x3 + 1), Mz3)
        else none
        else none) fun t38 =>
    let yz5 : Int32 := t38.1
    let Mz6 : Mm := t38.2
    some (Sum.inl (yz5, (x4 + 1), Mz6))
    else none
def fI_fewestPayments_b57 (x3 : Int32) (x4 : Int32) (M : Mm) : Option ((Int32 × Mm) ⊕ Mm) :=
  if ((1 : Int32) <<< (x3 &&& 31)) ≤ x4 then
    some (Sum.inr M)
  else
    Option.bind (fI_groupUp x4 x3 M) fun Mz14 =>
    some (Sum.inl ((x4 + 1), Mz14))
def fI_fewestPayments (M : Mm) : Option (Int32 × Mm) :=
  Option.bind (lp 1000000 (fun s => fI_fewestPayments_b5 s.1 s.2.1 s.2.2) (0, 0, M)) fun e5 =>
  let yz7 : Int32 := e5.1
  let Mz8 : Mm := e5.2
  if ¬ Mz8 0 8 = 0 ∧ inb 0 10025 then
  let Mz9 : Mm := mput Mz8 252 (jix 0) 0
  if ¬ Mz9 0 8 = 0 ∧ inb 4096 10025 then
  let Mz11 : Mm := mput Mz9 252 (jix 4096) 0
  Option.bind (lp 1000000 (fun s => fI_fewestPayments_b57 yz7 s.1 s.2) (1, Mz11)) fun e57 =>
  let Mz15 : Mm := e57
  if ¬ Mz15 0 8 = 0 ∧ inb ((4096 + ((1 : Int32) <<< (yz7 &&& 31))) - 1) 10025 then
  some ((yz7 - (Mz15 252 (jix ((4096 + ((1 : Int32) <<< (yz7 &&& 31))) - 1)))), Mz15)
  else none
  else none
  else none
def fK_net (x1 : Int32) (M : Mm) : Option (Int32 × Mm) :=
  if x1 = (-1) then
    let Mz3 : Mm := fK_theDesk M
    Option.bind (fI_fewestPayments Mz3) fun qz5 =>
    some (qz5.1, qz5.2)
  else
    let vz1 : Int32 := fK_isWithin x1 0 11
    if vz1 = 0 then
      some ((-10000), M)
    else
      if inb x1 12 then
      some ((M 140 (jix x1)), M)
      else none
def fI_chainHad_b9 (x1 : Int32) (x2 : Int32) (x3 : Int32) (x4 : Int32) (x5 : Int32) (x6 : Int32) : Option ((Int32 × Int32 × Int32) ⊕ Int32) :=
  if x3 < x6 then
    some (Sum.inr x4)
  else
    let vz1 : Int32 := (jmin (x5 * x1) (x2 - x4))
    let vz2 : Int32 := (x4 + vz1)
    some (Sum.inl (vz2, vz1, (x6 + 1)))
def fI_chainHad (x1 : Int32) (x2 : Int32) (x3 : Int32) : Option Int32 :=
  Option.bind (lp 1000000 (fun s => fI_chainHad_b9 x1 x2 x3 s.1 s.2.1 s.2.2) (1, 1, 1)) fun e9 =>
  let yz3 : Int32 := e9
  some yz3
def fI_chainFull_b2 (x1 : Int32) (x2 : Int32) (x3 : Int32) : Option (Int32 ⊕ (Int32 ⊕ Unit)) :=
  if 99 < x3 then
    some (Sum.inr (Sum.inr ()))
  else
    Option.bind (fI_chainHad x1 x2 x3) fun qz2 =>
    if qz2 = x2 then
      some (Sum.inr (Sum.inl x3))
    else
      some (Sum.inl (x3 + 1))
def fI_chainFull (x1 : Int32) (x2 : Int32) : Option Int32 :=
  Option.bind (lp 1000000 (fun s => fI_chainFull_b2 x1 x2 s) 0) fun e2 =>
  match e2 with
  | Sum.inl p2 =>
      let yz3 : Int32 := p2
      some yz3
  | Sum.inr p2 =>
      some (-1)
def fK_chain (x1 : Int32) (x2 : Int32) (x3 : Int32) (x4 : Int32) : Option Int32 :=
  let vz1 : Int32 := fK_isWithin x1 1 9
  if vz1 = 0 then
    some (-1)
  else
    let vz2 : Int32 := fK_isWithin x2 1 9999
    if vz2 = 0 then
      some (-1)
    else
      if x4 = 0 then
        let vz5 : Int32 := fK_isWithin x3 0 99
        if vz5 = 0 then
          some (-1)
        else
          Option.bind (fI_chainHad x1 x2 x3) fun qz7 =>
          some qz7
      else
        if x4 = 1 then
          Option.bind (fI_chainFull x1 x2) fun qz4 =>
          some qz4
        else
          some (-1)
def fK_has (x1 : Int32) (x2 : Int32) (M : Mm) : Option (Int32 × Mm) :=
  let vz1 : Int32 := fK_isWithin x1 0 25
  if vz1 = 0 then
    some (0, M)
  else
    let vz2 : Int32 := fK_isWithin x2 0 9
    if vz2 = 0 then
      some (0, M)
    else
      if inb x1 26 then
      let Mz3 : Mm := mput M 141 (jix x1) x2
      some (1, Mz3)
      else none
def fE_addSpelled (x1 : Int32) (M : Mm) : Option (Int32 × Mm) :=
  if x1 = (-1) then
    let Mz6 : Mm := mput M 138 5 0
    Option.bind (fJ_fill_53178 142 26 0 Mz6) fun Mz8 =>
    some (0, Mz8)
  else
    let vz1 : Int32 := fK_isWithin x1 0 25
    if vz1 = 0 then
      some ((-1), M)
    else
      if (M 138 5) < 8 then
        if inb x1 26 then
        if inb x1 26 then
        let Mz3 : Mm := mput M 142 (jix x1) ((M 142 (jix x1)) + 1)
        let Mz5 : Mm := mput Mz3 138 5 ((Mz3 138 5) + 1)
        some ((Mz5 138 5), Mz5)
        else none
        else none
      else
        some ((-1), M)
def fK_spell (x1 : Int32) (M : Mm) : Option (Int32 × Mm) :=
  Option.bind (fE_addSpelled x1 M) fun qz2 =>
  some (qz2.1, qz2.2)
def fI_orders_b17 (x4 : Int32) (M : Mm) (x2 : Int32) (x3 : Int32) (x5 : Int32) : Option ((Int32 × Int32 × Int32) ⊕ (Int32 × Int32)) :=
  if inb x4 26 then
  if (M 142 (jix x4)) < x5 then
    some (Sum.inr (x2, x3))
  else
    if ¬ x5 = 0 then
    let vz3 : Int32 := ((x2 * (x3 + 1)) / x5)
    some (Sum.inl (vz3, (x3 + 1), (x5 + 1)))
    else none
  else none
def fI_orders_b7 (M : Mm) (x2 : Int32) (x3 : Int32) (x4 : Int32) : Option ((Int32 × Int32 × Int32) ⊕ Int32) :=
  if 26 ≤ x4 then
    some (Sum.inr x2)
  else
    Option.bind (lp 1000000 (fun s => fI_orders_b17 x4 M s.1 s.2.1 s.2.2) (x2, x3, 1)) fun e17 =>
    let yz4 : Int32 := e17.1
    let yz5 : Int32 := e17.2
    some (Sum.inl (yz4, yz5, (x4 + 1)))
def fI_orders (M : Mm) : Option Int32 :=
  Option.bind (lp 1000000 (fun s => fI_orders_b7 M s.1 s.2.1 s.2.2) (1, 0, 0)) fun e7 =>
  let yz6 : Int32 := e7
  some yz6
def fI_timesLaid_b14 (M : Mm) (x2 : Int32) (x3 : Int32) : Option ((Int32 × Int32) ⊕ Int32) :=
  if 26 ≤ x3 then
    some (Sum.inr x2)
  else
    if inb x3 26 then
    Option.bind (α := Int32) (
      if (M 142 (jix x3)) ≤ 0 then
        some x2
      else
        if inb x3 26 then
        if inb x3 26 then
        if ¬ (M 142 (jix x3)) = 0 then
        let vz5 : Int32 := (jmin x2 ((M 141 (jix x3)) / (M 142 (jix x3))))
        some vz5
        else none
        else none
        else none) fun yz6 =>
    some (Sum.inl (yz6, (x3 + 1)))
    else none
def fI_timesLaid (M : Mm) : Option Int32 :=
  if (M 138 5) = 0 then
    some 0
  else
    Option.bind (lp 1000000 (fun s => fI_timesLaid_b14 M s.1 s.2) (9, 0)) fun e14 =>
    let yz7 : Int32 := e14
    some yz7
def fK_lays (x1 : Int32) (M : Mm) : Option Int32 :=
  if x1 = 0 then
    Option.bind (fI_timesLaid M) fun qz4 =>
    some qz4
  else
    if x1 = 1 then
      Option.bind (fI_orders M) fun qz2 =>
      some qz2
    else
      some (-1)
def fE_addAnswer (x1 : Int32) (x2 : Int32) (M : Mm) : Option (Int32 × Mm) :=
  if x1 = (-1) then
    let Mz9 : Mm := mput M 138 7 0
    Option.bind (fJ_fill_53178 143 49 0 Mz9) fun Mz11 =>
    some (0, Mz11)
  else
    Option.bind (fK_isKind x1) fun qz2 =>
    if qz2 = 0 then
      some ((-1), M)
    else
      Option.bind (fK_isKind x2) fun qz4 =>
      if qz4 = 0 then
        some ((-1), M)
      else
        if (M 138 7) < 12 then
          if inb ((x1 * 7) + x2) 49 then
          if inb ((x1 * 7) + x2) 49 then
          let Mz6 : Mm := mput M 143 (jix ((x1 * 7) + x2)) ((M 143 (jix ((x1 * 7) + x2))) + 1)
          let Mz8 : Mm := mput Mz6 138 7 ((Mz6 138 7) + 1)
          some ((Mz8 138 7), Mz8)
          else none
          else none
        else
          some ((-1), M)
def fK_answer (x1 : Int32) (x2 : Int32) (M : Mm) : Option (Int32 × Mm) :=
  Option.bind (fE_addAnswer x1 x2 M) fun qz2 =>
  some (qz2.1, qz2.2)
def fI_likelyAnswer_b8 (x2 : Int32) (M : Mm) (x3 : Int32) (x4 : Int32) (x5 : Int32) : Option ((Int32 × Int32 × Int32) ⊕ Int32) :=
  if 7 ≤ x5 then
    some (Sum.inr x3)
  else
    if inb ((x2 * 7) + x5) 49 then
    let vz2 : Int32 := (M 143 (jix ((x2 * 7) + x5)))
    some (Sum.inl ((if vz2 ≤ x4 then x3 else x5), (if vz2 ≤ x4 then x4 else vz2), (x5 + 1)))
    else none
def fI_likelyAnswer (x2 : Int32) (M : Mm) : Option Int32 :=
  Option.bind (lp 1000000 (fun s => fI_likelyAnswer_b8 x2 M s.1 s.2.1 s.2.2) ((-1), 0, 0)) fun e8 =>
  let yz3 : Int32 := e8
  some yz3
def fI_follows_b8 (M : Mm) (x3 : Int32) (x4 : Int32) (x5 : Int32) : Option ((Int32 × Int32 × Int32) ⊕ (Int32 ⊕ Int32 ⊕ Unit)) :=
  if 7 < x5 then
    some (Sum.inr (Sum.inr (Sum.inr ())))
  else
    if ((x3 >>> (x4 &&& 31)) &&& 1) = 1 then
      some (Sum.inr (Sum.inl x5))
    else
      let vz1 : Int32 := (x3 ||| ((1 : Int32) <<< (x4 &&& 31)))
      Option.bind (fI_likelyAnswer x4 M) fun qz3 =>
      if qz3 = (-1) then
        some (Sum.inr (Sum.inr (Sum.inl x5)))
      else
        some (Sum.inl (vz1, qz3, (x5 + 1)))
def fI_follows (x2 : Int32) (M : Mm) : Option Int32 :=
  Option.bind (lp 1000000 (fun s => fI_follows_b8 M s.1 s.2.1 s.2.2) (0, x2, 0)) fun e8 =>
  match e8 with
  | Sum.inl p8 =>
      let yz4 : Int32 := p8
      some yz4
  | Sum.inr (Sum.inl p8) =>
      let yz5 : Int32 := p8
      if yz5 = 0 then
        some 0
      else
        some (-1)
  | Sum.inr (Sum.inr p8) =>
      some (-1)
def fK_likely (x1 : Int32) (x2 : Int32) (M : Mm) : Option Int32 :=
  Option.bind (fK_isKind x1) fun qz2 =>
  if qz2 = 0 then
    some (-1)
  else
    let vz3 : Int32 := fK_isWithin x2 0 1
    if vz3 = 0 then
      some (-1)
    else
      if x2 = 0 then
        Option.bind (fI_likelyAnswer x1 M) fun qz7 =>
        some qz7
      else
        Option.bind (fI_follows x1 M) fun qz5 =>
        some qz5
def fY_newBox_b28 (x1 : Int32) (x2 : Int32) (x4 : Int32) (x5 : Int32) (x6 : Int32) (M : Mm) (x7 : Int32) (x8 : Int32) : Option ((Int32 × Int32) ⊕ Int32) :=
  if x2 ≤ x8 then
    some (Sum.inr x7)
  else
    if inb ((x6 * 12) + x8) 144 then
    let vz4 : Int32 := (jmax x7 (M 174 (jix ((x6 * 12) + x8))))
    some (Sum.inl (vz4, (x8 + 1)))
    else none
def fY_newBox_b16 (x1 : Int32) (x2 : Int32) (M : Mm) (x4 : Int32) (x5 : Int32) (x6 : Int32) : Option ((Int32 × Int32 × Int32) ⊕ (Int32 × Int32)) :=
  if x2 ≤ x6 then
    some (Sum.inr (x4, x5))
  else
    Option.bind (lp 1000000 (fun s => fY_newBox_b28 x1 x2 x4 x5 x6 M s.1 s.2) (0, 0)) fun e28 =>
    let yz5 : Int32 := e28
    some (Sum.inl ((if x4 ≤ yz5 then x4 else yz5), (if x4 ≤ yz5 then x5 else x6), (x6 + 1)))
def fY_newBox (x1 : Int32) (x2 : Int32) (M : Mm) : Option (Int32 × Mm) :=
  Option.bind (fY_measure x2 M) fun Mz2 =>
  Option.bind (lp 1000000 (fun s => fY_newBox_b16 x1 x2 Mz2 s.1 s.2.1 s.2.2) (1000000, (-1), 0)) fun e16 =>
  let yz6 : Int32 := e16.1
  let yz7 : Int32 := e16.2
  if x1 = 0 then
    some (yz7, Mz2)
  else
    if yz7 = (-1) then
      some (yz7, Mz2)
    else
      some (yz6, Mz2)
def fK_box (x1 : Int32) (M : Mm) : Option (Int32 × Mm) :=
  if (M 2 0) = 0 then
    some ((-1), M)
  else
    let vz1 : Int32 := fK_isWithin x1 0 1
    if vz1 = 0 then
      some ((-1), M)
    else
      Option.bind (fY_newBox (if x1 = 1 then (1 : Int32) else 0) (M 2 0) M) fun qz3 =>
      some (qz3.1, qz3.2)
def fE_addChange (x1 : Int32) (x2 : Int32) (M : Mm) : Option (Int32 × Mm) :=
  if x1 = (-1) then
    let Mz9 : Mm := mput M 138 9 0
    some (0, Mz9)
  else
    let vz1 : Int32 := fK_isWithin x1 0 63
    Option.bind (α := Int32) (
      if vz1 = 0 then
        some 0
      else
        let vz2 : Int32 := fK_isWithin x2 (-2) 2
        if vz2 = 0 then
          some 0
        else
          some 1) fun yz3 =>
    if yz3 = 0 then
      some ((-1), M)
    else
      if (M 138 9) < 8 then
        if inb (M 138 9) 8 then
        let Mz4 : Mm := mput M 144 (jix (M 138 9)) x1
        if inb (Mz4 138 9) 8 then
        let Mz6 : Mm := mput Mz4 145 (jix (Mz4 138 9)) x2
        let Mz8 : Mm := mput Mz6 138 9 ((Mz6 138 9) + 1)
        some ((Mz8 138 9), Mz8)
        else none
        else none
      else
        some ((-1), M)
def fK_face (x1 : Int32) (x2 : Int32) (M : Mm) : Option (Int32 × Mm) :=
  Option.bind (fE_addChange x1 x2 M) fun qz2 =>
  some (qz2.1, qz2.2)
def fJ_fill_d0a16_b6 (a : Nat) (na : Nat) (x1 : Int64) (x4 : Int32) (x3 : Int32) (M : Mm) : Option ((Int32 × Mm) ⊕ Mm) :=
  if x4 ≤ x3 then
    some (Sum.inr M)
  else
    if inb x3 na then
    let Mz2 : Mm := mpl M a (jix x3) x1
    some (Sum.inl ((x3 + 1), Mz2))
    else none
def fJ_fill_d0a16 (a : Nat) (na : Nat) (x1 : Int64) (M : Mm) : Option Mm :=
  let vz1 : Int32 := (nI na)
  Option.bind (lp 1000000 (fun s => fJ_fill_d0a16_b6 a na x1 vz1 s.1 s.2) (0, M)) fun e6 =>
  let Mz4 : Mm := e6
  some Mz4
def fJ_bitCount_0f7a4 (x0 : Int32) : Int32 :=
  let vz1 : Int32 := (x0 - ((jushr x0 1) &&& 1431655765))
  let vz2 : Int32 := ((vz1 &&& 858993459) + ((jushr vz1 2) &&& 858993459))
  let vz3 : Int32 := ((vz2 + (jushr vz2 4)) &&& 252645135)
  let vz4 : Int32 := (vz3 + (jushr vz3 8))
  let vz5 : Int32 := (vz4 + (jushr vz4 16))
  (vz5 &&& 63)
def fI_waysFrom_b24 (F : Int32 → Int64 → Mm → Option (Int32 × Mm)) (x0 : Int32) (x1 : Int64) (x5 : Int32) (x6 : Int32) (M : Mm) : Option ((Int32 × Int32 × Mm) ⊕ (Int32 × Mm)) :=
  if 4 ≤ x6 then
    some (Sum.inr (x5, M))
  else
    if inb x0 6 then
    Option.bind (F (x0 + 1) (x1 - ((Int32.toInt64 x6) * (mgl M 171 (jix x0)))) M) fun qz3 =>
    Option.bind (α := (Int32 × Mm)) (
      if qz3.1 ≤ 0 then
        some (x5, qz3.2)
      else
        if inb x0 6 then
        if inb x0 6 then
        let Mz5 : Mm := mput qz3.2 172 (jix x0) ((qz3.2 172 (jix x0)) ||| ((1 : Int32) <<< (x6 &&& 31)))
        if inb x6 4 then
        let vz8 : Int32 := (x5 + (qz3.1 * (fC1 (jix x6))))
        some (vz8, Mz5)
        else none
        else none
        else none) fun t83 =>
    let yz9 : Int32 := t83.1
    let Mz10 : Mm := t83.2
    some (Sum.inl (yz9, (x6 + 1), Mz10))
    else none
def fI_waysFrom_r (F : Int32 → Int64 → Mm → Option (Int32 × Mm)) (x0 : Int32) (x1 : Int64) (M : Mm) : Option (Int32 × Mm) :=
  if x0 < 6 then
    Option.bind (lp 1000000 (fun s => fI_waysFrom_b24 F x0 x1 s.1 s.2.1 s.2.2) (0, 0, M)) fun e24 =>
    let yz11 : Int32 := e24.1
    let Mz12 : Mm := e24.2
    some (yz11, Mz12)
  else
    if (lg_cmp x1 0) = 0 then
      some (1, M)
    else
      some (0, M)
def fI_waysFrom : Nat → Int32 → Int64 → Mm → Option (Int32 × Mm)
  | 0 => fun _ _ _ => none
  | n + 1 => fun x0 x1 M => fI_waysFrom_r (fI_waysFrom n) x0 x1 M
def fI_waysOfFaces_b82 (x2 : Int64) (x4 : Int32) (x5 : Int32) (x7 : Int64) (x9 : Int32) (M : Mm) : Option ((Int32 × Mm) ⊕ Mm) :=
  if 6 ≤ x9 then
    some (Sum.inr M)
  else
    if inb x9 6 then
    if inb x9 6 then
    let Mz13 : Mm := mpl M 171 (jix x9) ((mgl M 171 (jix x9)) + (x7 * (Int32.toInt64 ((x5 >>> (x9 &&& 31)) &&& 1))))
    some (Sum.inl ((x9 + 1), Mz13))
    else none
    else none
def fI_waysOfFaces_b21 (x2 : Int64) (x4 : Int32) (M : Mm) : Option ((Int64 × Int32 × Mm) ⊕ (Mm ⊕ (Int64 × Mm))) :=
  if (M 138 9) ≤ x4 then
    some (Sum.inr (Sum.inr (x2, M)))
  else
    if inb x4 8 then
    let vz6 : Int32 := (M 144 (jix x4))
    if inb x4 8 then
    let vz8 : Int32 := fJ_bitCount_0f7a4 vz6
    let vz9 : Int32 := ((M 145 (jix x4)) + vz8)
    if 0 ≤ vz9 then
      let vz10 : Int64 := (1 <<< (Int32.toInt64 (6 * x4) &&& 63))
      let vz11 : Int64 := (x2 + ((Int32.toInt64 vz9) * vz10))
      Option.bind (lp 1000000 (fun s => fI_waysOfFaces_b82 vz11 x4 vz6 vz10 s.1 s.2) (0, M)) fun e82 =>
      let Mz15 : Mm := e82
      some (Sum.inl (vz11, (x4 + 1), Mz15))
    else
      some (Sum.inr (Sum.inl M))
    else none
    else none
def fI_waysOfFaces (M : Mm) : Option (Int32 × Mm) :=
  Option.bind (fJ_fill_53178 172 6 0 M) fun Mz2 =>
  Option.bind (fJ_fill_d0a16 171 6 0 Mz2) fun Mz4 =>
  Option.bind (lp 1000000 (fun s => fI_waysOfFaces_b21 s.1 s.2.1 s.2.2) (0, 0, Mz4)) fun e21 =>
  match e21 with
  | Sum.inl p21 =>
      let Mz16 : Mm := p21
      some (0, Mz16)
  | Sum.inr p21 =>
      let yz17 : Int64 := p21.1
      let Mz18 : Mm := p21.2
      Option.bind (fI_waysFrom 8 0 yz17 Mz18) fun qz20 =>
      some (qz20.1, qz20.2)
def fI_sureLetters_b10 (M : Mm) (x2 : Int32) (x3 : Int32) : Option ((Int32 × Int32) ⊕ Int32) :=
  if 6 ≤ x3 then
    some (Sum.inr x2)
  else
    if inb x3 6 then
    let vz4 : Int32 := fJ_bitCount_0f7a4 (M 172 (jix x3))
    Option.bind (α := Int32) (
      if vz4 = 1 then
        let vz5 : Int32 := (x2 ||| ((1 : Int32) <<< (x3 &&& 31)))
        some vz5
      else
        some x2) fun yz6 =>
    some (Sum.inl (yz6, (x3 + 1)))
    else none
def fI_sureLetters (M : Mm) : Option (Int32 × Mm) :=
  Option.bind (fI_waysOfFaces M) fun qz2 =>
  Option.bind (lp 1000000 (fun s => fI_sureLetters_b10 qz2.2 s.1 s.2) (0, 0)) fun e10 =>
  let yz7 : Int32 := e10
  some (yz7, qz2.2)
def fK_faces (x1 : Int32) (M : Mm) : Option (Int32 × Mm) :=
  if x1 = 0 then
    Option.bind (fI_waysOfFaces M) fun qz4 =>
    some (qz4.1, qz4.2)
  else
    if x1 = 1 then
      Option.bind (fI_sureLetters M) fun qz2 =>
      some (qz2.1, qz2.2)
    else
      some ((-1), M)
def fY_joyOfRow_b25 (x1 : Int32) (x5 : Int32) (M : Mm) (x3 : Int32) (x4 : Int32) (x6 : Int32) (x7 : Int32) : Option ((Int32 × Int32 × Int32 × Int32) ⊕ (Int32 × Int32)) :=
  if (M 2 0) ≤ x7 then
    some (Sum.inr (x3, x4))
  else
    if inb x7 12 then
    let vz2 : Int32 := (x6 + (M 3 (jix x7)))
    some (Sum.inl ((if vz2 ≤ x3 then x3 else vz2), (if vz2 ≤ x3 then x4 else x5), vz2, (x7 + 1)))
    else none
def fY_joyOfRow_b9 (x1 : Int32) (M : Mm) (x3 : Int32) (x4 : Int32) (x5 : Int32) : Option ((Int32 × Int32 × Int32) ⊕ (Int32 × Int32)) :=
  if (M 2 0) ≤ x5 then
    some (Sum.inr (x3, x4))
  else
    Option.bind (lp 1000000 (fun s => fY_joyOfRow_b25 x1 x5 M s.1 s.2.1 s.2.2.1 s.2.2.2) (x3, x4, 0, x5)) fun e25 =>
    let yz3 : Int32 := e25.1
    let yz4 : Int32 := e25.2
    some (Sum.inl (yz3, yz4, (x5 + 1)))
def fY_joyOfRow (x1 : Int32) (M : Mm) : Option Int32 :=
  Option.bind (lp 1000000 (fun s => fY_joyOfRow_b9 x1 M s.1 s.2.1 s.2.2) ((-10), (-1), 0)) fun e9 =>
  let yz5 : Int32 := e9.1
  let yz6 : Int32 := e9.2
  if x1 = 0 then
    some yz5
  else
    some yz6
def fK_joy (x1 : Int32) (M : Mm) : Option Int32 :=
  if (M 2 0) = 0 then
    some (-100)
  else
    let vz1 : Int32 := fK_isWithin x1 0 1
    if vz1 = 0 then
      some (-100)
    else
      Option.bind (fY_joyOfRow (if x1 = 1 then (1 : Int32) else 0) M) fun qz3 =>
      some qz3
def fY_goodMove_b5 (x1 : Int32) (x3 : Int32) (x4 : Int32) (M : Mm) : Option ((Int32 × Int32 × Mm) ⊕ (Int32 × Mm)) :=
  if (M 2 0) ≤ x4 then
    some (Sum.inr (x3, M))
  else
    Option.bind (fB_countFor 8 x4 M) fun qz2 =>
    if inb x4 12 then
    let Mz3 : Mm := mput M 176 (jix x4) qz2
    if inb x4 12 then
    let vz6 : Int32 := (x3 ^^^ (jrem (Mz3 176 (jix x4)) 3))
    some (Sum.inl (vz6, (x4 + 1), Mz3))
    else none
    else none
def fY_goodMove_b69 (x1 : Int32) (x3 : Int32) (x4 : Int32) (M : Mm) (x5 : Int32) : Option (Int32 ⊕ (Int32 ⊕ Unit)) :=
  if inb x4 12 then
  if (jmin 2 (M 176 (jix x4))) < x5 then
    some (Sum.inr (Sum.inr ()))
  else
    if inb x4 12 then
    if inb x4 12 then
    if ((x3 ^^^ (jrem (M 176 (jix x4)) 3)) ^^^ (jrem ((M 176 (jix x4)) - x5) 3)) = 0 then
      some (Sum.inr (Sum.inl x5))
    else
      some (Sum.inl (x5 + 1))
    else none
    else none
  else none
def fY_goodMove_b54 (x1 : Int32) (x3 : Int32) (M : Mm) (x4 : Int32) : Option (Int32 ⊕ ((Int32 × Int32) ⊕ Unit)) :=
  if (M 2 0) ≤ x4 then
    some (Sum.inr (Sum.inr ()))
  else
    Option.bind (lp 1000000 (fun s => fY_goodMove_b69 x1 x3 x4 M s) 1) fun e69 =>
    match e69 with
    | Sum.inl p69 =>
        let yz12 : Int32 := p69
        some (Sum.inr (Sum.inl (x4, yz12)))
    | Sum.inr p69 =>
        some (Sum.inl (x4 + 1))
def fY_goodMove (x1 : Int32) (M : Mm) : Option (Int32 × Mm) :=
  Option.bind (lp 1000000 (fun s => fY_goodMove_b5 x1 s.1 s.2.1 s.2.2) (0, 0, M)) fun e5 =>
  let yz7 : Int32 := e5.1
  let Mz8 : Mm := e5.2
  Option.bind (lp 1000000 (fun s => fY_goodMove_b54 x1 yz7 Mz8 s) 0) fun e54 =>
  match e54 with
  | Sum.inl p54 =>
      let yz13 : Int32 := p54.1
      let yz14 : Int32 := p54.2
      if x1 = 0 then
        some (yz13, Mz8)
      else
        some (yz14, Mz8)
  | Sum.inr p54 =>
      some ((-1), Mz8)
def fK_game (x1 : Int32) (M : Mm) : Option (Int32 × Mm) :=
  let vz1 : Int32 := fK_isWithin x1 0 1
  if vz1 = 0 then
    some ((-1), M)
  else
    Option.bind (fY_goodMove (if x1 = 1 then (1 : Int32) else 0) M) fun qz3 =>
    some (qz3.1, qz3.2)
def fP_goBack (M : Mm) : Option (Int32 × Mm) :=
  if (M 31 0) = 0 then
    some (0, M)
  else
    if inb (M 31 1) 6 then
    Option.bind (fW_copyFrom 1 (33 + 15 * jix (M 31 1)) M) fun Mz3 =>
    let Mz4 : Mm := mput Mz3 31 1 (jrem (((Mz3 31 1) + 6) - 1) 6)
    let Mz5 : Mm := mput Mz4 31 0 ((Mz4 31 0) - 1)
    some (1, Mz5)
    else none
def fK_undo (M : Mm) : Option (Int32 × Mm) :=
  Option.bind (fP_goBack M) fun qz2 =>
  if qz2.1 = 0 ∨ qz2.1 = 1 then
  some (qz2.1, qz2.2)
  else none
def fT_copyFrom_b2 (w : Nat) (v : Nat) (x2 : Int32) (M : Mm) : Option ((Int32 × Mm) ⊕ Mm) :=
  if 4 ≤ x2 then
    some (Sum.inr M)
  else
    let Mz1 : Mm := fT_copyOne w v x2 M
    some (Sum.inl ((x2 + 1), Mz1))
def fT_copyFrom (w : Nat) (v : Nat) (M : Mm) : Option Mm :=
  Option.bind (lp 1000000 (fun s => fT_copyFrom_b2 w v s.1 s.2) (0, M)) fun e2 =>
  let Mz2 : Mm := e2
  some Mz2
def fE_copyFrom (w : Nat) (v : Nat) (M : Mm) : Mm :=
  let Mz1 : Mm := mput M w 0 (M v 0)
  let Mz2 : Mm := mcp Mz1 (v + 1) (w + 1) 0 0 8
  let Mz3 : Mm := mput Mz2 w 2 (Mz2 v 2)
  let Mz4 : Mm := mcp Mz3 (v + 2) (w + 2) 0 0 12
  let Mz5 : Mm := mcp Mz4 (v + 3) (w + 3) 0 0 26
  let Mz6 : Mm := mput Mz5 w 5 (Mz5 v 5)
  let Mz7 : Mm := mcp Mz6 (v + 4) (w + 4) 0 0 26
  let Mz8 : Mm := mput Mz7 w 7 (Mz7 v 7)
  let Mz9 : Mm := mcp Mz8 (v + 5) (w + 5) 0 0 49
  let Mz10 : Mm := mput Mz9 w 9 (Mz9 v 9)
  let Mz11 : Mm := mcp Mz10 (v + 6) (w + 6) 0 0 8
  let Mz12 : Mm := mcp Mz11 (v + 7) (w + 7) 0 0 8
  Mz12
def fK_image (x1 : Int32) (M : Mm) : Option (Int32 × Mm) :=
  if x1 = 0 then
    if (M 0 14) = 0 then
      if (M 0 14) = 0 ∨ (M 0 14) = 1 then
      some ((M 0 14), M)
      else none
    else
      Option.bind (fW_copyFrom 1 179 M) fun Mz3 =>
      Option.bind (fT_copyFrom 123 194 Mz3) fun Mz5 =>
      let Mz6 : Mm := fE_copyFrom 138 209 Mz5
      let Mz7 : Mm := fP_forget Mz6
      if (Mz7 0 14) = 0 ∨ (Mz7 0 14) = 1 then
      some ((Mz7 0 14), Mz7)
      else none
  else
    Option.bind (fW_copyFrom 179 1 M) fun Mz10 =>
    Option.bind (fT_copyFrom 194 123 Mz10) fun Mz12 =>
    let Mz13 : Mm := fE_copyFrom 209 138 Mz12
    let Mz14 : Mm := mput Mz13 0 14 1
    if (Mz14 0 14) = 0 ∨ (Mz14 0 14) = 1 then
    some ((Mz14 0 14), Mz14)
    else none
def fK_look (x1 : Int32) (M : Mm) : Int32 :=
  if x1 = 0 then
    (M 2 0)
  else if x1 = 1 then
    (M 8 0)
  else if x1 = 2 then
    (M 1 5)
  else if x1 = 3 then
    (M 1 6)
  else if x1 = 4 then
    (M 1 7)
  else if x1 = 5 then
    (M 1 8)
  else if x1 = 6 then
    (M 1 9)
  else if x1 = 7 then
    (M 1 10)
  else if x1 = 8 then
    (M 1 11)
  else if x1 = 9 then
    (M 1 4)
  else if x1 = 10 then
    (M 1 12)
  else if x1 = 11 then
    let vz1 : Int32 := fT_linesOf 0 M
    vz1
  else if x1 = 12 then
    let vz2 : Int32 := fT_linesOf 1 M
    vz2
  else if x1 = 13 then
    let vz3 : Int32 := fT_linesOf 2 M
    vz3
  else if x1 = 14 then
    let vz4 : Int32 := fT_linesOf 3 M
    vz4
  else if x1 = 15 then
    (M 31 0)
  else 
    (-1)
def fM_isIn (x1 : Int32) (x2 : Int32) (x3 : Int32) : Int32 :=
  if x1 < x2 then
    0
  else
    if x3 < x1 then
      0
    else
      1
def fM_held (x1 : Int32) (x2 : Int32) (x3 : Int32) : Int32 :=
  if x2 ≤ x1 then
    if x1 ≤ x3 then
      x1
    else
      x3
  else
    x2
def fM_greater (x1 : Int32) (x2 : Int32) : Int32 :=
  if x1 ≤ x2 then
    x2
  else
    x1
def fM_lesser (x1 : Int32) (x2 : Int32) : Int32 :=
  if x2 ≤ x1 then
    x2
  else
    x1
def fM_added (x1 : Int32) (x2 : Int32) : Int32 :=
  if x1 < (1000000007 - x2) then
    (x1 + x2)
  else
    (x1 - (1000000007 - x2))
def fM_onesOf_b4 (x2 : Int32) (x3 : Int32) : Option ((Int32 × Int32) ⊕ Int32) :=
  if x3 = 0 then
    some (Sum.inr x2)
  else
    let vz1 : Int32 := (x2 + 1)
    let vz2 : Int32 := (x3 &&& (x3 - 1))
    some (Sum.inl (vz1, vz2))
def fM_onesOf (x1 : Int32) : Option Int32 :=
  Option.bind (lp 1000000 (fun s => fM_onesOf_b4 s.1 s.2) (0, x1)) fun e4 =>
  let yz3 : Int32 := e4
  some yz3
def fM_lies (x1 : Int32) (x2 : Int32) : Int32 :=
  if ((x1 >>> (x2 &&& 31)) &&& 1) = 1 then
    1
  else
    0
def fM_keepsAhead_b21 (x1 : Int32) (M : Mm) : Option ((Int32 × Mm) ⊕ Mm) :=
  if (174 * (M 217 3)) ≤ x1 then
    some (Sum.inr M)
  else
    if inb (x1 + 174) 1044 then
    if inb x1 1044 then
    let Mz3 : Mm := mput M 219 (jix x1) (M 219 (jix (x1 + 174)))
    some (Sum.inl ((x1 + 1), Mz3))
    else none
    else none
def fM_keepsAhead_b57 (x1 : Int32) (M : Mm) : Option ((Int32 × Mm) ⊕ Mm) :=
  if 174 ≤ x1 then
    some (Sum.inr M)
  else
    if inb x1 174 then
    if inb ((174 * (M 217 3)) + x1) 1044 then
    let Mz8 : Mm := mput M 219 (jix ((174 * (M 217 3)) + x1)) (M 218 (jix x1))
    some (Sum.inl ((x1 + 1), Mz8))
    else none
    else none
def fM_keepsAhead (M : Mm) : Option Mm :=
  Option.bind (α := Mm) (
    if (M 217 3) = 6 then
      let Mz1 : Mm := mput M 217 3 ((M 217 3) - 1)
      Option.bind (lp 1000000 (fun s => fM_keepsAhead_b21 s.1 s.2) (0, Mz1)) fun e21 =>
      let Mz5 : Mm := e21
      some Mz5
    else
      some M) fun Mz6 =>
  Option.bind (lp 1000000 (fun s => fM_keepsAhead_b57 s.1 s.2) (0, Mz6)) fun e57 =>
  let Mz10 : Mm := e57
  let Mz11 : Mm := mput Mz10 217 3 ((Mz10 217 3) + 1)
  some Mz11
def fM_undo_b26 (x1 : Int32) (M : Mm) : Option ((Int32 × Mm) ⊕ Mm) :=
  if 174 ≤ x1 then
    some (Sum.inr M)
  else
    if inb ((174 * (M 217 3)) + x1) 1044 then
    if inb x1 174 then
    let Mz4 : Mm := mput M 218 (jix x1) (M 219 (jix ((174 * (M 217 3)) + x1)))
    some (Sum.inl ((x1 + 1), Mz4))
    else none
    else none
def fM_undo (M : Mm) : Option (Int32 × Mm) :=
  let Mz1 : Mm := mput M 217 0 0
  if (Mz1 217 3) = 0 then
    some (0, Mz1)
  else
    let Mz2 : Mm := mput Mz1 217 3 ((Mz1 217 3) - 1)
    Option.bind (lp 1000000 (fun s => fM_undo_b26 s.1 s.2) (0, Mz2)) fun e26 =>
    let Mz6 : Mm := e26
    some (1, Mz6)
def fM_thinks_b2 (x1 : Int32) (M : Mm) : Option ((Int32 × Mm) ⊕ Mm) :=
  if 174 ≤ x1 then
    some (Sum.inr M)
  else
    if inb x1 174 then
    if inb x1 174 then
    let Mz2 : Mm := mput M 220 (jix x1) (M 218 (jix x1))
    some (Sum.inl ((x1 + 1), Mz2))
    else none
    else none
def fM_thinks (M : Mm) : Option Mm :=
  Option.bind (lp 1000000 (fun s => fM_thinks_b2 s.1 s.2) (0, M)) fun e2 =>
  let Mz4 : Mm := e2
  let Mz5 : Mm := mput Mz4 217 5 1
  some Mz5
def fM_endsThought_b2 (x1 : Int32) (M : Mm) : Option ((Int32 × Mm) ⊕ Mm) :=
  if 174 ≤ x1 then
    some (Sum.inr M)
  else
    if inb x1 174 then
    if inb x1 174 then
    let Mz2 : Mm := mput M 218 (jix x1) (M 220 (jix x1))
    some (Sum.inl ((x1 + 1), Mz2))
    else none
    else none
def fM_endsThought (M : Mm) : Option Mm :=
  Option.bind (lp 1000000 (fun s => fM_endsThought_b2 s.1 s.2) (0, M)) fun e2 =>
  let Mz4 : Mm := e2
  let Mz5 : Mm := mput Mz4 217 5 0
  some Mz5
def fM_state (x1 : Int32) (M : Mm) : (Int32 × Mm) :=
  let Mz1 : Mm := mput M 217 0 0
  let vz2 : Int32 := (Mz1 218 1)
  let Mz3 : Mm := mput Mz1 218 1 x1
  let Mz4 : Mm := mput Mz3 217 3 0
  (vz2, Mz4)
def fM_draw (x1 : Int32) (M : Mm) : Option (Int32 × Mm) :=
  let Mz1 : Mm := mput M 218 1 ((1664525 * (M 218 1)) + 1013904223)
  if ¬ x1 = 0 then
  some ((jrem (jushr (Mz1 218 1) 8) x1), Mz1)
  else none
def fM_isDoor (x1 : Int32) (M : Mm) : Int32 :=
  if x1 < 0 then
    0
  else
    if (M 217 6) ≤ x1 then
      0
    else
      1
def fM_health (M : Mm) : Int32 :=
  (99 - (M 218 4))
def fM_hasHealth (x1 : Int32) (M : Mm) : Mm :=
  let vz1 : Int32 := fM_held x1 0 99
  let Mz2 : Mm := mput M 218 4 (99 - vz1)
  Mz2
def fM_letterAt (x1 : Int32) : Int32 :=
  (54 + (5 * x1))
def fM_doorOf (x1 : Int32) (M : Mm) : Option Int32 :=
  let vz1 : Int32 := fM_letterAt x1
  if inb (vz1 + 1) 174 then
  some (M 218 (jix (vz1 + 1)))
  else none
def fM_lettersFor_b4 (x1 : Int32) (M : Mm) (x2 : Int32) (x3 : Int32) : Option ((Int32 × Int32) ⊕ Int32) :=
  if (M 218 10) ≤ x3 then
    some (Sum.inr x2)
  else
    Option.bind (fM_doorOf x3 M) fun qz2 =>
    Option.bind (α := Int32) (
      if qz2 = x1 then
        let vz3 : Int32 := (x2 + 1)
        some vz3
      else
        some x2) fun yz4 =>
    some (Sum.inl (yz4, (x3 + 1)))
def fM_lettersFor (x1 : Int32) (M : Mm) : Option Int32 :=
  Option.bind (lp 1000000 (fun s => fM_lettersFor_b4 x1 M s.1 s.2) (0, 0)) fun e4 =>
  let yz5 : Int32 := e4
  some yz5
def fM_door (x1 : Int32) (x2 : Int32) (x3 : Int32) (M : Mm) : Option (Int32 × Mm) :=
  let Mz1 : Mm := mput M 217 0 0
  let vz2 : Int32 := fM_isIn x1 (-9) 9
  if vz2 = 0 then
    some ((-1), Mz1)
  else
    let vz3 : Int32 := fM_isIn x2 0 9
    if vz3 = 0 then
      some ((-1), Mz1)
    else
      let vz4 : Int32 := fM_isIn x3 0 999
      if vz4 = 0 then
        some ((-1), Mz1)
      else
        if (Mz1 217 6) = 12 then
          some ((-1), Mz1)
        else
          if inb (18 + (Mz1 217 6)) 174 then
          let Mz5 : Mm := mput Mz1 218 (jix (18 + (Mz1 217 6))) x1
          if inb (30 + (Mz5 217 6)) 174 then
          let Mz7 : Mm := mput Mz5 218 (jix (30 + (Mz5 217 6))) x3
          if inb (42 + (Mz7 217 6)) 174 then
          let Mz9 : Mm := mput Mz7 218 (jix (42 + (Mz7 217 6))) 0
          if inb (Mz9 217 6) 12 then
          let Mz11 : Mm := mput Mz9 221 (jix (Mz9 217 6)) x2
          let Mz13 : Mm := mput Mz11 217 6 ((Mz11 217 6) + 1)
          let Mz14 : Mm := mput Mz13 217 3 0
          some (((Mz14 217 6) - 1), Mz14)
          else none
          else none
          else none
          else none
def fM_canSet_j40 (z1 : Int32) (z2 : Int32) (z3 : Int32) (M : Mm) : Option Int32 :=
  let vz2 : Int32 := fM_isDoor z2 M
  if vz2 = 0 then
    some 0
  else
    let vz3 : Int32 := fM_isIn z3 0 (if z1 = 1 then (9 : Int32) else 999)
    if vz3 = 0 then
      some 0
    else
      some 1
def fM_canSet_j86 (z3 : Int32) (M : Mm) : Option Int32 :=
  let vz1 : Int32 := fM_isIn z3 0 99
  if vz1 = 0 then
    some 0
  else
    some 1
def fM_canSet (x1 : Int32) (x2 : Int32) (x3 : Int32) (M : Mm) : Option Int32 :=
  if x1 = 0 then
    let vz4 : Int32 := fM_isDoor x2 M
    if vz4 = 0 then
      some 0
    else
      let vz5 : Int32 := fM_isIn x3 (-9) 9
      if vz5 = 0 then
        some 0
      else
        some 1
  else
    if x1 = 1 then
      fM_canSet_j40 x1 x2 x3 M
    else
      if x1 = 2 then
        fM_canSet_j40 x1 x2 x3 M
      else
        if x1 = 3 then
          fM_canSet_j86 x3 M
        else
          if x1 = 4 then
            fM_canSet_j86 x3 M
          else
            some 0
def fM_set (x1 : Int32) (x2 : Int32) (x3 : Int32) (M : Mm) : Option (Int32 × Mm) :=
  let Mz1 : Mm := mput M 217 0 0
  Option.bind (fM_canSet x1 x2 x3 Mz1) fun qz3 =>
  if qz3 = 0 then
    some (0, Mz1)
  else
    Option.bind (α := Mm) (
      if x1 = 0 then
        if inb (18 + x2) 174 then
        let Mz4 : Mm := mput Mz1 218 (jix (18 + x2)) x3
        some Mz4
        else none
      else
        some Mz1) fun Mz6 =>
    Option.bind (α := Mm) (
      if x1 = 1 then
        if inb x2 12 then
        let Mz7 : Mm := mput Mz6 221 (jix x2) x3
        some Mz7
        else none
      else
        some Mz6) fun Mz9 =>
    Option.bind (α := Mm) (
      if x1 = 2 then
        if inb (30 + x2) 174 then
        let Mz10 : Mm := mput Mz9 218 (jix (30 + x2)) x3
        some Mz10
        else none
      else
        some Mz9) fun Mz12 =>
    Option.bind (α := Mm) (
      if x1 = 3 then
        let Mz13 : Mm := fM_hasHealth x3 Mz12
        some Mz13
      else
        some Mz12) fun Mz14 =>
    Option.bind (α := Mm) (
      if x1 = 4 then
        let Mz15 : Mm := mput Mz14 218 5 x3
        some Mz15
      else
        some Mz14) fun Mz16 =>
    let Mz17 : Mm := mput Mz16 217 3 0
    some (1, Mz17)
def fM_types_b3 (x1 : Int32) (x2 : Int32) (M : Mm) : Option ((Int32 × Mm) ⊕ Mm) :=
  if x2 < 0 then
    some (Sum.inr M)
  else
    if inb (M 217 10) 400 then
    let Mz1 : Mm := mput M 223 (jix (M 217 10)) ((x1 >>> (x2 &&& 31)) &&& 255)
    let Mz3 : Mm := mput Mz1 217 10 ((Mz1 217 10) + 1)
    some (Sum.inl ((x2 + (-8)), Mz3))
    else none
def fM_types (x1 : Int32) (M : Mm) : Option Mm :=
  Option.bind (lp 1000000 (fun s => fM_types_b3 x1 s.1 s.2) (24, M)) fun e3 =>
  let Mz4 : Mm := e3
  some Mz4
def fM_feed (x1 : Int32) (x2 : Int32) (x3 : Int32) (x4 : Int32) (x5 : Int32) (M : Mm) : Option (Int32 × Mm) :=
  let Mz1 : Mm := mput M 217 0 0
  if (Mz1 217 10) ≤ 380 then
    Option.bind (fM_types x1 Mz1) fun Mz3 =>
    Option.bind (fM_types x2 Mz3) fun Mz5 =>
    Option.bind (fM_types x3 Mz5) fun Mz7 =>
    Option.bind (fM_types x4 Mz7) fun Mz9 =>
    Option.bind (fM_types x5 Mz9) fun Mz11 =>
    some ((Mz11 217 10), Mz11)
  else
    some ((-1), Mz1)
def fM_end (x1 : Int32) (M : Mm) : (Int32 × Mm) :=
  let Mz1 : Mm := mput M 217 0 0
  let vz2 : Int32 := fM_isIn x1 0 (Mz1 217 10)
  if vz2 = 0 then
    (0, Mz1)
  else
    let Mz3 : Mm := mput Mz1 217 10 x1
    (1, Mz3)
def fM_raw (x1 : Int32) (M : Mm) : Option Int32 :=
  if (M 217 10) ≤ x1 then
    some (-1)
  else
    if inb x1 400 then
    some (M 223 (jix x1))
    else none
def fM_isLetter (x1 : Int32) : Int32 :=
  let vz1 : Int32 := fM_isIn x1 97 122
  if vz1 = 0 then
    let vz2 : Int32 := fM_isIn x1 65 90
    if vz2 = 0 then
      0
    else
      1
  else
    1
def fM_isDigit (x1 : Int32) : Option Int32 :=
  let vz1 : Int32 := fM_isIn x1 48 57
  if vz1 = 0 ∨ vz1 = 1 then
  some vz1
  else none
def fM_isMarkSign (x1 : Int32) : Int32 :=
  if x1 = 59 then
    1
  else
    if x1 = 43 then
      1
    else
      if x1 = 45 then
        1
      else
        if x1 = 42 then
          1
        else
          if x1 = 47 then
            1
          else
            if x1 = 40 then
              1
            else
              if x1 = 41 then
                1
              else
                if x1 = 60 then
                  1
                else
                  if x1 = 61 then
                    1
                  else
                    if x1 = 62 then
                      1
                    else
                      0
def fM_wordAt_b20 (x1 : Int32) (x2 : Int32) (x3 : Int32) (x4 : Int32) (M : Mm) (x5 : Int32) : Option (Int32 ⊕ Int32) :=
  if x2 ≤ (x1 + x5) then
    some (Sum.inr x5)
  else
    if inb ((x4 + 1) + x5) 153 then
    if inb (x1 + x5) 400 then
    if (M 224 (jix ((x4 + 1) + x5))) = (M 223 (jix (x1 + x5))) then
      let vz4 : Int32 := (x5 + 1)
      some (Sum.inl vz4)
    else
      some (Sum.inr x5)
    else none
    else none
def fM_wordAt_b94 (x1 : Int32) (x2 : Int32) (x3 : Int32) (M : Mm) (x4 : Int32) : Option (Int32 ⊕ Int32) :=
  if inb x4 153 then
  if (M 224 (jix x4)) = 32 then
    some (Sum.inr x4)
  else
    let vz9 : Int32 := (x4 + 1)
    some (Sum.inl vz9)
  else none
def fM_wordAt_j88 (x1 : Int32) (x2 : Int32) (z3 : Int32) (z4 : Int32) (M : Mm) : Option ((Int32 × Int32) ⊕ (Int32 ⊕ Unit)) :=
  let vz7 : Int32 := (z4 + 1)
  Option.bind (lp 1000000 (fun s => fM_wordAt_b94 x1 x2 z3 M s) vz7) fun e94 =>
  let yz10 : Int32 := e94
  some (Sum.inl (z3, yz10))
def fM_wordAt_b5 (x1 : Int32) (x2 : Int32) (M : Mm) (x3 : Int32) (x4 : Int32) : Option ((Int32 × Int32) ⊕ (Int32 ⊕ Unit)) :=
  if 152 ≤ x4 then
    some (Sum.inr (Sum.inr ()))
  else
    let vz1 : Int32 := (x3 + 1)
    Option.bind (lp 1000000 (fun s => fM_wordAt_b20 x1 x2 vz1 x4 M s) 0) fun e20 =>
    let yz5 : Int32 := e20
    if (x1 + yz5) = x2 then
      if inb ((x4 + 1) + yz5) 153 then
      if (M 224 (jix ((x4 + 1) + yz5))) = 32 then
        some (Sum.inr (Sum.inl vz1))
      else
        fM_wordAt_j88 x1 x2 vz1 x4 M
      else none
    else
      fM_wordAt_j88 x1 x2 vz1 x4 M
def fM_wordAt (x1 : Int32) (x2 : Int32) (M : Mm) : Option Int32 :=
  Option.bind (lp 1000000 (fun s => fM_wordAt_b5 x1 x2 M s.1 s.2) ((-1), 0)) fun e5 =>
  match e5 with
  | Sum.inl p5 =>
      let yz11 : Int32 := p5
      some yz11
  | Sum.inr p5 =>
      some (-1)
def fM_reads_j26 (M : Mm) : Option (Mm ⊕ Mm) :=
  let Mz5 : Mm := mput M 217 11 ((M 217 11) + 1)
  some (Sum.inl Mz5)
def fM_reads_b0 (M : Mm) : Option (Mm ⊕ Mm) :=
  Option.bind (fM_raw (M 217 11) M) fun qz2 =>
  if qz2 = 32 then
    fM_reads_j26 M
  else
    Option.bind (fM_raw (M 217 11) M) fun qz4 =>
    if qz4 = 10 then
      fM_reads_j26 M
    else
      some (Sum.inr M)
def fM_reads_b171 (M : Mm) : Option (Mm ⊕ Mm) :=
  Option.bind (fM_raw (M 217 11) M) fun qz20 =>
  Option.bind (fM_isDigit qz20) fun qz22 =>
  if qz22 = 0 then
    some (Sum.inr M)
  else
    Option.bind (α := Int32) (
      if 10000 ≤ (M 217 14) then
        some (M 217 14)
      else
        Option.bind (fM_raw (M 217 11) M) fun qz24 =>
        some (((10 * (M 217 14)) + qz24) - 48)) fun yz25 =>
    let Mz26 : Mm := mput M 217 14 yz25
    let Mz27 : Mm := mput Mz26 217 11 ((Mz26 217 11) + 1)
    some (Sum.inl Mz27)
def fM_reads_b95 (M : Mm) : Option (Mm ⊕ Mm) :=
  Option.bind (fM_raw (M 217 11) M) fun qz31 =>
  let vz32 : Int32 := fM_isLetter qz31
  if vz32 = 0 then
    some (Sum.inr M)
  else
    let Mz33 : Mm := mput M 217 11 ((M 217 11) + 1)
    some (Sum.inl Mz33)
def fM_reads (M : Mm) : Option Mm :=
  Option.bind (lp 1000000 (fun s => fM_reads_b0 s) M) fun e0 =>
  let Mz6 : Mm := e0
  let Mz7 : Mm := mput Mz6 217 12 (Mz6 217 11)
  let Mz8 : Mm := mput Mz7 217 13 1
  Option.bind (fM_raw (Mz8 217 11) Mz8) fun qz10 =>
  if qz10 = (-1) then
    let Mz39 : Mm := mput Mz8 217 13 0
    some Mz39
  else
    let Mz11 : Mm := mput Mz8 217 11 ((Mz8 217 11) + 1)
    let Mz12 : Mm := mput Mz11 217 14 qz10
    let vz13 : Int32 := fM_isLetter qz10
    if vz13 = 0 then
      Option.bind (fM_isDigit qz10) fun qz15 =>
      if qz15 = 0 then
        let vz16 : Int32 := fM_isMarkSign qz10
        if vz16 = 0 then
          some Mz12
        else
          let Mz17 : Mm := mput Mz12 217 13 4
          some Mz17
      else
        let Mz18 : Mm := mput Mz12 217 14 (qz10 - 48)
        Option.bind (lp 1000000 (fun s => fM_reads_b171 s) Mz18) fun e171 =>
        let Mz28 : Mm := e171
        if 5 ≤ ((Mz28 217 11) - (Mz28 217 12)) then
          some Mz28
        else
          let Mz29 : Mm := mput Mz28 217 13 3
          some Mz29
    else
      Option.bind (lp 1000000 (fun s => fM_reads_b95 s) Mz12) fun e95 =>
      let Mz34 : Mm := e95
      Option.bind (fM_wordAt (Mz34 217 12) (Mz34 217 11) Mz34) fun qz36 =>
      let Mz37 : Mm := mput Mz34 217 14 qz36
      if (Mz37 217 14) = (-1) then
        some Mz37
      else
        let Mz38 : Mm := mput Mz37 217 13 2
        some Mz38
def fM_errs (x1 : Int32) (M : Mm) : (Int32 × Mm) :=
  let Mz1 : Mm := mput M 217 28 x1
  let Mz2 : Mm := mput Mz1 217 29 (Mz1 217 12)
  ((-1), Mz2)
def fM_isWord (x1 : Int32) (M : Mm) : Int32 :=
  if (M 217 13) = 2 then
    if (M 217 14) = x1 then
      1
    else
      0
  else
    0
def fM_isSign (x1 : Int32) (M : Mm) : Int32 :=
  if (M 217 13) = 4 then
    if (M 217 14) = x1 then
      1
    else
      0
  else
    0
def fM_emits (x1 : Int32) (x2 : Int32) (M : Mm) : Option Mm :=
  if inb (800 + (M 217 24)) 1200 then
  let Mz1 : Mm := mput M 230 (jix (800 + (M 217 24))) x1
  if inb (800 + (Mz1 217 24)) 1200 then
  let Mz3 : Mm := mput Mz1 231 (jix (800 + (Mz1 217 24))) x2
  let Mz5 : Mm := mput Mz3 217 24 ((Mz3 217 24) + 1)
  some Mz5
  else none
  else none
def fM_canAsk (x1 : Int32) : Option Int32 :=
  let vz1 : Int32 := fM_isIn x1 7 17
  if vz1 = 0 ∨ vz1 = 1 then
  some vz1
  else none
def fM_readUnit_j43 (z1 : Int32) (M : Mm) : Option (Int32 × Mm) :=
  Option.bind (fM_emits (if z1 = 0 then (0 : Int32) else 1) (if z1 = 0 then (M 217 14) else ((M 217 14) - 7)) M) fun Mz6 =>
  Option.bind (fM_reads Mz6) fun Mz8 =>
  some (0, Mz8)
def fM_readUnit (M : Mm) : Option (Int32 × Mm) :=
  Option.bind (α := Int32) (
    if (M 217 13) = 2 then
      Option.bind (fM_canAsk (M 217 14)) fun qz2 =>
      if qz2 = 0 then
        some 0
      else
        some 1
    else
      some 0) fun yz3 =>
  if yz3 = 0 then
    if (M 217 13) = 3 then
      fM_readUnit_j43 yz3 M
    else
      let qz4 : Int32 × Mm := fM_errs 1 M
      some (qz4.1, qz4.2)
  else
    fM_readUnit_j43 yz3 M
def fM_readProduct_j74 (z1 : Int32) (M : Mm) : Option (Mm ⊕ (Mm ⊕ Mm ⊕ Mm ⊕ Mm)) :=
  Option.bind (fM_readUnit M) fun qz9 =>
  if qz9.1 = (-1) then
    some (Sum.inr (Sum.inr (Sum.inr (Sum.inl qz9.2))))
  else
    Option.bind (fM_emits (if z1 = 0 then (5 : Int32) else 4) 0 qz9.2) fun Mz11 =>
    some (Sum.inl Mz11)
def fM_readProduct_j57 (z1 : Int32) (M : Mm) : Option (Mm ⊕ (Mm ⊕ Mm ⊕ Mm ⊕ Mm)) :=
  if z1 = 0 then
    if (M 217 14) = 0 then
      some (Sum.inr (Sum.inr (Sum.inl M)))
    else
      fM_readProduct_j74 z1 M
  else
    fM_readProduct_j74 z1 M
def fM_readProduct_j28 (M : Mm) : Option (Mm ⊕ (Mm ⊕ Mm ⊕ Mm ⊕ Mm)) :=
  let vz5 : Int32 := fM_isSign 42 M
  Option.bind (fM_reads M) fun Mz7 =>
  if vz5 = 0 then
    if (Mz7 217 13) = 3 then
      fM_readProduct_j57 vz5 Mz7
    else
      some (Sum.inr (Sum.inl Mz7))
  else
    fM_readProduct_j57 vz5 Mz7
def fM_readProduct_b10 (M : Mm) : Option (Mm ⊕ (Mm ⊕ Mm ⊕ Mm ⊕ Mm)) :=
  let vz3 : Int32 := fM_isSign 42 M
  if vz3 = 0 then
    let vz4 : Int32 := fM_isSign 47 M
    if vz4 = 0 then
      some (Sum.inr (Sum.inr (Sum.inr (Sum.inr M))))
    else
      fM_readProduct_j28 M
  else
    fM_readProduct_j28 M
def fM_readProduct (M : Mm) : Option (Int32 × Mm) :=
  Option.bind (fM_readUnit M) fun qz2 =>
  if qz2.1 = (-1) then
    some ((-1), qz2.2)
  else
    Option.bind (lp 1000000 (fun s => fM_readProduct_b10 s) qz2.2) fun e10 =>
    match e10 with
    | Sum.inl p10 =>
        let Mz12 : Mm := p10
        let qz13 : Int32 × Mm := fM_errs 1 Mz12
        some (qz13.1, qz13.2)
    | Sum.inr (Sum.inl p10) =>
        let Mz14 : Mm := p10
        let qz15 : Int32 × Mm := fM_errs 2 Mz14
        some (qz15.1, qz15.2)
    | Sum.inr (Sum.inr (Sum.inl p10)) =>
        let Mz16 : Mm := p10
        some ((-1), Mz16)
    | Sum.inr (Sum.inr (Sum.inr p10)) =>
        let Mz17 : Mm := p10
        some (0, Mz17)
def fM_readSum_j28 (M : Mm) : Option (Mm ⊕ (Mm ⊕ Mm)) :=
  let vz5 : Int32 := (if (M 217 14) = 43 then (2 : Int32) else 3)
  Option.bind (fM_reads M) fun Mz7 =>
  Option.bind (fM_readProduct Mz7) fun qz9 =>
  if qz9.1 = (-1) then
    some (Sum.inr (Sum.inl qz9.2))
  else
    Option.bind (fM_emits vz5 0 qz9.2) fun Mz11 =>
    some (Sum.inl Mz11)
def fM_readSum_b10 (M : Mm) : Option (Mm ⊕ (Mm ⊕ Mm)) :=
  let vz3 : Int32 := fM_isSign 43 M
  if vz3 = 0 then
    let vz4 : Int32 := fM_isSign 45 M
    if vz4 = 0 then
      some (Sum.inr (Sum.inr M))
    else
      fM_readSum_j28 M
  else
    fM_readSum_j28 M
def fM_readSum (M : Mm) : Option (Int32 × Mm) :=
  Option.bind (fM_readProduct M) fun qz2 =>
  if qz2.1 = (-1) then
    some ((-1), qz2.2)
  else
    Option.bind (lp 1000000 (fun s => fM_readSum_b10 s) qz2.2) fun e10 =>
    match e10 with
    | Sum.inl p10 =>
        let Mz12 : Mm := p10
        some ((-1), Mz12)
    | Sum.inr p10 =>
        let Mz13 : Mm := p10
        some (0, Mz13)
def fM_readCompared_j43 (M : Mm) : Option (Int32 × Mm) :=
  let vz7 : Int32 := (if (M 217 14) = 60 then (6 : Int32) else (if (M 217 14) = 61 then (7 : Int32) else 8))
  Option.bind (fM_reads M) fun Mz9 =>
  Option.bind (fM_readSum Mz9) fun qz11 =>
  if qz11.1 = (-1) then
    some ((-1), qz11.2)
  else
    Option.bind (fM_emits vz7 0 qz11.2) fun Mz13 =>
    some (0, Mz13)
def fM_readCompared (M : Mm) : Option (Int32 × Mm) :=
  Option.bind (fM_readSum M) fun qz2 =>
  if qz2.1 = (-1) then
    some ((-1), qz2.2)
  else
    let vz3 : Int32 := fM_isSign 60 qz2.2
    if vz3 = 0 then
      let vz4 : Int32 := fM_isSign 61 qz2.2
      if vz4 = 0 then
        let vz5 : Int32 := fM_isSign 62 qz2.2
        if vz5 = 0 then
          let qz6 : Int32 × Mm := fM_errs 1 qz2.2
          some (qz6.1, qz6.2)
        else
          fM_readCompared_j43 qz2.2
      else
        fM_readCompared_j43 qz2.2
    else
      fM_readCompared_j43 qz2.2
def fM_waits (x1 : Int32) (M : Mm) : Option Mm :=
  if inb (M 217 27) 40 then
  let Mz1 : Mm := mput M 232 (jix (M 217 27)) x1
  let Mz3 : Mm := mput Mz1 217 27 ((Mz1 217 27) + 1)
  some Mz3
  else none
def fM_settles_b0 (x1 : Int32) (M : Mm) : Option (Mm ⊕ Mm) :=
  if (M 217 27) ≤ 0 then
    some (Sum.inr M)
  else
    if inb ((M 217 27) - 1) 40 then
    if (M 232 (jix ((M 217 27) - 1))) = x1 then
      let Mz2 : Mm := mput M 217 27 ((M 217 27) - 1)
      Option.bind (fM_emits x1 0 Mz2) fun Mz4 =>
      if x1 = 9 then
        let Mz5 : Mm := mput Mz4 217 25 ((Mz4 217 25) - 1)
        some (Sum.inl Mz5)
      else
        some (Sum.inl Mz4)
    else
      some (Sum.inr M)
    else none
def fM_settles (x1 : Int32) (M : Mm) : Option Mm :=
  Option.bind (lp 1000000 (fun s => fM_settles_b0 x1 s) M) fun e0 =>
  let Mz6 : Mm := e0
  some Mz6
def fM_readAny_j33 (z1 : Int32) (z2 : Int32) (z3 : Int32) (M : Mm) : Option ((Int32 × Int32 × Mm) ⊕ (Mm ⊕ Mm ⊕ Mm ⊕ Mm)) :=
  if (M 217 25) = 8 then
    some (Sum.inr (Sum.inl M))
  else
    let Mz36 : Mm := mput M 217 25 ((M 217 25) + 1)
    Option.bind (α := Int32) (
      if z3 = 0 then
        let vz37 : Int32 := (z1 + 1)
        some vz37
      else
        some z1) fun yz38 =>
    Option.bind (fM_waits (if z3 = 0 then (12 : Int32) else 9) Mz36) fun Mz40 =>
    Option.bind (fM_reads Mz40) fun Mz42 =>
    some (Sum.inl (yz38, z2, Mz42))
def fM_readAny_b9 (x1 : Int32) (x2 : Int32) (M : Mm) : Option ((Int32 × Int32 × Mm) ⊕ (Mm ⊕ Mm ⊕ Mm ⊕ Mm)) :=
  if x2 = 0 then
    let vz2 : Int32 := fM_isWord 5 M
    if vz2 = 0 then
      let vz3 : Int32 := fM_isWord 4 M
      if vz3 = 0 then
        Option.bind (fM_settles 10 M) fun Mz5 =>
        Option.bind (fM_settles 11 Mz5) fun Mz7 =>
        if x1 = 0 then
          some (Sum.inr (Sum.inr (Sum.inr (Sum.inl Mz7))))
        else
          let vz8 : Int32 := fM_isSign 41 Mz7
          if vz8 = 0 then
            some (Sum.inr (Sum.inr (Sum.inr (Sum.inr Mz7))))
          else
            let Mz9 : Mm := mput Mz7 217 27 ((Mz7 217 27) - 1)
            let vz10 : Int32 := (x1 - 1)
            let Mz11 : Mm := mput Mz9 217 25 ((Mz9 217 25) - 1)
            Option.bind (fM_settles 9 Mz11) fun Mz13 =>
            Option.bind (fM_reads Mz13) fun Mz15 =>
            some (Sum.inl (vz10, x2, Mz15))
      else
        Option.bind (fM_settles 10 M) fun Mz17 =>
        Option.bind (fM_settles 11 Mz17) fun Mz19 =>
        Option.bind (fM_waits 11 Mz19) fun Mz21 =>
        Option.bind (fM_reads Mz21) fun Mz23 =>
        some (Sum.inl (x1, 1, Mz23))
    else
      Option.bind (fM_settles 10 M) fun Mz25 =>
      Option.bind (fM_waits 10 Mz25) fun Mz27 =>
      Option.bind (fM_reads Mz27) fun Mz29 =>
      some (Sum.inl (x1, 1, Mz29))
  else
    let vz30 : Int32 := fM_isWord 6 M
    if vz30 = 0 then
      let vz31 : Int32 := fM_isSign 40 M
      if vz31 = 0 then
        Option.bind (fM_readCompared M) fun qz33 =>
        if qz33.1 = (-1) then
          some (Sum.inr (Sum.inr (Sum.inl qz33.2)))
        else
          Option.bind (fM_settles 9 qz33.2) fun Mz35 =>
          some (Sum.inl (x1, 0, Mz35))
      else
        fM_readAny_j33 x1 x2 vz30 M
    else
      fM_readAny_j33 x1 x2 vz30 M
def fM_readAny (M : Mm) : Option (Int32 × Mm) :=
  let Mz1 : Mm := mput M 217 27 0
  Option.bind (lp 1000000 (fun s => fM_readAny_b9 s.1 s.2.1 s.2.2) (0, 1, Mz1)) fun e9 =>
  match e9 with
  | Sum.inl p9 =>
      let Mz43 : Mm := p9
      let qz44 : Int32 × Mm := fM_errs 3 Mz43
      some (qz44.1, qz44.2)
  | Sum.inr (Sum.inl p9) =>
      let Mz45 : Mm := p9
      some ((-1), Mz45)
  | Sum.inr (Sum.inr (Sum.inl p9)) =>
      let Mz46 : Mm := p9
      some (0, Mz46)
  | Sum.inr (Sum.inr (Sum.inr p9)) =>
      let Mz47 : Mm := p9
      let qz48 : Int32 × Mm := fM_errs 1 Mz47
      some (qz48.1, qz48.2)
def fM_isLineWord (M : Mm) : Int32 :=
  if (M 217 13) = 2 then
    let vz1 : Int32 := fM_isIn (M 217 14) 0 2
    if vz1 = 0 then
      0
    else
      1
  else
    0
def fM_readLaw_j92 (z1 : Int32) (z2 : Int32) (M : Mm) : Option ((Int32 × Mm) ⊕ (Mm ⊕ Mm ⊕ Mm ⊕ Mm ⊕ (Int32 × Mm))) :=
  if inb z2 48 then
  let Mz18 : Mm := mput M 229 (jix z2) (M 217 24)
  let vz20 : Int32 := fM_isSign 59 Mz18
  if vz20 = 0 then
    some (Sum.inr (Sum.inr (Sum.inr (Sum.inr (Sum.inl Mz18)))))
  else
    Option.bind (fM_reads Mz18) fun Mz22 =>
    let vz23 : Int32 := (z1 + 1)
    some (Sum.inl (vz23, Mz22))
  else none
def fM_readLaw_b2 (x1 : Int32) (M : Mm) : Option ((Int32 × Mm) ⊕ (Mm ⊕ Mm ⊕ Mm ⊕ Mm ⊕ (Int32 × Mm))) :=
  let vz1 : Int32 := fM_isLineWord M
  if vz1 = 0 then
    some (Sum.inr (Sum.inr (Sum.inr (Sum.inr (Sum.inr (x1, M))))))
  else
    if x1 = 16 then
      some (Sum.inr (Sum.inl M))
    else
      let vz2 : Int32 := (32 + x1)
      if inb vz2 48 then
      let Mz3 : Mm := mput M 226 (jix vz2) (M 217 14)
      Option.bind (fM_reads Mz3) fun Mz6 =>
      if inb vz2 48 then
      let Mz7 : Mm := mput Mz6 227 (jix vz2) (Mz6 217 24)
      Option.bind (fM_readSum Mz7) fun qz10 =>
      if qz10.1 = (-1) then
        some (Sum.inr (Sum.inr (Sum.inl qz10.2)))
      else
        if inb vz2 48 then
        let Mz11 : Mm := mput qz10.2 228 (jix vz2) (qz10.2 217 24)
        let vz13 : Int32 := fM_isWord 3 Mz11
        if vz13 = 0 then
          fM_readLaw_j92 x1 vz2 Mz11
        else
          Option.bind (fM_reads Mz11) fun Mz15 =>
          Option.bind (fM_readAny Mz15) fun qz17 =>
          if qz17.1 = (-1) then
            some (Sum.inr (Sum.inr (Sum.inr (Sum.inl qz17.2))))
          else
            fM_readLaw_j92 x1 vz2 qz17.2
        else none
      else none
      else none
def fM_readLaw (M : Mm) : Option (Int32 × Mm) :=
  Option.bind (lp 1000000 (fun s => fM_readLaw_b2 s.1 s.2) (0, M)) fun e2 =>
  match e2 with
  | Sum.inl p2 =>
      let Mz24 : Mm := p2
      let qz25 : Int32 × Mm := fM_errs 3 Mz24
      some (qz25.1, qz25.2)
  | Sum.inr (Sum.inl p2) =>
      let Mz26 : Mm := p2
      some ((-1), Mz26)
  | Sum.inr (Sum.inr (Sum.inl p2)) =>
      let Mz27 : Mm := p2
      some ((-1), Mz27)
  | Sum.inr (Sum.inr (Sum.inr (Sum.inl p2))) =>
      let Mz28 : Mm := p2
      let qz29 : Int32 × Mm := fM_errs 1 Mz28
      some (qz29.1, qz29.2)
  | Sum.inr (Sum.inr (Sum.inr (Sum.inr p2))) =>
      let yz30 : Int32 := p2.1
      let Mz31 : Mm := p2.2
      if (Mz31 217 13) = 0 then
        some (yz30, Mz31)
      else
        let qz32 : Int32 × Mm := fM_errs 1 Mz31
        some (qz32.1, qz32.2)
def fM_takesLaw_b2 (x1 : Int32) (x2 : Int32) (M : Mm) : Option ((Int32 × Mm) ⊕ Mm) :=
  if x1 ≤ x2 then
    some (Sum.inr M)
  else
    if inb (32 + x2) 48 then
    if inb ((16 * (M 217 23)) + x2) 48 then
    let Mz2 : Mm := mput M 226 (jix ((16 * (M 217 23)) + x2)) (M 226 (jix (32 + x2)))
    if inb (32 + x2) 48 then
    if inb ((16 * (Mz2 217 23)) + x2) 48 then
    let Mz5 : Mm := mput Mz2 227 (jix ((16 * (Mz2 217 23)) + x2)) (Mz2 227 (jix (32 + x2)))
    if inb (32 + x2) 48 then
    if inb ((16 * (Mz5 217 23)) + x2) 48 then
    let Mz8 : Mm := mput Mz5 228 (jix ((16 * (Mz5 217 23)) + x2)) (Mz5 228 (jix (32 + x2)))
    if inb (32 + x2) 48 then
    if inb ((16 * (Mz8 217 23)) + x2) 48 then
    let Mz11 : Mm := mput Mz8 229 (jix ((16 * (Mz8 217 23)) + x2)) (Mz8 229 (jix (32 + x2)))
    some (Sum.inl ((x2 + 1), Mz11))
    else none
    else none
    else none
    else none
    else none
    else none
    else none
    else none
def fM_takesLaw_b107 (x1 : Int32) (x2 : Int32) (M : Mm) : Option ((Int32 × Mm) ⊕ Mm) :=
  if (M 217 24) ≤ x2 then
    some (Sum.inr M)
  else
    if inb (800 + x2) 1200 then
    if inb ((400 * (M 217 23)) + x2) 1200 then
    let Mz15 : Mm := mput M 230 (jix ((400 * (M 217 23)) + x2)) (M 230 (jix (800 + x2)))
    if inb (800 + x2) 1200 then
    if inb ((400 * (Mz15 217 23)) + x2) 1200 then
    let Mz18 : Mm := mput Mz15 231 (jix ((400 * (Mz15 217 23)) + x2)) (Mz15 231 (jix (800 + x2)))
    some (Sum.inl ((x2 + 1), Mz18))
    else none
    else none
    else none
    else none
def fM_takesLaw (x1 : Int32) (M : Mm) : Option Mm :=
  Option.bind (lp 1000000 (fun s => fM_takesLaw_b2 x1 s.1 s.2) (0, M)) fun e2 =>
  let Mz13 : Mm := e2
  Option.bind (lp 1000000 (fun s => fM_takesLaw_b107 x1 s.1 s.2) (0, Mz13)) fun e107 =>
  let Mz20 : Mm := e107
  if inb (Mz20 217 23) 2 then
  let Mz21 : Mm := mput Mz20 225 (jix (Mz20 217 23)) x1
  some Mz21
  else none
def fM_readNumber (x1 : Int32) (x2 : Int32) (M : Mm) : Option (Int32 × Mm) :=
  if (M 217 13) = 3 then
    let vz1 : Int32 := fM_isIn (M 217 14) x1 x2
    if vz1 = 0 then
      let qz5 : Int32 × Mm := fM_errs 2 M
      some (qz5.1, qz5.2)
    else
      let vz2 : Int32 := (M 217 14)
      Option.bind (fM_reads M) fun Mz4 =>
      some (vz2, Mz4)
  else
    let qz6 : Int32 × Mm := fM_errs 1 M
    some (qz6.1, qz6.2)
def fM_readMark (x1 : Int32) (M : Mm) : Option (Int32 × Mm) :=
  let vz1 : Int32 := fM_isSign x1 M
  if vz1 = 0 then
    let qz4 : Int32 × Mm := fM_errs 1 M
    some (qz4.1, qz4.2)
  else
    Option.bind (fM_reads M) fun Mz3 =>
    some (0, Mz3)
def fM_readTold (x1 : Int32) (x2 : Int32) (x3 : Int32) (M : Mm) : Option (Int32 × Mm) :=
  let vz1 : Int32 := fM_isWord x1 M
  if vz1 = 0 then
    let qz6 : Int32 × Mm := fM_errs 1 M
    some (qz6.1, qz6.2)
  else
    Option.bind (fM_reads M) fun Mz3 =>
    Option.bind (fM_readNumber x2 x3 Mz3) fun qz5 =>
    some (qz5.1, qz5.2)
def fM_readPostLine (x1 : Int32) (M : Mm) : Option (Int32 × Mm) :=
  Option.bind (fM_readTold 18 0 999 M) fun qz2 =>
  if inb x1 128 then
  let Mz3 : Mm := mput qz2.2 233 (jix x1) qz2.1
  if inb x1 128 then
  if (Mz3 233 (jix x1)) = (-1) then
    some ((-1), Mz3)
  else
    Option.bind (fM_readTold 19 0 ((Mz3 217 6) - 1) Mz3) fun qz7 =>
    if inb (x1 + 1) 128 then
    let Mz8 : Mm := mput qz7.2 233 (jix (x1 + 1)) qz7.1
    if inb (x1 + 1) 128 then
    if (Mz8 233 (jix (x1 + 1))) = (-1) then
      some ((-1), Mz8)
    else
      if (Mz8 217 13) = 2 then
        let vz12 : Int32 := fM_isIn (Mz8 217 14) 22 28
        if vz12 = 0 then
          let qz24 : Int32 × Mm := fM_errs 1 Mz8
          some (qz24.1, qz24.2)
        else
          if inb (x1 + 2) 128 then
          let Mz13 : Mm := mput Mz8 233 (jix (x1 + 2)) ((Mz8 217 14) - 22)
          Option.bind (fM_reads Mz13) fun Mz16 =>
          Option.bind (fM_readNumber 1 99 Mz16) fun qz18 =>
          if inb (x1 + 3) 128 then
          let Mz19 : Mm := mput qz18.2 233 (jix (x1 + 3)) qz18.1
          if inb (x1 + 3) 128 then
          if (Mz19 233 (jix (x1 + 3))) = (-1) then
            some ((-1), Mz19)
          else
            Option.bind (fM_readMark 59 Mz19) fun qz23 =>
            some (qz23.1, qz23.2)
          else none
          else none
          else none
      else
        let qz11 : Int32 × Mm := fM_errs 1 Mz8
        some (qz11.1, qz11.2)
    else none
    else none
  else none
  else none
def fM_readPost_b2 (x1 : Int32) (M : Mm) : Option ((Int32 × Mm) ⊕ (Mm ⊕ Mm ⊕ (Int32 × Mm))) :=
  let vz1 : Int32 := fM_isWord 18 M
  if vz1 = 0 then
    some (Sum.inr (Sum.inr (Sum.inr (x1, M))))
  else
    if x1 = 16 then
      some (Sum.inr (Sum.inl M))
    else
      Option.bind (fM_readPostLine (64 + (4 * x1)) M) fun qz3 =>
      if qz3.1 = (-1) then
        some (Sum.inr (Sum.inr (Sum.inl qz3.2)))
      else
        let vz4 : Int32 := (x1 + 1)
        some (Sum.inl (vz4, qz3.2))
def fM_readPost (M : Mm) : Option (Int32 × Mm) :=
  Option.bind (lp 1000000 (fun s => fM_readPost_b2 s.1 s.2) (0, M)) fun e2 =>
  match e2 with
  | Sum.inl p2 =>
      let Mz5 : Mm := p2
      let qz6 : Int32 × Mm := fM_errs 3 Mz5
      some (qz6.1, qz6.2)
  | Sum.inr (Sum.inl p2) =>
      let Mz7 : Mm := p2
      some ((-1), Mz7)
  | Sum.inr (Sum.inr p2) =>
      let yz8 : Int32 := p2.1
      let Mz9 : Mm := p2.2
      if (Mz9 217 13) = 0 then
        some (yz8, Mz9)
      else
        let qz10 : Int32 × Mm := fM_errs 1 Mz9
        some (qz10.1, qz10.2)
def fM_readRound_b2 (x1 : Int32) (M : Mm) : Option ((Int32 × Mm) ⊕ (Mm ⊕ Mm ⊕ (Int32 × Mm))) :=
  let vz1 : Int32 := fM_isWord 20 M
  if vz1 = 0 then
    some (Sum.inr (Sum.inr (Sum.inr (x1, M))))
  else
    if x1 = 16 then
      some (Sum.inr (Sum.inl M))
    else
      Option.bind (fM_readTold 20 0 ((M 217 6) - 1) M) fun qz3 =>
      if inb (16 + x1) 32 then
      let Mz4 : Mm := mput qz3.2 234 (jix (16 + x1)) qz3.1
      if inb (16 + x1) 32 then
      if (Mz4 234 (jix (16 + x1))) = (-1) then
        some (Sum.inr (Sum.inr (Sum.inl Mz4)))
      else
        Option.bind (fM_readMark 59 Mz4) fun qz8 =>
        if qz8.1 = (-1) then
          some (Sum.inr (Sum.inr (Sum.inl qz8.2)))
        else
          let vz9 : Int32 := (x1 + 1)
          some (Sum.inl (vz9, qz8.2))
      else none
      else none
def fM_readRound (M : Mm) : Option (Int32 × Mm) :=
  Option.bind (lp 1000000 (fun s => fM_readRound_b2 s.1 s.2) (0, M)) fun e2 =>
  match e2 with
  | Sum.inl p2 =>
      let Mz10 : Mm := p2
      let qz11 : Int32 × Mm := fM_errs 3 Mz10
      some (qz11.1, qz11.2)
  | Sum.inr (Sum.inl p2) =>
      let Mz12 : Mm := p2
      some ((-1), Mz12)
  | Sum.inr (Sum.inr p2) =>
      let yz13 : Int32 := p2.1
      let Mz14 : Mm := p2.2
      if (Mz14 217 13) = 0 then
        some (yz13, Mz14)
      else
        let qz15 : Int32 × Mm := fM_errs 1 Mz14
        some (qz15.1, qz15.2)
def fM_takesStreet_j19 (z1 : Int32) (z2 : Int32) (M : Mm) : Option Mm :=
  if inb z1 288 then
  let Mz3 : Mm := mput M 235 (jix z1) z2
  some Mz3
  else none
def fM_takesStreet (x1 : Int32) (x2 : Int32) (M : Mm) : Option Mm :=
  if inb x1 288 then
  if (M 235 (jix x1)) = 0 then
    fM_takesStreet_j19 x1 x2 M
  else
    if inb x1 288 then
    if (M 235 (jix x1)) ≤ x2 then
      some M
    else
      fM_takesStreet_j19 x1 x2 M
    else none
  else none
def fM_readStreet_j43 (z1 : Int32) (M : Mm) : Option (Int32 × Mm) :=
  Option.bind (fM_readNumber 0 ((M 217 6) - 1) M) fun qz5 =>
  if qz5.1 = (-1) then
    some ((-1), qz5.2)
  else
    Option.bind (fM_readNumber 1 99 qz5.2) fun qz7 =>
    if qz7.1 = (-1) then
      some ((-1), qz7.2)
    else
      Option.bind (fM_takesStreet ((144 + (12 * z1)) + qz5.1) qz7.1 qz7.2) fun Mz9 =>
      Option.bind (fM_takesStreet ((144 + (12 * qz5.1)) + z1) qz7.1 Mz9) fun Mz11 =>
      Option.bind (fM_readMark 59 Mz11) fun qz13 =>
      some (qz13.1, qz13.2)
def fM_readStreet (M : Mm) : Option (Int32 × Mm) :=
  Option.bind (fM_readTold 21 0 ((M 217 6) - 1) M) fun qz2 =>
  if qz2.1 = (-1) then
    some ((-1), qz2.2)
  else
    if (qz2.2 217 13) = 3 then
      if (qz2.2 217 14) = qz2.1 then
        let qz3 : Int32 × Mm := fM_errs 2 qz2.2
        some (qz3.1, qz3.2)
      else
        fM_readStreet_j43 qz2.1 qz2.2
    else
      fM_readStreet_j43 qz2.1 qz2.2
def fM_readStreets_b2 (x1 : Int32) (M : Mm) : Option ((Int32 × Mm) ⊕ Mm) :=
  if 144 ≤ x1 then
    some (Sum.inr M)
  else
    if inb (144 + x1) 288 then
    let Mz1 : Mm := mput M 235 (jix (144 + x1)) 0
    some (Sum.inl ((x1 + 1), Mz1))
    else none
def fM_readStreets_b28 (x1 : Int32) (M : Mm) : Option ((Int32 × Mm) ⊕ (Mm ⊕ Mm ⊕ (Int32 × Mm))) :=
  let vz4 : Int32 := fM_isWord 21 M
  if vz4 = 0 then
    some (Sum.inr (Sum.inr (Sum.inr (x1, M))))
  else
    if x1 = 16 then
      some (Sum.inr (Sum.inl M))
    else
      Option.bind (fM_readStreet M) fun qz6 =>
      if qz6.1 = (-1) then
        some (Sum.inr (Sum.inr (Sum.inl qz6.2)))
      else
        let vz7 : Int32 := (x1 + 1)
        some (Sum.inl (vz7, qz6.2))
def fM_readStreets (M : Mm) : Option (Int32 × Mm) :=
  Option.bind (lp 1000000 (fun s => fM_readStreets_b2 s.1 s.2) (0, M)) fun e2 =>
  let Mz3 : Mm := e2
  Option.bind (lp 1000000 (fun s => fM_readStreets_b28 s.1 s.2) (0, Mz3)) fun e28 =>
  match e28 with
  | Sum.inl p28 =>
      let Mz8 : Mm := p28
      let qz9 : Int32 × Mm := fM_errs 3 Mz8
      some (qz9.1, qz9.2)
  | Sum.inr (Sum.inl p28) =>
      let Mz10 : Mm := p28
      some ((-1), Mz10)
  | Sum.inr (Sum.inr p28) =>
      let yz11 : Int32 := p28.1
      let Mz12 : Mm := p28.2
      if (Mz12 217 13) = 0 then
        some (yz11, Mz12)
      else
        let qz13 : Int32 × Mm := fM_errs 1 Mz12
        some (qz13.1, qz13.2)
def fM_readsText (x1 : Int32) (M : Mm) : Option (Int32 × Mm) :=
  let Mz1 : Mm := mput M 217 23 0
  Option.bind (fM_reads Mz1) fun Mz3 =>
  if x1 = 1 then
    Option.bind (fM_readPost Mz3) fun qz11 =>
    some (qz11.1, qz11.2)
  else
    if x1 = 2 then
      Option.bind (fM_readRound Mz3) fun qz9 =>
      some (qz9.1, qz9.2)
    else
      if x1 = 3 then
        Option.bind (fM_readStreets Mz3) fun qz7 =>
        some (qz7.1, qz7.2)
      else
        Option.bind (fM_readLaw Mz3) fun qz5 =>
        some (qz5.1, qz5.2)
def fM_takesOther_b7 (x2 : Int32) (x3 : Int32) (M : Mm) : Option ((Int32 × Mm) ⊕ Mm) :=
  if 144 ≤ x3 then
    some (Sum.inr M)
  else
    if inb (144 + x3) 288 then
    if inb x3 288 then
    let Mz14 : Mm := mput M 235 (jix x3) (M 235 (jix (144 + x3)))
    some (Sum.inl ((x3 + 1), Mz14))
    else none
    else none
def fM_takesOther_b49 (x2 : Int32) (x3 : Int32) (M : Mm) : Option ((Int32 × Mm) ⊕ Mm) :=
  if (4 * x2) ≤ x3 then
    some (Sum.inr M)
  else
    if inb (64 + x3) 128 then
    if inb x3 128 then
    let Mz8 : Mm := mput M 233 (jix x3) (M 233 (jix (64 + x3)))
    some (Sum.inl ((x3 + 1), Mz8))
    else none
    else none
def fM_takesOther_b87 (x2 : Int32) (x3 : Int32) (M : Mm) : Option ((Int32 × Mm) ⊕ Mm) :=
  if x2 ≤ x3 then
    some (Sum.inr M)
  else
    if inb (16 + x3) 32 then
    if inb x3 32 then
    let Mz2 : Mm := mput M 234 (jix x3) (M 234 (jix (16 + x3)))
    some (Sum.inl ((x3 + 1), Mz2))
    else none
    else none
def fM_takesOther (x1 : Int32) (x2 : Int32) (M : Mm) : Option Mm :=
  if x1 = 3 then
    Option.bind (lp 1000000 (fun s => fM_takesOther_b7 x2 s.1 s.2) (0, M)) fun e7 =>
    let Mz16 : Mm := e7
    let Mz17 : Mm := mput Mz16 217 36 x2
    some Mz17
  else
    if x1 = 1 then
      Option.bind (lp 1000000 (fun s => fM_takesOther_b49 x2 s.1 s.2) (0, M)) fun e49 =>
      let Mz10 : Mm := e49
      let Mz11 : Mm := mput Mz10 217 32 x2
      let Mz12 : Mm := mput Mz11 217 3 0
      some Mz12
    else
      Option.bind (lp 1000000 (fun s => fM_takesOther_b87 x2 s.1 s.2) (0, M)) fun e87 =>
      let Mz4 : Mm := e87
      let Mz5 : Mm := mput Mz4 217 34 x2
      let Mz6 : Mm := mput Mz5 217 3 0
      some Mz6
def fM_text (x1 : Int32) (M : Mm) : Option (Int32 × Mm) :=
  let Mz1 : Mm := mput M 217 0 0
  let Mz2 : Mm := mput Mz1 217 30 0
  let Mz3 : Mm := mput Mz2 217 31 (-1)
  let Mz4 : Mm := mput Mz3 217 11 0
  let Mz5 : Mm := mput Mz4 217 24 0
  let Mz6 : Mm := mput Mz5 217 25 0
  let vz7 : Int32 := fM_isIn x1 0 3
  Option.bind (α := (Int32 × Mm)) (
    if vz7 = 0 then
      some ((-1), Mz6)
    else
      Option.bind (fM_readsText x1 Mz6) fun qz9 =>
      if qz9.1 = (-1) then
        let Mz10 : Mm := mput qz9.2 217 30 (qz9.2 217 28)
        let Mz11 : Mm := mput Mz10 217 31 (Mz10 217 29)
        some (qz9.1, Mz11)
      else
        some (qz9.1, qz9.2)) fun t69 =>
  let yz12 : Int32 := t69.1
  let Mz13 : Mm := t69.2
  let Mz14 : Mm := mput Mz13 217 10 0
  if yz12 = (-1) then
    some ((-1), Mz14)
  else
    if x1 = 0 then
      Option.bind (fM_takesLaw yz12 Mz14) fun Mz18 =>
      some (yz12, Mz18)
    else
      Option.bind (fM_takesOther x1 yz12 Mz14) fun Mz16 =>
      some (yz12, Mz16)
def fM_fault (x1 : Int32) (M : Mm) : (Int32 × Mm) :=
  let Mz1 : Mm := mput M 217 0 0
  if x1 = 0 then
    ((Mz1 217 30), Mz1)
  else
    if x1 = 1 then
      ((Mz1 217 31), Mz1)
    else
      ((-1), Mz1)
def fM_twoOf (x1 : Int32) (x2 : Int32) (x3 : Int32) : Option Int32 :=
  if x1 = 2 then
    some (x2 + x3)
  else
    if x1 = 3 then
      some (x2 - x3)
    else
      if x1 = 4 then
        some (x2 * x3)
      else
        if x1 = 5 then
          if ¬ x3 = 0 then
          some (x2 / x3)
          else none
        else
          if x1 = 6 then
            if x3 ≤ x2 then
              some 0
            else
              some 1
          else
            if x1 = 7 then
              if x2 = x3 then
                some 1
              else
                some 0
            else
              if x1 = 8 then
                if x2 ≤ x3 then
                  some 0
                else
                  some 1
              else
                if x1 = 10 then
                  some (x2 * x3)
                else
                  if (x2 + x3) ≤ 0 then
                    some 0
                  else
                    some 1
def fM_runs_b12 (x1 : Int32) (x3 : Int32) (x4 : Int32) (x5 : Int32) (M : Mm) : Option ((Int32 × Int32 × Mm) ⊕ Mm) :=
  if ((400 * x1) + x3) ≤ x5 then
    some (Sum.inr M)
  else
    if inb x5 1200 then
    Option.bind (α := (Int32 × Mm)) (
      if (M 230 (jix x5)) = 0 then
        if inb x5 1200 then
        Option.bind (α := Int32) (
          if (M 230 (jix x5)) = 0 then
            if inb x5 1200 then
            some (M 231 (jix x5))
            else none
          else
            if inb x5 1200 then
            if inb (M 231 (jix x5)) 11 then
            some (M 236 (jix (M 231 (jix x5))))
            else none
            else none) fun yz7 =>
        if inb x4 420 then
        let Mz8 : Mm := mput M 237 (jix x4) yz7
        let vz10 : Int32 := (x4 + 1)
        some (vz10, Mz8)
        else none
        else none
      else
        if inb x5 1200 then
        if (M 230 (jix x5)) = 1 then
          if inb x5 1200 then
          Option.bind (α := Int32) (
            if (M 230 (jix x5)) = 0 then
              if inb x5 1200 then
              some (M 231 (jix x5))
              else none
            else
              if inb x5 1200 then
              if inb (M 231 (jix x5)) 11 then
              some (M 236 (jix (M 231 (jix x5))))
              else none
              else none) fun yz28 =>
          if inb x4 420 then
          let Mz29 : Mm := mput M 237 (jix x4) yz28
          let vz31 : Int32 := (x4 + 1)
          some (vz31, Mz29)
          else none
          else none
        else
          if inb x5 1200 then
          if (M 230 (jix x5)) = 9 then
            if inb (x4 - 1) 420 then
            if inb (x4 - 1) 420 then
            let Mz22 : Mm := mput M 237 (jix (x4 - 1)) (1 - (M 237 (jix (x4 - 1))))
            some (x4, Mz22)
            else none
            else none
          else
            let vz13 : Int32 := (x4 - 1)
            if inb x5 1200 then
            if inb (vz13 - 1) 420 then
            if inb vz13 420 then
            Option.bind (fM_twoOf (M 230 (jix x5)) (M 237 (jix (vz13 - 1))) (M 237 (jix vz13))) fun qz18 =>
            if inb (vz13 - 1) 420 then
            let Mz19 : Mm := mput M 237 (jix (vz13 - 1)) qz18
            some (vz13, Mz19)
            else none
            else none
            else none
            else none
          else none
        else none) fun t170 =>
    let yz32 : Int32 := t170.1
    let Mz33 : Mm := t170.2
    some (Sum.inl (yz32, (x5 + 1), Mz33))
    else none
def fM_runs (x1 : Int32) (x2 : Int32) (x3 : Int32) (M : Mm) : Option (Int32 × Mm) :=
  let vz1 : Int32 := ((400 * x1) + x2)
  Option.bind (lp 1000000 (fun s => fM_runs_b12 x1 x3 s.1 s.2.1 s.2.2) (0, vz1, M)) fun e12 =>
  let Mz34 : Mm := e12
  some ((Mz34 237 0), Mz34)
def fM_lineOf_j59 (x1 : Int32) (z2 : Int32) (M : Mm) : Option ((Int32 × Mm) ⊕ ((Int32 × Mm) ⊕ Mm)) :=
  some (Sum.inl ((z2 + 1), M))
def fM_lineOf_b2 (x1 : Int32) (x2 : Int32) (M : Mm) : Option ((Int32 × Mm) ⊕ ((Int32 × Mm) ⊕ Mm)) :=
  if (M 225 0) ≤ x2 then
    some (Sum.inr (Sum.inr M))
  else
    if inb x2 48 then
    if (M 226 (jix x2)) = x1 then
      if inb x2 48 then
      if inb x2 48 then
      if (M 228 (jix x2)) = (M 229 (jix x2)) then
        some (Sum.inr (Sum.inl (x2, M)))
      else
        if inb x2 48 then
        if inb x2 48 then
        Option.bind (fM_runs 0 (M 228 (jix x2)) (M 229 (jix x2)) M) fun qz7 =>
        if qz7.1 = 0 then
          fM_lineOf_j59 x1 x2 qz7.2
        else
          some (Sum.inr (Sum.inl (x2, qz7.2)))
        else none
        else none
      else none
      else none
    else
      fM_lineOf_j59 x1 x2 M
    else none
def fM_lineOf (x1 : Int32) (M : Mm) : Option (Int32 × Mm) :=
  Option.bind (lp 1000000 (fun s => fM_lineOf_b2 x1 s.1 s.2) (0, M)) fun e2 =>
  match e2 with
  | Sum.inl p2 =>
      let yz8 : Int32 := p2.1
      let Mz9 : Mm := p2.2
      some (yz8, Mz9)
  | Sum.inr p2 =>
      let Mz10 : Mm := p2
      some ((-1), Mz10)
def fM_asks (x1 : Int32) (x2 : Int32) (x3 : Int32) (x4 : Int32) (M : Mm) : Option Mm :=
  let Mz1 : Mm := mput M 236 0 x2
  let Mz2 : Mm := mput Mz1 236 1 x3
  let Mz3 : Mm := mput Mz2 236 2 x4
  if inb (18 + x1) 174 then
  let Mz5 : Mm := mput Mz3 236 3 (Mz3 218 (jix (18 + x1)))
  if inb x1 12 then
  let Mz7 : Mm := mput Mz5 236 4 (Mz5 221 (jix x1))
  if inb (30 + x1) 174 then
  let Mz9 : Mm := mput Mz7 236 5 (Mz7 218 (jix (30 + x1)))
  let vz10 : Int32 := fM_health Mz9
  let Mz11 : Mm := mput Mz9 236 6 vz10
  let Mz12 : Mm := mput Mz11 236 7 (Mz11 218 5)
  let Mz13 : Mm := mput Mz12 236 8 (Mz12 218 3)
  let Mz14 : Mm := mput Mz13 236 9 (Mz13 218 8)
  let Mz15 : Mm := mput Mz14 236 10 (Mz14 218 0)
  some Mz15
  else none
  else none
  else none
def fM_lawTells (x1 : Int32) (x2 : Int32) (x3 : Int32) (M : Mm) : Option (Int32 × Mm) :=
  Option.bind (fM_lineOf x1 M) fun qz2 =>
  if qz2.1 = (-1) then
    let vz8 : Int32 := fM_held x2 0 x3
    some (vz8, qz2.2)
  else
    if inb qz2.1 48 then
    if inb qz2.1 48 then
    Option.bind (fM_runs 0 (qz2.2 227 (jix qz2.1)) (qz2.2 228 (jix qz2.1)) qz2.2) fun qz6 =>
    let vz7 : Int32 := fM_held qz6.1 0 x3
    some (vz7, qz6.2)
    else none
    else none
def fM_opensNow (M : Mm) : Option (Int32 × Mm) :=
  Option.bind (fM_lawTells 0 ((900 - (100 * (M 218 8))) + (20 * (M 236 3))) 1000 M) fun qz2 =>
  some (qz2.1, qz2.2)
def fM_givesNow (M : Mm) : Option (Int32 × Mm) :=
  Option.bind (fM_lawTells 1 (M 236 1) 99 M) fun qz2 =>
  some (qz2.1, qz2.2)
def fM_tiresNow (M : Mm) : Option (Int32 × Mm) :=
  Option.bind (fM_lawTells 2 1 20 M) fun qz2 =>
  some (qz2.1, qz2.2)
def fM_asksOf (x1 : Int32) (M : Mm) : Option Mm :=
  let vz1 : Int32 := fM_letterAt x1
  if inb (vz1 + 1) 174 then
  if inb (vz1 + 2) 174 then
  if inb (vz1 + 3) 174 then
  if inb (vz1 + 4) 174 then
  Option.bind (fM_asks (M 218 (jix (vz1 + 1))) (M 218 (jix (vz1 + 2))) (M 218 (jix (vz1 + 3))) (M 218 (jix (vz1 + 4))) M) fun Mz7 =>
  some Mz7
  else none
  else none
  else none
  else none
def fM_notes (x1 : Int32) (x2 : Int32) (x3 : Int32) (M : Mm) : Option Mm :=
  if (M 217 5) = 0 then
    if (M 218 2) = 150 then
      some M
    else
      let vz1 : Int32 := (4 * (M 218 2))
      if inb vz1 600 then
      let Mz2 : Mm := mput M 222 (jix vz1) (M 218 0)
      if inb (vz1 + 1) 600 then
      let Mz4 : Mm := mput Mz2 222 (jix (vz1 + 1)) x1
      if inb (vz1 + 2) 600 then
      let Mz6 : Mm := mput Mz4 222 (jix (vz1 + 2)) x2
      if inb (vz1 + 3) 600 then
      let Mz8 : Mm := mput Mz6 222 (jix (vz1 + 3)) x3
      let Mz10 : Mm := mput Mz8 218 2 ((Mz8 218 2) + 1)
      some Mz10
      else none
      else none
      else none
      else none
  else
    some M
def fM_comes (x1 : Int32) (x2 : Int32) (x3 : Int32) (M : Mm) : Option (Int32 × Mm) :=
  let vz1 : Int32 := fM_letterAt (M 218 10)
  if inb vz1 174 then
  let Mz2 : Mm := mput M 218 (jix vz1) (M 218 9)
  if inb (vz1 + 1) 174 then
  let Mz4 : Mm := mput Mz2 218 (jix (vz1 + 1)) x1
  if inb (vz1 + 2) 174 then
  let Mz6 : Mm := mput Mz4 218 (jix (vz1 + 2)) x2
  if inb (vz1 + 3) 174 then
  let Mz8 : Mm := mput Mz6 218 (jix (vz1 + 3)) x3
  if inb (vz1 + 4) 174 then
  let Mz10 : Mm := mput Mz8 218 (jix (vz1 + 4)) 0
  let Mz12 : Mm := mput Mz10 218 10 ((Mz10 218 10) + 1)
  let Mz13 : Mm := mput Mz12 218 9 ((Mz12 218 9) + 1)
  if inb vz1 174 then
  Option.bind (fM_notes 0 (Mz13 218 (jix vz1)) x1 Mz13) fun Mz16 =>
  if inb vz1 174 then
  some ((Mz16 218 (jix vz1)), Mz16)
  else none
  else none
  else none
  else none
  else none
  else none
  else none
def fM_goesOut_b22 (x2 : Int32) (M : Mm) : Option ((Int32 × Mm) ⊕ Mm) :=
  let vz3 : Int32 := fM_letterAt (M 218 10)
  if vz3 ≤ x2 then
    some (Sum.inr M)
  else
    if inb (x2 + 5) 174 then
    if inb x2 174 then
    let Mz5 : Mm := mput M 218 (jix x2) (M 218 (jix (x2 + 5)))
    some (Sum.inl ((x2 + 1), Mz5))
    else none
    else none
def fM_goesOut (x1 : Int32) (M : Mm) : Option Mm :=
  let Mz1 : Mm := mput M 218 10 ((M 218 10) - 1)
  let vz2 : Int32 := fM_letterAt x1
  Option.bind (lp 1000000 (fun s => fM_goesOut_b22 s.1 s.2) (vz2, Mz1)) fun e22 =>
  let Mz7 : Mm := e22
  some Mz7
def fM_looks (x1 : Int32) (x2 : Int32) (M : Mm) : Option Mm :=
  if inb (18 + x1) 174 then
  let vz2 : Int32 := fM_held ((M 218 (jix (18 + x1))) + x2) (-9) 9
  if inb (18 + x1) 174 then
  let Mz3 : Mm := mput M 218 (jix (18 + x1)) vz2
  some Mz3
  else none
  else none
def fM_changes (x1 : Int32) (x2 : Int32) (x3 : Int32) (M : Mm) : Option Mm :=
  Option.bind (α := Mm) (
    if x2 = 0 then
      Option.bind (fM_looks x1 (-1) M) fun Mz2 =>
      some Mz2
    else
      if x2 = 1 then
        Option.bind (fM_looks x1 (-1) M) fun Mz4 =>
        some Mz4
      else
        if x2 = 3 then
          Option.bind (fM_looks x1 (-1) M) fun Mz6 =>
          some Mz6
        else
          some M) fun Mz7 =>
  Option.bind (α := Mm) (
    if x2 = 2 then
      Option.bind (fM_looks x1 1 Mz7) fun Mz9 =>
      some Mz9
    else
      some Mz7) fun Mz10 =>
  Option.bind (α := Mm) (
    if x2 = 6 then
      Option.bind (fM_looks x1 2 Mz10) fun Mz12 =>
      some Mz12
    else
      some Mz10) fun Mz13 =>
  Option.bind (α := Mm) (
    if x2 = 3 then
      let vz14 : Int32 := fM_health Mz13
      let Mz15 : Mm := fM_hasHealth (vz14 - x3) Mz13
      some Mz15
    else
      some Mz13) fun Mz16 =>
  if x2 = 4 then
    let vz17 : Int32 := fM_greater 0 ((Mz16 218 5) - x3)
    let Mz18 : Mm := mput Mz16 218 5 vz17
    some Mz18
  else
    some Mz16
def fM_isGiven (x1 : Int32) (x2 : Int32) (x3 : Int32) (x4 : Int32) (M : Mm) : Option Mm :=
  if inb (11 + x2) 174 then
  if inb (11 + x2) 174 then
  let Mz2 : Mm := mput M 218 (jix (11 + x2)) ((M 218 (jix (11 + x2))) + x4)
  Option.bind (α := Mm) (
    if x2 = 1 then
      if inb (30 + x1) 174 then
      if inb (30 + x1) 174 then
      let Mz5 : Mm := mput Mz2 218 (jix (30 + x1)) ((Mz2 218 (jix (30 + x1))) - x4)
      some Mz5
      else none
      else none
    else
      some Mz2) fun Mz7 =>
  Option.bind (fM_changes x1 x2 x4 Mz7) fun Mz9 =>
  Option.bind (α := Mm) (
    if x2 = 0 then
      if x3 < 50 then
        some Mz9
      else
        let Mz10 : Mm := mput Mz9 218 6 ((Mz9 218 6) + 1)
        let vz11 : Int32 := fM_health Mz10
        let Mz12 : Mm := fM_hasHealth (vz11 + 5) Mz10
        some Mz12
    else
      some Mz9) fun Mz13 =>
  if inb (42 + x1) 174 then
  if inb (42 + x1) 174 then
  let Mz15 : Mm := mput Mz13 218 (jix (42 + x1)) ((Mz13 218 (jix (42 + x1))) + 1)
  some Mz15
  else none
  else none
  else none
  else none
def fM_isOpen (x1 : Int32) (M : Mm) : Option (Int32 × Mm) :=
  if (M 217 5) = 0 then
    Option.bind (fM_draw 1000 M) fun qz2 =>
    if x1 ≤ qz2.1 then
      some (0, qz2.2)
    else
      some (1, qz2.2)
  else
    if (2 * x1) < 1000 then
      some (0, M)
    else
      some (1, M)
def fM_brings (x1 : Int32) (M : Mm) : Option (Int32 × Mm) :=
  let vz1 : Int32 := fM_letterAt x1
  if inb vz1 174 then
  let vz3 : Int32 := (M 218 (jix vz1))
  if inb (vz1 + 1) 174 then
  let vz5 : Int32 := (M 218 (jix (vz1 + 1)))
  if inb (vz1 + 2) 174 then
  let vz7 : Int32 := (M 218 (jix (vz1 + 2)))
  if inb (vz1 + 3) 174 then
  let vz9 : Int32 := (M 218 (jix (vz1 + 3)))
  if inb (vz1 + 4) 174 then
  let vz11 : Int32 := (M 218 (jix (vz1 + 4)))
  Option.bind (fM_asksOf x1 M) fun Mz13 =>
  Option.bind (fM_opensNow Mz13) fun qz15 =>
  Option.bind (fM_isOpen qz15.1 qz15.2) fun qz17 =>
  Option.bind (α := (Int32 × Mm)) (
    if qz17.1 = 0 then
      Option.bind (fM_notes 2 vz3 vz5 qz17.2) fun Mz19 =>
      some ((-1), Mz19)
    else
      Option.bind (fM_asksOf x1 qz17.2) fun Mz21 =>
      Option.bind (α := (Int32 × Mm)) (
        if vz7 = 1 then
          Option.bind (fM_givesNow Mz21) fun qz25 =>
          if inb (30 + vz5) 174 then
          let vz27 : Int32 := fM_lesser qz25.1 (qz25.2 218 (jix (30 + vz5)))
          some (vz27, qz25.2)
          else none
        else
          Option.bind (fM_givesNow Mz21) fun qz23 =>
          some (qz23.1, qz23.2)) fun t108 =>
      let yz28 : Int32 := t108.1
      let Mz29 : Mm := t108.2
      Option.bind (fM_isGiven vz5 vz7 vz9 yz28 Mz29) fun Mz31 =>
      Option.bind (fM_goesOut x1 Mz31) fun Mz33 =>
      Option.bind (fM_notes 1 vz3 yz28 Mz33) fun Mz35 =>
      some (yz28, Mz35)) fun t146 =>
  let yz36 : Int32 := t146.1
  let Mz37 : Mm := t146.2
  Option.bind (fM_asks vz5 vz7 vz9 vz11 Mz37) fun Mz39 =>
  Option.bind (fM_tiresNow Mz39) fun qz41 =>
  let vz42 : Int32 := fM_lesser 99 ((Mz39 218 3) + qz41.1)
  let Mz43 : Mm := mput qz41.2 218 3 vz42
  some (yz36, Mz43)
  else none
  else none
  else none
  else none
  else none
def fM_post (x1 : Int32) (x2 : Int32) (x3 : Int32) (M : Mm) : Option (Int32 × Mm) :=
  let Mz1 : Mm := mput M 217 0 0
  let vz2 : Int32 := fM_isDoor x1 Mz1
  if vz2 = 0 then
    some ((-1), Mz1)
  else
    let vz3 : Int32 := fM_isIn x2 0 6
    if vz3 = 0 then
      some ((-1), Mz1)
    else
      let vz4 : Int32 := fM_isIn x3 1 99
      if vz4 = 0 then
        some ((-1), Mz1)
      else
        if (Mz1 218 10) = 24 then
          some ((-1), Mz1)
        else
          Option.bind (fM_keepsAhead Mz1) fun Mz6 =>
          Option.bind (fM_comes x1 x2 x3 Mz6) fun qz8 =>
          some (qz8.1, qz8.2)
def fM_bring_b17 (x1 : Int32) (M : Mm) (x2 : Int32) : Option (Int32 ⊕ (Int32 ⊕ Unit)) :=
  if (M 218 10) ≤ x2 then
    some (Sum.inr (Sum.inr ()))
  else
    let vz3 : Int32 := fM_letterAt x2
    if inb vz3 174 then
    if (M 218 (jix vz3)) = x1 then
      some (Sum.inr (Sum.inl x2))
    else
      some (Sum.inl (x2 + 1))
    else none
def fM_bring (x1 : Int32) (M : Mm) : Option (Int32 × Mm) :=
  let Mz1 : Mm := mput M 217 0 0
  let vz2 : Int32 := fM_health Mz1
  if vz2 = 0 then
    some ((-2), Mz1)
  else
    Option.bind (lp 1000000 (fun s => fM_bring_b17 x1 Mz1 s) 0) fun e17 =>
    match e17 with
    | Sum.inl p17 =>
        let yz5 : Int32 := p17
        Option.bind (fM_keepsAhead Mz1) fun Mz7 =>
        Option.bind (fM_brings yz5 Mz7) fun qz9 =>
        some (qz9.1, qz9.2)
    | Sum.inr p17 =>
        some ((-2), Mz1)
def fM_rain (x1 : Int32) (M : Mm) : Option (Int32 × Mm) :=
  let Mz1 : Mm := mput M 217 0 0
  let vz2 : Int32 := fM_isIn x1 0 9
  if vz2 = 0 then
    some (0, Mz1)
  else
    Option.bind (fM_keepsAhead Mz1) fun Mz4 =>
    let Mz5 : Mm := mput Mz4 218 8 x1
    some (1, Mz5)
def fM_morning_b9 (x1 : Int32) (M : Mm) : Option ((Int32 × Mm) ⊕ Mm) :=
  if (4 * (M 217 32)) ≤ x1 then
    some (Sum.inr M)
  else
    if inb x1 128 then
    Option.bind (α := Mm) (
      if (M 233 (jix x1)) = (M 218 0) then
        if 24 ≤ (M 218 10) then
          let Mz3 : Mm := mput M 218 7 ((M 218 7) + 1)
          if inb (x1 + 1) 128 then
          Option.bind (fM_notes 3 (-1) (Mz3 233 (jix (x1 + 1))) Mz3) fun Mz6 =>
          some Mz6
          else none
        else
          if inb (x1 + 1) 128 then
          if inb (x1 + 2) 128 then
          if inb (x1 + 3) 128 then
          Option.bind (fM_comes (M 233 (jix (x1 + 1))) (M 233 (jix (x1 + 2))) (M 233 (jix (x1 + 3))) M) fun qz11 =>
          some qz11.2
          else none
          else none
          else none
      else
        some M) fun Mz12 =>
    let vz13 : Int32 := (x1 + 4)
    some (Sum.inl (vz13, Mz12))
    else none
def fM_morning (M : Mm) : Option Mm :=
  let Mz1 : Mm := mput M 218 3 0
  Option.bind (lp 1000000 (fun s => fM_morning_b9 s.1 s.2) (0, Mz1)) fun e9 =>
  let Mz14 : Mm := e9
  some Mz14
def fM_walksTo_b4 (x1 : Int32) (x2 : Int32) (x3 : Int32) (M : Mm) : Option ((Int32 × Int32 × Mm) ⊕ (Int32 × Mm)) :=
  if (M 218 10) ≤ x3 then
    some (Sum.inr (x2, M))
  else
    Option.bind (fM_doorOf x3 M) fun qz2 =>
    Option.bind (α := (Int32 × Mm)) (
      if qz2 = x1 then
        if 24 ≤ (M 218 3) then
          some (0, M)
        else
          let vz3 : Int32 := fM_health M
          if vz3 ≤ 0 then
            some (0, M)
          else
            Option.bind (fM_brings x3 M) fun qz5 =>
            if qz5.1 = (-1) then
              some (0, qz5.2)
            else
              some (1, qz5.2)
      else
        some (0, M)) fun t56 =>
    let yz6 : Int32 := t56.1
    let Mz7 : Mm := t56.2
    if yz6 = 0 then
      let vz8 : Int32 := (x3 + 1)
      some (Sum.inl (x2, vz8, Mz7))
    else
      let vz9 : Int32 := (x2 + 1)
      let Mz10 : Mm := mput Mz7 217 40 ((Mz7 217 40) ||| ((1 : Int32) <<< (x1 &&& 31)))
      some (Sum.inl (vz9, x3, Mz10))
def fM_walksTo (x1 : Int32) (M : Mm) : Option (Int32 × Mm) :=
  Option.bind (lp 1000000 (fun s => fM_walksTo_b4 x1 s.1 s.2.1 s.2.2) (0, 0, M)) fun e4 =>
  let yz11 : Int32 := e4.1
  let Mz12 : Mm := e4.2
  some (yz11, Mz12)
def fM_lettersAge_b2 (x1 : Int32) (M : Mm) : Option ((Int32 × Mm) ⊕ Mm) :=
  if (M 218 10) ≤ x1 then
    some (Sum.inr M)
  else
    let vz1 : Int32 := fM_letterAt x1
    if inb (vz1 + 4) 174 then
    if inb (vz1 + 4) 174 then
    let Mz3 : Mm := mput M 218 (jix (vz1 + 4)) ((M 218 (jix (vz1 + 4))) + 1)
    if inb (vz1 + 4) 174 then
    if 9 ≤ (Mz3 218 (jix (vz1 + 4))) then
      let Mz6 : Mm := mput Mz3 218 7 ((Mz3 218 7) + 1)
      if inb vz1 174 then
      if inb (vz1 + 1) 174 then
      Option.bind (fM_notes 3 (Mz6 218 (jix vz1)) (Mz6 218 (jix (vz1 + 1))) Mz6) fun Mz10 =>
      Option.bind (fM_goesOut x1 Mz10) fun Mz12 =>
      some (Sum.inl (x1, Mz12))
      else none
      else none
    else
      let vz13 : Int32 := (x1 + 1)
      some (Sum.inl (vz13, Mz3))
    else none
    else none
    else none
def fM_lettersAge (M : Mm) : Option Mm :=
  Option.bind (lp 1000000 (fun s => fM_lettersAge_b2 s.1 s.2) (0, M)) fun e2 =>
  let Mz14 : Mm := e2
  some Mz14
def fM_evening_b52 (x1 : Int32) (M : Mm) : Option ((Int32 × Mm) ⊕ Mm) :=
  if (M 217 6) ≤ x1 then
    some (Sum.inr M)
  else
    let vz7 : Int32 := fM_lies (M 217 40) x1
    Option.bind (α := Mm) (
      if vz7 = 0 then
        if inb (18 + x1) 174 then
        Option.bind (α := Int32) (
          if (M 218 (jix (18 + x1))) ≤ 0 then
            if inb (18 + x1) 174 then
            if 0 ≤ (M 218 (jix (18 + x1))) then
              some 0
            else
              some 1
            else none
          else
            some (-1)) fun yz10 =>
        Option.bind (fM_looks x1 yz10 M) fun Mz12 =>
        some Mz12
        else none
      else
        some M) fun Mz13 =>
    some (Sum.inl ((x1 + 1), Mz13))
def fM_evening (M : Mm) : Option Mm :=
  let vz1 : Int32 := fM_lesser 99 ((M 218 5) + 5)
  let Mz2 : Mm := mput M 218 5 vz1
  Option.bind (α := Int32) (
    if (Mz2 218 5) ≤ 50 then
      let vz3 : Int32 := fM_health Mz2
      some (vz3 + 3)
    else
      let vz4 : Int32 := fM_health Mz2
      some (vz4 - 5)) fun yz5 =>
  let Mz6 : Mm := fM_hasHealth yz5 Mz2
  Option.bind (lp 1000000 (fun s => fM_evening_b52 s.1 s.2) (0, Mz6)) fun e52 =>
  let Mz14 : Mm := e52
  let Mz15 : Mm := mput Mz14 218 0 ((Mz14 218 0) + 1)
  some Mz15
def fM_goesBy_b13 (x1 : Int32) (x2 : Int32) (M : Mm) : Option ((Int32 × Int32 × Mm) ⊕ (Int32 × Mm)) :=
  if (M 217 34) ≤ x2 then
    some (Sum.inr (x1, M))
  else
    if inb x2 32 then
    Option.bind (fM_walksTo (M 234 (jix x2)) M) fun qz6 =>
    let vz7 : Int32 := (x1 + qz6.1)
    some (Sum.inl (vz7, (x2 + 1), qz6.2))
    else none
def fM_goesBy (M : Mm) : Option (Int32 × Mm) :=
  Option.bind (fM_morning M) fun Mz2 =>
  let Mz3 : Mm := mput Mz2 217 40 0
  Option.bind (lp 1000000 (fun s => fM_goesBy_b13 s.1 s.2.1 s.2.2) (0, 0, Mz3)) fun e13 =>
  let yz8 : Int32 := e13.1
  let Mz9 : Mm := e13.2
  Option.bind (fM_lettersAge Mz9) fun Mz11 =>
  Option.bind (fM_evening Mz11) fun Mz13 =>
  some (yz8, Mz13)
def fM_days_b36 (x1 : Int32) (x2 : Int32) (x3 : Int32) (M : Mm) : Option ((Int32 × Int32 × Mm) ⊕ (Int32 × Mm)) :=
  if x1 ≤ x3 then
    some (Sum.inr (x2, M))
  else
    Option.bind (fM_keepsAhead M) fun Mz4 =>
    Option.bind (fM_goesBy Mz4) fun qz6 =>
    let vz7 : Int32 := (x2 + qz6.1)
    some (Sum.inl (vz7, (x3 + 1), qz6.2))
def fM_days (x1 : Int32) (M : Mm) : Option (Int32 × Mm) :=
  let Mz1 : Mm := mput M 217 0 0
  let vz2 : Int32 := fM_isIn x1 1 60
  if vz2 = 0 then
    some ((-1), Mz1)
  else
    if ((Mz1 218 0) + x1) ≤ 9999 then
      Option.bind (lp 1000000 (fun s => fM_days_b36 x1 s.1 s.2.1 s.2.2) (0, 0, Mz1)) fun e36 =>
      let yz8 : Int32 := e36.1
      let Mz9 : Mm := e36.2
      some (yz8, Mz9)
    else
      some ((-1), Mz1)
def fM_of (x1 : Int32) (x2 : Int32) (M : Mm) : Option (Int32 × Mm) :=
  let Mz1 : Mm := mput M 217 0 0
  let vz2 : Int32 := fM_isDoor x1 Mz1
  if vz2 = 0 then
    some ((-100), Mz1)
  else
    if x2 = 0 then
      if inb (18 + x1) 174 then
      some ((Mz1 218 (jix (18 + x1))), Mz1)
      else none
    else
      if x2 = 1 then
        if inb x1 12 then
        some ((Mz1 221 (jix x1)), Mz1)
        else none
      else
        if x2 = 2 then
          if inb (30 + x1) 174 then
          some ((Mz1 218 (jix (30 + x1))), Mz1)
          else none
        else
          if x2 = 3 then
            if inb (42 + x1) 174 then
            some ((Mz1 218 (jix (42 + x1))), Mz1)
            else none
          else
            if x2 = 4 then
              Option.bind (fM_lettersFor x1 Mz1) fun qz7 =>
              some (qz7, Mz1)
            else
              let vz3 : Int32 := fM_isIn x2 10 (9 + (Mz1 217 6))
              if vz3 = 0 then
                some ((-100), Mz1)
              else
                if inb (((12 * x1) + x2) - 10) 288 then
                let vz5 : Int32 := (Mz1 235 (jix (((12 * x1) + x2) - 10)))
                if vz5 = 0 then
                  some ((-1), Mz1)
                else
                  some (vz5, Mz1)
                else none
def fM_letter (x1 : Int32) (x2 : Int32) (M : Mm) : Option (Int32 × Mm) :=
  let Mz1 : Mm := mput M 217 0 0
  let vz2 : Int32 := fM_isIn x1 0 ((Mz1 218 10) - 1)
  if vz2 = 0 then
    some ((-1), Mz1)
  else
    let vz3 : Int32 := fM_isIn x2 0 7
    if vz3 = 0 then
      some ((-1), Mz1)
    else
      if 5 ≤ x2 then
        Option.bind (fM_asksOf x1 Mz1) fun Mz5 =>
        if x2 = 5 then
          Option.bind (fM_opensNow Mz5) fun qz11 =>
          some (qz11.1, qz11.2)
        else
          if x2 = 6 then
            Option.bind (fM_givesNow Mz5) fun qz9 =>
            some (qz9.1, qz9.2)
          else
            Option.bind (fM_tiresNow Mz5) fun qz7 =>
            some (qz7.1, qz7.2)
      else
        let vz12 : Int32 := fM_letterAt x1
        if inb (vz12 + x2) 174 then
        some ((Mz1 218 (jix (vz12 + x2))), Mz1)
        else none
def fM_given (x1 : Int32) (M : Mm) : Option (Int32 × Mm) :=
  let Mz1 : Mm := mput M 217 0 0
  let vz2 : Int32 := fM_isIn x1 0 6
  if vz2 = 0 then
    some ((-1), Mz1)
  else
    if inb (11 + x1) 174 then
    some ((Mz1 218 (jix (11 + x1))), Mz1)
    else none
def fM_book (x1 : Int32) (x2 : Int32) (M : Mm) : Option (Int32 × Mm) :=
  let Mz1 : Mm := mput M 217 0 0
  let vz2 : Int32 := fM_isIn x1 0 ((Mz1 218 2) - 1)
  if vz2 = 0 then
    some ((-2), Mz1)
  else
    let vz3 : Int32 := fM_isIn x2 0 3
    if vz3 = 0 then
      some ((-2), Mz1)
    else
      if inb ((4 * x1) + x2) 600 then
      some ((Mz1 222 (jix ((4 * x1) + x2))), Mz1)
      else none
def fM_goes_b34 (x1 : Int32) (x2 : Int32) (x3 : Int32) (M : Mm) : Option ((Int32 × Mm) ⊕ Mm) :=
  if x1 ≤ x3 then
    some (Sum.inr M)
  else
    Option.bind (fM_goesBy M) fun qz7 =>
    some (Sum.inl ((x3 + 1), qz7.2))
def fM_goes (x1 : Int32) (x2 : Int32) (M : Mm) : Option (Int32 × Mm) :=
  let Mz1 : Mm := mput M 217 0 0
  let vz2 : Int32 := fM_isIn x1 1 60
  if vz2 = 0 then
    some ((-1), Mz1)
  else
    let vz3 : Int32 := fM_isIn x2 0 3
    if vz3 = 0 then
      some ((-1), Mz1)
    else
      Option.bind (fM_thinks Mz1) fun Mz5 =>
      Option.bind (lp 1000000 (fun s => fM_goes_b34 x1 x2 s.1 s.2) (0, Mz5)) fun e34 =>
      let Mz8 : Mm := e34
      Option.bind (α := Int32) (
        if x2 = 0 then
          let vz9 : Int32 := fM_health Mz8
          some vz9
        else
          if x2 = 1 then
            some (Mz8 218 5)
          else
            if x2 = 2 then
              some (Mz8 218 10)
            else
              some (Mz8 218 7)) fun yz10 =>
      Option.bind (fM_endsThought Mz8) fun Mz12 =>
      some (yz10, Mz12)
def fM_findsWays_b12 (x1 : Int32) (x2 : Int32) (M : Mm) : Option ((Int32 × Mm) ⊕ Mm) :=
  if (M 217 6) ≤ x2 then
    some (Sum.inr M)
  else
    Option.bind (α := Int32) (
      if x1 = x2 then
        some 0
      else
        if inb ((12 * x1) + x2) 288 then
        if (M 235 (jix ((12 * x1) + x2))) = 0 then
          some 100000000
        else
          if inb ((12 * x1) + x2) 288 then
          some (M 235 (jix ((12 * x1) + x2)))
          else none
        else none) fun yz3 =>
    if inb ((12 * x1) + x2) 144 then
    let Mz4 : Mm := mput M 238 (jix ((12 * x1) + x2)) yz3
    some (Sum.inl ((x2 + 1), Mz4))
    else none
def fM_findsWays_b2 (x1 : Int32) (M : Mm) : Option ((Int32 × Mm) ⊕ Mm) :=
  if (M 217 6) ≤ x1 then
    some (Sum.inr M)
  else
    Option.bind (lp 1000000 (fun s => fM_findsWays_b12 x1 s.1 s.2) (0, M)) fun e12 =>
    let Mz6 : Mm := e12
    some (Sum.inl ((x1 + 1), Mz6))
def fM_findsWays_b105 (x1 : Int32) (x2 : Int32) (x3 : Int32) (M : Mm) : Option ((Int32 × Mm) ⊕ Mm) :=
  if (M 217 6) ≤ x3 then
    some (Sum.inr M)
  else
    if inb ((12 * x2) + x3) 144 then
    if inb ((12 * x2) + x1) 144 then
    if inb ((12 * x1) + x3) 144 then
    let vz11 : Int32 := fM_lesser (M 238 (jix ((12 * x2) + x3))) ((M 238 (jix ((12 * x2) + x1))) + (M 238 (jix ((12 * x1) + x3))))
    if inb ((12 * x2) + x3) 144 then
    let Mz12 : Mm := mput M 238 (jix ((12 * x2) + x3)) vz11
    some (Sum.inl ((x3 + 1), Mz12))
    else none
    else none
    else none
    else none
def fM_findsWays_b95 (x1 : Int32) (x2 : Int32) (M : Mm) : Option ((Int32 × Mm) ⊕ Mm) :=
  if (M 217 6) ≤ x2 then
    some (Sum.inr M)
  else
    Option.bind (lp 1000000 (fun s => fM_findsWays_b105 x1 x2 s.1 s.2) (0, M)) fun e105 =>
    let Mz14 : Mm := e105
    some (Sum.inl ((x2 + 1), Mz14))
def fM_findsWays_b85 (x1 : Int32) (M : Mm) : Option ((Int32 × Mm) ⊕ Mm) :=
  if (M 217 6) ≤ x1 then
    some (Sum.inr M)
  else
    Option.bind (lp 1000000 (fun s => fM_findsWays_b95 x1 s.1 s.2) (0, M)) fun e95 =>
    let Mz15 : Mm := e95
    some (Sum.inl ((x1 + 1), Mz15))
def fM_findsWays (M : Mm) : Option Mm :=
  Option.bind (lp 1000000 (fun s => fM_findsWays_b2 s.1 s.2) (0, M)) fun e2 =>
  let Mz7 : Mm := e2
  Option.bind (lp 1000000 (fun s => fM_findsWays_b85 s.1 s.2) (0, Mz7)) fun e85 =>
  let Mz16 : Mm := e85
  some Mz16
def fM_findsGoals_b7 (x1 : Int32) (x2 : Int32) (M : Mm) : Option ((Int32 × Mm) ⊕ Mm) :=
  if (M 217 6) ≤ x2 then
    some (Sum.inr M)
  else
    Option.bind (α := Mm) (
      if x2 = x1 then
        some M
      else
        Option.bind (fM_lettersFor x2 M) fun qz3 =>
        if qz3 = 0 then
          some M
        else
          if inb (M 217 42) 12 then
          let Mz4 : Mm := mput M 239 (jix (M 217 42)) x2
          let Mz6 : Mm := mput Mz4 217 42 ((Mz4 217 42) + 1)
          some Mz6
          else none) fun Mz7 =>
    some (Sum.inl ((x2 + 1), Mz7))
def fM_findsGoals (x1 : Int32) (M : Mm) : Option Mm :=
  let Mz1 : Mm := mput M 217 42 0
  Option.bind (lp 1000000 (fun s => fM_findsGoals_b7 x1 s.1 s.2) (0, Mz1)) fun e7 =>
  let Mz8 : Mm := e7
  some Mz8
def fM_leastTo_b39 (x3 : Int32) (x4 : Int32) (M : Mm) (x5 : Int32) (x6 : Int32) : Option ((Int32 × Int32) ⊕ Int32) :=
  if (M 217 42) ≤ x6 then
    some (Sum.inr x5)
  else
    let vz2 : Int32 := fM_lies x4 x6
    Option.bind (α := Int32) (
      if vz2 = 0 then
        some x5
      else
        if inb ((8 * x4) + x6) 2048 then
        if inb x6 12 then
        if inb x3 12 then
        if inb ((12 * (M 239 (jix x6))) + (M 239 (jix x3))) 144 then
        let vz7 : Int32 := fM_lesser x5 ((M 240 (jix ((8 * x4) + x6))) + (M 238 (jix ((12 * (M 239 (jix x6))) + (M 239 (jix x3))))))
        some vz7
        else none
        else none
        else none
        else none) fun yz8 =>
    some (Sum.inl (yz8, (x6 + 1)))
def fM_leastTo (x1 : Int32) (x2 : Int32) (x3 : Int32) (M : Mm) : Option Int32 :=
  let vz1 : Int32 := (x2 &&& (((1 : Int32) <<< (x3 &&& 31)) ^^^ (-1)))
  if vz1 = 0 then
    if inb x3 12 then
    if inb ((12 * x1) + (M 239 (jix x3))) 144 then
    some (M 238 (jix ((12 * x1) + (M 239 (jix x3)))))
    else none
    else none
  else
    Option.bind (lp 1000000 (fun s => fM_leastTo_b39 x3 vz1 M s.1 s.2) (100000000, 0)) fun e39 =>
    let yz9 : Int32 := e39
    some yz9
def fM_shortest_b83 (x1 : Int32) (x2 : Int32) (x3 : Int32) (x4 : Int32) (x5 : Int32) (M : Mm) : Option ((Int32 × Mm) ⊕ Mm) :=
  if (M 217 42) ≤ x5 then
    some (Sum.inr M)
  else
    let vz9 : Int32 := fM_lies x4 x5
    Option.bind (α := Mm) (
      if vz9 = 0 then
        some M
      else
        Option.bind (fM_leastTo x1 x4 x5 M) fun qz11 =>
        if inb ((8 * x4) + x5) 2048 then
        let Mz12 : Mm := mput M 240 (jix ((8 * x4) + x5)) qz11
        some Mz12
        else none) fun Mz14 =>
    some (Sum.inl ((x5 + 1), Mz14))
def fM_shortest_b74 (x1 : Int32) (x2 : Int32) (x3 : Int32) (x4 : Int32) (M : Mm) : Option ((Int32 × Mm) ⊕ Mm) :=
  if x3 < x4 then
    some (Sum.inr M)
  else
    Option.bind (lp 1000000 (fun s => fM_shortest_b83 x1 x2 x3 x4 s.1 s.2) (0, M)) fun e83 =>
    let Mz15 : Mm := e83
    some (Sum.inl ((x4 + 1), Mz15))
def fM_shortest_b143 (x2 : Int32) (x3 : Int32) (M : Mm) (x4 : Int32) (x5 : Int32) : Option ((Int32 × Int32) ⊕ Int32) :=
  if (M 217 42) ≤ x5 then
    some (Sum.inr x4)
  else
    if inb ((8 * x3) + x5) 2048 then
    if inb ((8 * x3) + x4) 2048 then
    some (Sum.inl ((if (M 240 (jix ((8 * x3) + x4))) ≤ (M 240 (jix ((8 * x3) + x5))) then x4 else x5), (x5 + 1)))
    else none
    else none
def fM_shortest (x1 : Int32) (x2 : Int32) (M : Mm) : Option (Int32 × Mm) :=
  let Mz1 : Mm := mput M 217 0 0
  let vz2 : Int32 := fM_isDoor x1 Mz1
  if vz2 = 0 then
    some ((-1), Mz1)
  else
    let vz3 : Int32 := fM_isIn x2 0 1
    if vz3 = 0 then
      some ((-1), Mz1)
    else
      Option.bind (fM_findsGoals x1 Mz1) fun Mz5 =>
      if (Mz5 217 42) ≤ 8 then
        if (Mz5 217 42) = 0 then
          if x2 = 0 then
            some (0, Mz5)
          else
            some (x1, Mz5)
        else
          Option.bind (fM_findsWays Mz5) fun Mz7 =>
          let vz8 : Int32 := (((1 : Int32) <<< ((Mz7 217 42) &&& 31)) - 1)
          Option.bind (lp 1000000 (fun s => fM_shortest_b74 x1 x2 vz8 s.1 s.2) (1, Mz7)) fun e74 =>
          let Mz16 : Mm := e74
          Option.bind (lp 1000000 (fun s => fM_shortest_b143 x2 vz8 Mz16 s.1 s.2) (0, 1)) fun e143 =>
          let yz19 : Int32 := e143
          if inb ((8 * vz8) + yz19) 2048 then
          if (Mz16 240 (jix ((8 * vz8) + yz19))) < 100000000 then
            if x2 = 0 then
              if inb ((8 * vz8) + yz19) 2048 then
              some ((Mz16 240 (jix ((8 * vz8) + yz19))), Mz16)
              else none
            else
              if inb yz19 12 then
              some ((Mz16 239 (jix yz19)), Mz16)
              else none
          else
            some ((-1), Mz16)
          else none
      else
        some ((-1), Mz5)
def fM_farthestFrom_b4 (x1 : Int32) (M : Mm) (x2 : Int32) (x3 : Int32) : Option ((Int32 × Int32) ⊕ Int32) :=
  if (M 217 6) ≤ x3 then
    some (Sum.inr x2)
  else
    if inb ((12 * x1) + x3) 144 then
    let vz2 : Int32 := fM_greater x2 (M 238 (jix ((12 * x1) + x3)))
    some (Sum.inl (vz2, (x3 + 1)))
    else none
def fM_farthestFrom (x1 : Int32) (M : Mm) : Option Int32 :=
  Option.bind (lp 1000000 (fun s => fM_farthestFrom_b4 x1 M s.1 s.2) (0, 0)) fun e4 =>
  let yz3 : Int32 := e4
  some yz3
def fM_box_b32 (x1 : Int32) (M : Mm) (x2 : Int32) (x3 : Int32) : Option ((Int32 × Int32) ⊕ Int32) :=
  if (M 217 6) ≤ x3 then
    some (Sum.inr x2)
  else
    Option.bind (fM_farthestFrom x3 M) fun qz6 =>
    Option.bind (fM_farthestFrom x2 M) fun qz8 =>
    some (Sum.inl ((if qz8 ≤ qz6 then x2 else x3), (x3 + 1)))
def fM_box (x1 : Int32) (M : Mm) : Option (Int32 × Mm) :=
  let Mz1 : Mm := mput M 217 0 0
  if (Mz1 217 6) = 0 then
    some ((-1), Mz1)
  else
    let vz2 : Int32 := fM_isIn x1 0 1
    if vz2 = 0 then
      some ((-1), Mz1)
    else
      Option.bind (fM_findsWays Mz1) fun Mz4 =>
      Option.bind (lp 1000000 (fun s => fM_box_b32 x1 Mz4 s.1 s.2) (0, 1)) fun e32 =>
      let yz9 : Int32 := e32
      Option.bind (fM_farthestFrom yz9 Mz4) fun qz11 =>
      if qz11 < 100000000 then
        if x1 = 0 then
          some (yz9, Mz4)
        else
          Option.bind (fM_farthestFrom yz9 Mz4) fun qz13 =>
          some (qz13, Mz4)
      else
        some ((-1), Mz4)
def fM_blow (x1 : Int32) (M : Mm) : Option (Int32 × Mm) :=
  let Mz1 : Mm := mput M 217 0 0
  if x1 = 0 then
    let Mz6 : Mm := mput Mz1 217 45 0
    some (0, Mz6)
  else
    let vz2 : Int32 := fM_isIn x1 (-50) 50
    if vz2 = 0 then
      some ((-1), Mz1)
    else
      if (Mz1 217 45) = 8 then
        some ((-1), Mz1)
      else
        if inb (Mz1 217 45) 8 then
        let Mz3 : Mm := mput Mz1 241 (jix (Mz1 217 45)) x1
        let Mz5 : Mm := mput Mz3 217 45 ((Mz3 217 45) + 1)
        some ((Mz5 217 45), Mz5)
        else none
def fM_behind (x1 : Int32) (x2 : Int32) (M : Mm) : Option Int32 :=
  Option.bind (α := Int32) (
    if x1 = (-1) then
      some (-1)
    else
      if inb x2 8 then
      let vz2 : Int32 := fM_lesser 99 (x1 + (M 241 (jix x2)))
      some vz2
      else none) fun yz3 =>
  if 1 ≤ yz3 then
    some yz3
  else
    some (-1)
def fM_mostLeft_j111 (x1 : Int32) (x2 : Int32) (x3 : Int32) (x4 : Int32) (x5 : Int32) (M : Mm) : Option Mm :=
  if inb x4 256 then
  if inb (x4 &&& (((1 : Int32) <<< (x5 &&& 31)) ^^^ (-1))) 256 then
  Option.bind (fM_behind (M 242 (jix (x4 &&& (((1 : Int32) <<< (x5 &&& 31)) ^^^ (-1))))) x5 M) fun qz14 =>
  let vz15 : Int32 := fM_greater (M 242 (jix x4)) qz14
  if inb x4 256 then
  let Mz16 : Mm := mput M 242 (jix x4) vz15
  some Mz16
  else none
  else none
  else none
def fM_mostLeft_b69 (x1 : Int32) (x2 : Int32) (x3 : Int32) (x4 : Int32) (x5 : Int32) (M : Mm) : Option ((Int32 × Mm) ⊕ Mm) :=
  if (M 217 45) ≤ x5 then
    some (Sum.inr M)
  else
    let vz9 : Int32 := fM_lies x4 x5
    Option.bind (α := Mm) (
      if vz9 = 0 then
        some M
      else
        if x2 = (-1) then
          fM_mostLeft_j111 x1 x2 x3 x4 x5 M
        else
          let vz10 : Int32 := fM_lies (x4 &&& (((1 : Int32) <<< (x5 &&& 31)) ^^^ (-1))) x2
          if vz10 = 0 then
            some M
          else
            fM_mostLeft_j111 x1 x2 x3 x4 x5 M) fun Mz18 =>
    some (Sum.inl ((x5 + 1), Mz18))
def fM_mostLeft_b12 (x1 : Int32) (x2 : Int32) (x3 : Int32) (x4 : Int32) (M : Mm) : Option ((Int32 × Mm) ⊕ Mm) :=
  if x3 < x4 then
    some (Sum.inr M)
  else
    if inb x4 256 then
    let Mz2 : Mm := mput M 242 (jix x4) (if x4 = 0 then (if x2 = (-1) then x1 else (-1)) else (-1))
    Option.bind (α := Mm) (
      if x2 = (-1) then
        some Mz2
      else
        if x4 = ((1 : Int32) <<< (x2 &&& 31)) then
          Option.bind (fM_behind x1 x2 Mz2) fun qz5 =>
          if inb x4 256 then
          let Mz6 : Mm := mput Mz2 242 (jix x4) qz5
          some Mz6
          else none
        else
          some Mz2) fun Mz8 =>
    Option.bind (lp 1000000 (fun s => fM_mostLeft_b69 x1 x2 x3 x4 s.1 s.2) (0, Mz8)) fun e69 =>
    let Mz19 : Mm := e69
    some (Sum.inl ((x4 + 1), Mz19))
    else none
def fM_mostLeft (x1 : Int32) (x2 : Int32) (M : Mm) : Option (Int32 × Mm) :=
  let vz1 : Int32 := (((1 : Int32) <<< ((M 217 45) &&& 31)) - 1)
  Option.bind (lp 1000000 (fun s => fM_mostLeft_b12 x1 x2 vz1 s.1 s.2) (0, M)) fun e12 =>
  let Mz20 : Mm := e12
  if inb vz1 256 then
  some ((Mz20 242 (jix vz1)), Mz20)
  else none
def fM_bears_b42 (x1 : Int32) (x3 : Int32) (M : Mm) : Option ((Int32 × Mm) ⊕ ((Int32 × Mm) ⊕ Mm)) :=
  if (M 217 45) ≤ x3 then
    some (Sum.inr (Sum.inr M))
  else
    Option.bind (fM_mostLeft x1 x3 M) fun qz5 =>
    if qz5.1 = (-1) then
      some (Sum.inl ((x3 + 1), qz5.2))
    else
      some (Sum.inr (Sum.inl (x3, qz5.2)))
def fM_bears (x1 : Int32) (x2 : Int32) (M : Mm) : Option (Int32 × Mm) :=
  let Mz1 : Mm := mput M 217 0 0
  let vz2 : Int32 := fM_isIn x1 1 99
  if vz2 = 0 then
    some ((-1), Mz1)
  else
    let vz3 : Int32 := fM_isIn x2 0 1
    if vz3 = 0 then
      some ((-1), Mz1)
    else
      if x2 = 1 then
        Option.bind (fM_mostLeft x1 (-1) Mz1) fun qz10 =>
        some (qz10.1, qz10.2)
      else
        Option.bind (lp 1000000 (fun s => fM_bears_b42 x1 s.1 s.2) (0, Mz1)) fun e42 =>
        match e42 with
        | Sum.inl p42 =>
            let yz6 : Int32 := p42.1
            let Mz7 : Mm := p42.2
            some (yz6, Mz7)
        | Sum.inr p42 =>
            let Mz8 : Mm := p42
            some ((-1), Mz8)
def fM_findsCarried_b2 (x1 : Int32) (x2 : Int32) (M : Mm) : Option ((Int32 × Mm) ⊕ Mm) :=
  if 10025 ≤ x2 then
    some (Sum.inr M)
  else
    if inb x2 10025 then
    let Mz1 : Mm := mput M 243 (jix x2) (if x2 = 0 then (1 : Int32) else 0)
    some (Sum.inl ((x2 + 1), Mz1))
    else none
def fM_findsCarried_b67 (x1 : Int32) (x2 : Int32) (x3 : Int32) (x4 : Int32) (x5 : Int32) (M : Mm) : Option ((Int32 × Mm) ⊕ Mm) :=
  if x1 < (x5 + x3) then
    some (Sum.inr M)
  else
    if inb (((401 * (x4 + 1)) + x5) + x3) 10025 then
    if inb ((401 * x4) + x5) 10025 then
    let vz9 : Int32 := fM_added (M 243 (jix (((401 * (x4 + 1)) + x5) + x3))) (M 243 (jix ((401 * x4) + x5)))
    if inb (((401 * (x4 + 1)) + x5) + x3) 10025 then
    let Mz10 : Mm := mput M 243 (jix (((401 * (x4 + 1)) + x5) + x3)) vz9
    some (Sum.inl ((x5 + 1), Mz10))
    else none
    else none
    else none
def fM_findsCarried_b59 (x1 : Int32) (x2 : Int32) (x3 : Int32) (x4 : Int32) (M : Mm) : Option ((Int32 × Mm) ⊕ Mm) :=
  if x4 < 0 then
    some (Sum.inr M)
  else
    Option.bind (lp 1000000 (fun s => fM_findsCarried_b67 x1 x2 x3 x4 s.1 s.2) (0, M)) fun e67 =>
    let Mz12 : Mm := e67
    some (Sum.inl ((x4 + (-1)), Mz12))
def fM_findsCarried_b32 (x1 : Int32) (x2 : Int32) (M : Mm) : Option ((Int32 × Mm) ⊕ Mm) :=
  if (M 218 10) ≤ x2 then
    some (Sum.inr M)
  else
    let vz4 : Int32 := fM_letterAt x2
    if inb (vz4 + 3) 174 then
    let vz6 : Int32 := (M 218 (jix (vz4 + 3)))
    Option.bind (lp 1000000 (fun s => fM_findsCarried_b59 x1 x2 vz6 s.1 s.2) (x2, M)) fun e59 =>
    let Mz13 : Mm := e59
    some (Sum.inl ((x2 + 1), Mz13))
    else none
def fM_findsCarried (x1 : Int32) (M : Mm) : Option Mm :=
  Option.bind (lp 1000000 (fun s => fM_findsCarried_b2 x1 s.1 s.2) (0, M)) fun e2 =>
  let Mz3 : Mm := e2
  Option.bind (lp 1000000 (fun s => fM_findsCarried_b32 x1 s.1 s.2) (0, Mz3)) fun e32 =>
  let Mz14 : Mm := e32
  some Mz14
def fM_carries_b47 (x1 : Int32) (x2 : Int32) (x5 : Int32) (M : Mm) (x3 : Int32) (x4 : Int32) (x6 : Int32) : Option ((Int32 × Int32 × Int32) ⊕ (Int32 × Int32)) :=
  if (M 218 10) ≤ x6 then
    some (Sum.inr (x3, x4))
  else
    let vz4 : Int32 := fM_letterAt x6
    if inb (vz4 + 3) 174 then
    Option.bind (α := (Int32 × Int32)) (
      if (M 218 (jix (vz4 + 3))) = x5 then
        if (x4 + x5) ≤ x1 then
          let vz6 : Int32 := (x4 + x5)
          let vz7 : Int32 := (x3 + 1)
          some (vz7, vz6)
        else
          some (x3, x4)
      else
        some (x3, x4)) fun t100 =>
    let yz8 : Int32 := t100.1
    let yz9 : Int32 := t100.2
    some (Sum.inl (yz8, yz9, (x6 + 1)))
    else none
def fM_carries_b37 (x1 : Int32) (x2 : Int32) (M : Mm) (x3 : Int32) (x4 : Int32) (x5 : Int32) : Option ((Int32 × Int32 × Int32) ⊕ Int32) :=
  if 99 < x5 then
    some (Sum.inr x3)
  else
    Option.bind (lp 1000000 (fun s => fM_carries_b47 x1 x2 x5 M s.1 s.2.1 s.2.2) (x3, x4, 0)) fun e47 =>
    let yz10 : Int32 := e47.1
    let yz11 : Int32 := e47.2
    some (Sum.inl (yz10, yz11, (x5 + 1)))
def fM_carries_b129 (x1 : Int32) (x3 : Int32) (M : Mm) (x5 : Int32) (x6 : Int32) : Option ((Int32 × Int32) ⊕ Int32) :=
  if x1 < x6 then
    some (Sum.inr x5)
  else
    if inb ((401 * x3) + x6) 10025 then
    let vz16 : Int32 := fM_added x5 (M 243 (jix ((401 * x3) + x6)))
    some (Sum.inl (vz16, (x6 + 1)))
    else none
def fM_carries (x1 : Int32) (x2 : Int32) (M : Mm) : Option (Int32 × Mm) :=
  let Mz1 : Mm := mput M 217 0 0
  let vz2 : Int32 := fM_isIn x1 1 400
  if vz2 = 0 then
    some ((-1), Mz1)
  else
    let vz3 : Int32 := fM_isIn x2 0 1
    if vz3 = 0 then
      some ((-1), Mz1)
    else
      Option.bind (lp 1000000 (fun s => fM_carries_b37 x1 x2 Mz1 s.1 s.2.1 s.2.2) (0, 0, 1)) fun e37 =>
      let yz12 : Int32 := e37
      if x2 = 0 then
        some (yz12, Mz1)
      else
        Option.bind (fM_findsCarried x1 Mz1) fun Mz14 =>
        Option.bind (lp 1000000 (fun s => fM_carries_b129 x1 yz12 Mz14 s.1 s.2) (0, 0)) fun e129 =>
        let yz17 : Int32 := e129
        some (yz17, Mz14)
def fM_owes_b18 (x4 : Int32) (M : Mm) : Option ((Int32 × Mm) ⊕ Mm) :=
  if 12 ≤ x4 then
    some (Sum.inr M)
  else
    if inb x4 12 then
    let Mz13 : Mm := mput M 244 (jix x4) 0
    some (Sum.inl ((x4 + 1), Mz13))
    else none
def fM_owes (x1 : Int32) (x2 : Int32) (x3 : Int32) (M : Mm) : Option (Int32 × Mm) :=
  let Mz1 : Mm := mput M 217 0 0
  if x1 = (-1) then
    let Mz12 : Mm := mput Mz1 217 49 0
    Option.bind (lp 1000000 (fun s => fM_owes_b18 s.1 s.2) (0, Mz12)) fun e18 =>
    let Mz15 : Mm := e18
    some (0, Mz15)
  else
    let vz2 : Int32 := fM_isIn x1 0 11
    if vz2 = 0 then
      some ((-1), Mz1)
    else
      let vz3 : Int32 := fM_isIn x2 0 11
      if vz3 = 0 then
        some ((-1), Mz1)
      else
        if x1 = x2 then
          some ((-1), Mz1)
        else
          let vz4 : Int32 := fM_isIn x3 1 99
          if vz4 = 0 then
            some ((-1), Mz1)
          else
            if (Mz1 217 49) = 16 then
              some ((-1), Mz1)
            else
              if inb x1 12 then
              if inb x1 12 then
              let Mz6 : Mm := mput Mz1 244 (jix x1) ((Mz1 244 (jix x1)) - x3)
              if inb x2 12 then
              if inb x2 12 then
              let Mz9 : Mm := mput Mz6 244 (jix x2) ((Mz6 244 (jix x2)) + x3)
              let Mz11 : Mm := mput Mz9 217 49 ((Mz9 217 49) + 1)
              some ((Mz11 217 49), Mz11)
              else none
              else none
              else none
              else none
def fM_netOf_b4 (x1 : Int32) (M : Mm) (x2 : Int32) (x3 : Int32) : Option ((Int32 × Int32) ⊕ Int32) :=
  if 12 ≤ x3 then
    some (Sum.inr x2)
  else
    let vz1 : Int32 := fM_lies x1 x3
    Option.bind (α := Int32) (
      if vz1 = 0 then
        some x2
      else
        if inb x3 12 then
        let vz3 : Int32 := (x2 + (M 244 (jix x3)))
        some vz3
        else none) fun yz4 =>
    some (Sum.inl (yz4, (x3 + 1)))
def fM_netOf (x1 : Int32) (M : Mm) : Option Int32 :=
  Option.bind (lp 1000000 (fun s => fM_netOf_b4 x1 M s.1 s.2) (0, 0)) fun e4 =>
  let yz5 : Int32 := e4
  some yz5
def fM_fewestPayments_b4 (M : Mm) (x1 : Int32) (x2 : Int32) : Option ((Int32 × Int32) ⊕ Int32) :=
  if 12 ≤ x2 then
    some (Sum.inr x1)
  else
    if inb x2 12 then
    Option.bind (α := Int32) (
      if (M 244 (jix x2)) = 0 then
        some x1
      else
        let vz2 : Int32 := (x1 ||| ((1 : Int32) <<< (x2 &&& 31)))
        some vz2) fun yz3 =>
    some (Sum.inl (yz3, (x2 + 1)))
    else none
def fM_fewestPayments_b61 (x1 : Int32) (x2 : Int32) (M : Mm) (x3 : Int32) (x4 : Int32) : Option ((Int32 × Int32) ⊕ Int32) :=
  if 12 ≤ x4 then
    some (Sum.inr x3)
  else
    let vz6 : Int32 := fM_lies x2 x4
    Option.bind (α := Int32) (
      if vz6 = 0 then
        some x3
      else
        if inb (x2 &&& (((1 : Int32) <<< (x4 &&& 31)) ^^^ (-1))) 4096 then
        let vz8 : Int32 := fM_greater x3 (M 245 (jix (x2 &&& (((1 : Int32) <<< (x4 &&& 31)) ^^^ (-1)))))
        some vz8
        else none) fun yz9 =>
    some (Sum.inl (yz9, (x4 + 1)))
def fM_fewestPayments_b40 (x1 : Int32) (x2 : Int32) (M : Mm) : Option ((Int32 × Mm) ⊕ Mm) :=
  if x1 < x2 then
    some (Sum.inr M)
  else
    Option.bind (α := Mm) (
      if (x2 &&& (x1 ^^^ (-1))) = 0 then
        Option.bind (lp 1000000 (fun s => fM_fewestPayments_b61 x1 x2 M s.1 s.2) (0, 0)) fun e61 =>
        let yz10 : Int32 := e61
        Option.bind (fM_netOf x2 M) fun qz12 =>
        if inb x2 4096 then
        let Mz13 : Mm := mput M 245 (jix x2) (yz10 + (if qz12 = 0 then (1 : Int32) else 0))
        some Mz13
        else none
      else
        some M) fun Mz15 =>
    some (Sum.inl ((x2 + 1), Mz15))
def fM_fewestPayments (M : Mm) : Option (Int32 × Mm) :=
  Option.bind (lp 1000000 (fun s => fM_fewestPayments_b4 M s.1 s.2) (0, 0)) fun e4 =>
  let yz4 : Int32 := e4
  let Mz5 : Mm := mput M 245 0 0
  Option.bind (lp 1000000 (fun s => fM_fewestPayments_b40 yz4 s.1 s.2) (1, Mz5)) fun e40 =>
  let Mz16 : Mm := e40
  Option.bind (fM_onesOf yz4) fun qz18 =>
  if inb yz4 4096 then
  some ((qz18 - (Mz16 245 (jix yz4))), Mz16)
  else none
def fM_net (x1 : Int32) (M : Mm) : Option (Int32 × Mm) :=
  let Mz1 : Mm := mput M 217 0 0
  let vz2 : Int32 := fM_isIn x1 (-1) 11
  if vz2 = 0 then
    some ((-10000), Mz1)
  else
    if x1 = (-1) then
      Option.bind (fM_fewestPayments Mz1) fun qz5 =>
      some (qz5.1, qz5.2)
    else
      if inb x1 12 then
      some ((Mz1 244 (jix x1)), Mz1)
      else none
def fM_chain_j101 (x1 : Int32) (x2 : Int32) (x4 : Int32) (z5 : Int32) (z6 : Int32) (x7 : Int32) (z8 : Int32) (M : Mm) : Option ((Int32 × Int32 × Int32) ⊕ (Int32 ⊕ Int32 ⊕ Unit)) :=
  if z8 = x7 then
    some (Sum.inr (Sum.inr (Sum.inl z5)))
  else
    let vz7 : Int32 := fM_lesser (x1 * z6) (x2 - z5)
    let vz8 : Int32 := (z5 + vz7)
    some (Sum.inl (vz8, vz7, (z8 + 1)))
def fM_chain_b79 (x1 : Int32) (x2 : Int32) (x4 : Int32) (x7 : Int32) (M : Mm) (x5 : Int32) (x6 : Int32) (x8 : Int32) : Option ((Int32 × Int32 × Int32) ⊕ (Int32 ⊕ Int32 ⊕ Unit)) :=
  if x7 < x8 then
    some (Sum.inr (Sum.inr (Sum.inr ())))
  else
    if x4 = 1 then
      if x5 = x2 then
        some (Sum.inr (Sum.inl x8))
      else
        fM_chain_j101 x1 x2 x4 x5 x6 x7 x8 M
    else
      fM_chain_j101 x1 x2 x4 x5 x6 x7 x8 M
def fM_chain_j57 (z1 : Int32) (z2 : Int32) (z3 : Int32) (z4 : Int32) (M : Mm) : Option (Int32 × Mm) :=
  let vz6 : Int32 := (if z4 = 0 then z3 else 99)
  Option.bind (lp 1000000 (fun s => fM_chain_b79 z1 z2 z4 vz6 M s.1 s.2.1 s.2.2) (1, 1, 0)) fun e79 =>
  match e79 with
  | Sum.inl p79 =>
      let yz9 : Int32 := p79
      some (yz9, M)
  | Sum.inr (Sum.inl p79) =>
      let yz10 : Int32 := p79
      if z4 = 0 then
        some (yz10, M)
      else
        some ((-1), M)
  | Sum.inr (Sum.inr p79) =>
      some ((-1), M)
def fM_chain (x1 : Int32) (x2 : Int32) (x3 : Int32) (x4 : Int32) (M : Mm) : Option (Int32 × Mm) :=
  let Mz1 : Mm := mput M 217 0 0
  let vz2 : Int32 := fM_isIn x1 1 9
  if vz2 = 0 then
    some ((-1), Mz1)
  else
    let vz3 : Int32 := fM_isIn x2 1 9999
    if vz3 = 0 then
      some ((-1), Mz1)
    else
      let vz4 : Int32 := fM_isIn x4 0 1
      if vz4 = 0 then
        some ((-1), Mz1)
      else
        if x4 = 0 then
          let vz5 : Int32 := fM_isIn x3 0 99
          if vz5 = 0 then
            some ((-1), Mz1)
          else
            fM_chain_j57 x1 x2 x3 x4 Mz1
        else
          fM_chain_j57 x1 x2 x3 x4 Mz1
def fM_has (x1 : Int32) (x2 : Int32) (M : Mm) : Option (Int32 × Mm) :=
  let Mz1 : Mm := mput M 217 0 0
  let vz2 : Int32 := fM_isIn x1 0 25
  if vz2 = 0 then
    some (0, Mz1)
  else
    let vz3 : Int32 := fM_isIn x2 0 9
    if vz3 = 0 then
      some (0, Mz1)
    else
      if inb x1 26 then
      let Mz4 : Mm := mput Mz1 246 (jix x1) x2
      some (1, Mz4)
      else none
def fM_spell (x1 : Int32) (M : Mm) : Option (Int32 × Mm) :=
  let Mz1 : Mm := mput M 217 0 0
  if x1 = (-1) then
    let Mz6 : Mm := mput Mz1 217 53 0
    some (0, Mz6)
  else
    let vz2 : Int32 := fM_isIn x1 0 25
    if vz2 = 0 then
      some ((-1), Mz1)
    else
      if (Mz1 217 53) = 8 then
        some ((-1), Mz1)
      else
        if inb (Mz1 217 53) 8 then
        let Mz3 : Mm := mput Mz1 247 (jix (Mz1 217 53)) x1
        let Mz5 : Mm := mput Mz3 217 53 ((Mz3 217 53) + 1)
        some ((Mz5 217 53), Mz5)
        else none
def fM_needOf_b5 (x1 : Int32) (x2 : Int32) (M : Mm) (x3 : Int32) (x4 : Int32) : Option ((Int32 × Int32) ⊕ Int32) :=
  if x2 ≤ x4 then
    some (Sum.inr x3)
  else
    if inb x4 8 then
    Option.bind (α := Int32) (
      if (M 247 (jix x4)) = x1 then
        let vz2 : Int32 := (x3 + 1)
        some vz2
      else
        some x3) fun yz3 =>
    some (Sum.inl (yz3, (x4 + 1)))
    else none
def fM_needOf (x1 : Int32) (x2 : Int32) (M : Mm) : Option Int32 :=
  Option.bind (lp 1000000 (fun s => fM_needOf_b5 x1 x2 M s.1 s.2) (0, 0)) fun e5 =>
  let yz4 : Int32 := e5
  some yz4
def fM_lays_b37 (x1 : Int32) (M : Mm) (x2 : Int32) (x3 : Int32) (x4 : Int32) : Option ((Int32 × Int32 × Int32) ⊕ (Int32 × Int32)) :=
  if (M 217 53) ≤ x4 then
    some (Sum.inr (x2, x3))
  else
    if inb x4 8 then
    if inb (M 247 (jix x4)) 26 then
    if inb x4 8 then
    Option.bind (fM_needOf (M 247 (jix x4)) (M 217 53) M) fun qz8 =>
    if ¬ qz8 = 0 then
    let vz10 : Int32 := fM_lesser x2 ((M 246 (jix (M 247 (jix x4)))) / qz8)
    if inb x4 8 then
    Option.bind (fM_needOf (M 247 (jix x4)) (x4 + 1) M) fun qz13 =>
    if ¬ qz13 = 0 then
    let vz15 : Int32 := ((x3 * (x4 + 1)) / qz13)
    some (Sum.inl (vz10, vz15, (x4 + 1)))
    else none
    else none
    else none
    else none
    else none
    else none
def fM_lays (x1 : Int32) (M : Mm) : Option (Int32 × Mm) :=
  let Mz1 : Mm := mput M 217 0 0
  let vz2 : Int32 := fM_isIn x1 0 1
  if vz2 = 0 then
    some ((-1), Mz1)
  else
    let vz3 : Int32 := (if (Mz1 217 53) = 0 then (0 : Int32) else 100000000)
    Option.bind (lp 1000000 (fun s => fM_lays_b37 x1 Mz1 s.1 s.2.1 s.2.2) (vz3, 1, 0)) fun e37 =>
    let yz16 : Int32 := e37.1
    let yz17 : Int32 := e37.2
    if x1 = 0 then
      some (yz16, Mz1)
    else
      some (yz17, Mz1)
def fM_answer_b17 (x3 : Int32) (M : Mm) : Option ((Int32 × Mm) ⊕ Mm) :=
  if 49 ≤ x3 then
    some (Sum.inr M)
  else
    if inb x3 49 then
    let Mz9 : Mm := mput M 248 (jix x3) 0
    some (Sum.inl ((x3 + 1), Mz9))
    else none
def fM_answer (x1 : Int32) (x2 : Int32) (M : Mm) : Option (Int32 × Mm) :=
  let Mz1 : Mm := mput M 217 0 0
  if x1 = (-1) then
    let Mz8 : Mm := mput Mz1 217 55 0
    Option.bind (lp 1000000 (fun s => fM_answer_b17 s.1 s.2) (0, Mz8)) fun e17 =>
    let Mz11 : Mm := e17
    some (0, Mz11)
  else
    let vz2 : Int32 := fM_isIn x1 0 6
    if vz2 = 0 then
      some ((-1), Mz1)
    else
      let vz3 : Int32 := fM_isIn x2 0 6
      if vz3 = 0 then
        some ((-1), Mz1)
      else
        if (Mz1 217 55) = 12 then
          some ((-1), Mz1)
        else
          if inb ((7 * x1) + x2) 49 then
          if inb ((7 * x1) + x2) 49 then
          let Mz5 : Mm := mput Mz1 248 (jix ((7 * x1) + x2)) ((Mz1 248 (jix ((7 * x1) + x2))) + 1)
          let Mz7 : Mm := mput Mz5 217 55 ((Mz5 217 55) + 1)
          some ((Mz7 217 55), Mz7)
          else none
          else none
def fM_likelyOf_b4 (x1 : Int32) (M : Mm) (x2 : Int32) (x3 : Int32) : Option ((Int32 × Int32) ⊕ Int32) :=
  if 7 ≤ x3 then
    some (Sum.inr x2)
  else
    if inb ((7 * x1) + x3) 49 then
    Option.bind (α := Int32) (
      if x2 = (-1) then
        some 0
      else
        if inb ((7 * x1) + x2) 49 then
        some (M 248 (jix ((7 * x1) + x2)))
        else none) fun yz3 =>
    some (Sum.inl ((if (M 248 (jix ((7 * x1) + x3))) ≤ yz3 then x2 else x3), (x3 + 1)))
    else none
def fM_likelyOf (x1 : Int32) (M : Mm) : Option Int32 :=
  Option.bind (lp 1000000 (fun s => fM_likelyOf_b4 x1 M s.1 s.2) ((-1), 0)) fun e4 =>
  let yz4 : Int32 := e4
  some yz4
def fM_followsOf_b18 (M : Mm) (x2 : Int32) (x3 : Int32) (x4 : Int32) : Option ((Int32 × Int32 × Int32) ⊕ (Unit ⊕ Int32)) :=
  let vz3 : Int32 := fM_lies x2 x3
  if vz3 = 0 then
    let vz4 : Int32 := (x2 ||| ((1 : Int32) <<< (x3 &&& 31)))
    Option.bind (fM_likelyOf x3 M) fun qz6 =>
    let vz7 : Int32 := (x4 + 1)
    if qz6 = (-1) then
      some (Sum.inr (Sum.inl ()))
    else
      some (Sum.inl (vz4, qz6, vz7))
  else
    some (Sum.inr (Sum.inr x4))
def fM_followsOf (x1 : Int32) (M : Mm) : Option Int32 :=
  Option.bind (fM_likelyOf x1 M) fun qz2 =>
  if qz2 = (-1) then
    some 0
  else
    Option.bind (lp 1000000 (fun s => fM_followsOf_b18 M s.1 s.2.1 s.2.2) (0, x1, 0)) fun e18 =>
    match e18 with
    | Sum.inl p18 =>
        some (-1)
    | Sum.inr p18 =>
        let yz8 : Int32 := p18
        some yz8
def fM_likely (x1 : Int32) (x2 : Int32) (M : Mm) : Option (Int32 × Mm) :=
  let Mz1 : Mm := mput M 217 0 0
  let vz2 : Int32 := fM_isIn x1 0 6
  if vz2 = 0 then
    some ((-1), Mz1)
  else
    let vz3 : Int32 := fM_isIn x2 0 1
    if vz3 = 0 then
      some ((-1), Mz1)
    else
      if x2 = 0 then
        Option.bind (fM_likelyOf x1 Mz1) fun qz7 =>
        some (qz7, Mz1)
      else
        Option.bind (fM_followsOf x1 Mz1) fun qz5 =>
        some (qz5, Mz1)
def fM_face (x1 : Int32) (x2 : Int32) (M : Mm) : Option (Int32 × Mm) :=
  let Mz1 : Mm := mput M 217 0 0
  if x1 = (-1) then
    let Mz9 : Mm := mput Mz1 217 57 0
    some (0, Mz9)
  else
    let vz2 : Int32 := fM_isIn x1 0 63
    if vz2 = 0 then
      some ((-1), Mz1)
    else
      let vz3 : Int32 := fM_isIn x2 (-2) 2
      if vz3 = 0 then
        some ((-1), Mz1)
      else
        if (Mz1 217 57) = 8 then
          some ((-1), Mz1)
        else
          if inb (Mz1 217 57) 8 then
          let Mz4 : Mm := mput Mz1 249 (jix (Mz1 217 57)) x1
          if inb (Mz4 217 57) 8 then
          let Mz6 : Mm := mput Mz4 250 (jix (Mz4 217 57)) x2
          let Mz8 : Mm := mput Mz6 217 57 ((Mz6 217 57) + 1)
          some ((Mz8 217 57), Mz8)
          else none
          else none
def fM_changeUp (x1 : Int32) (x2 : Int32) : Int32 :=
  ((x1 >>> ((2 * x2) &&& 31)) &&& 3)
def fM_canBe_b15 (x1 : Int32) (x2 : Int32) (M : Mm) (x3 : Int32) (x4 : Int32) : Option ((Int32 × Int32) ⊕ Int32) :=
  if 6 ≤ x4 then
    some (Sum.inr x3)
  else
    if inb x2 8 then
    let vz2 : Int32 := fM_lies (M 249 (jix x2)) x4
    Option.bind (α := Int32) (
      if vz2 = 0 then
        some x3
      else
        let vz3 : Int32 := fM_changeUp x1 x4
        let vz4 : Int32 := ((x3 + vz3) - 1)
        some vz4) fun yz5 =>
    some (Sum.inl (yz5, (x4 + 1)))
    else none
def fM_canBe_b2 (x1 : Int32) (M : Mm) (x2 : Int32) : Option (Int32 ⊕ (Unit ⊕ Unit)) :=
  if (M 217 57) ≤ x2 then
    some (Sum.inr (Sum.inr ()))
  else
    Option.bind (lp 1000000 (fun s => fM_canBe_b15 x1 x2 M s.1 s.2) (0, 0)) fun e15 =>
    let yz6 : Int32 := e15
    if inb x2 8 then
    if yz6 = (M 250 (jix x2)) then
      some (Sum.inl (x2 + 1))
    else
      some (Sum.inr (Sum.inl ()))
    else none
def fM_canBe (x1 : Int32) (M : Mm) : Option Int32 :=
  Option.bind (lp 1000000 (fun s => fM_canBe_b2 x1 M s) 0) fun e2 =>
  match e2 with
  | Sum.inl p2 =>
      some 0
  | Sum.inr p2 =>
      some 1
def fM_kindsFor_b4 (x1 : Int32) (x2 : Int32) (x3 : Int32) : Option ((Int32 × Int32) ⊕ Int32) :=
  if 6 ≤ x3 then
    some (Sum.inr x2)
  else
    let vz1 : Int32 := fM_changeUp x1 x3
    Option.bind (α := Int32) (
      if vz1 = 0 then
        some 3
      else
        let vz2 : Int32 := fM_changeUp x1 x3
        if vz2 = 1 then
          some 2
        else
          some 1) fun yz3 =>
    let vz4 : Int32 := (x2 * yz3)
    some (Sum.inl (vz4, (x3 + 1)))
def fM_kindsFor (x1 : Int32) : Option Int32 :=
  Option.bind (lp 1000000 (fun s => fM_kindsFor_b4 x1 s.1 s.2) (1, 0)) fun e4 =>
  let yz5 : Int32 := e4
  some yz5
def fM_faces_b27 (x1 : Int32) (M : Mm) (x2 : Int32) (x3 : Int32) (x4 : Int32) (x5 : Int32) : Option ((Int32 × Int32 × Int32 × Int32) ⊕ (Int32 × Int32 × Int32)) :=
  if 4096 ≤ x5 then
    some (Sum.inr (x2, x3, x4))
  else
    Option.bind (fM_canBe x5 M) fun qz4 =>
    Option.bind (α := (Int32 × Int32 × Int32)) (
      if qz4 = 0 then
        some (x2, x3, x4)
      else
        let vz5 : Int32 := (x4 ||| (x5 ^^^ (if x3 = (-1) then x5 else x3)))
        Option.bind (fM_kindsFor x5) fun qz7 =>
        let vz8 : Int32 := (x2 + qz7)
        some (vz8, (if x3 = (-1) then x5 else x3), vz5)) fun t73 =>
    let yz9 : Int32 := t73.1
    let yz10 : Int32 := t73.2.1
    let yz11 : Int32 := t73.2.2
    some (Sum.inl (yz9, yz10, yz11, (x5 + 1)))
def fM_faces_b91 (x3 : Int32) (x4 : Int32) (M : Mm) (x5 : Int32) (x6 : Int32) : Option ((Int32 × Int32) ⊕ Int32) :=
  if 6 ≤ x6 then
    some (Sum.inr x5)
  else
    Option.bind (α := Int32) (
      if x3 = (-1) then
        some x5
      else
        let vz15 : Int32 := fM_changeUp x4 x6
        if vz15 = 0 then
          let vz16 : Int32 := (x5 ||| ((1 : Int32) <<< (x6 &&& 31)))
          some vz16
        else
          some x5) fun yz17 =>
    some (Sum.inl (yz17, (x6 + 1)))
def fM_faces (x1 : Int32) (M : Mm) : Option (Int32 × Mm) :=
  let Mz1 : Mm := mput M 217 0 0
  let vz2 : Int32 := fM_isIn x1 0 1
  if vz2 = 0 then
    some ((-1), Mz1)
  else
    Option.bind (lp 1000000 (fun s => fM_faces_b27 x1 Mz1 s.1 s.2.1 s.2.2.1 s.2.2.2) (0, (-1), 0, 0)) fun e27 =>
    let yz12 : Int32 := e27.1
    let yz13 : Int32 := e27.2.1
    let yz14 : Int32 := e27.2.2
    if x1 = 0 then
      some (yz12, Mz1)
    else
      Option.bind (lp 1000000 (fun s => fM_faces_b91 yz13 yz14 Mz1 s.1 s.2) (0, 0)) fun e91 =>
      let yz18 : Int32 := e91
      some (yz18, Mz1)
def fM_joy_b50 (x1 : Int32) (x4 : Int32) (M : Mm) (x2 : Int32) (x3 : Int32) (x5 : Int32) (x6 : Int32) : Option ((Int32 × Int32 × Int32 × Int32) ⊕ (Int32 × Int32)) :=
  if (M 217 6) ≤ x6 then
    some (Sum.inr (x2, x3))
  else
    if inb (18 + x6) 174 then
    let vz4 : Int32 := (x5 + (M 218 (jix (18 + x6))))
    let vz5 : Int32 := (if vz4 ≤ x2 then x3 else x4)
    let vz6 : Int32 := fM_greater x2 vz4
    some (Sum.inl (vz6, vz5, vz4, (x6 + 1)))
    else none
def fM_joy_b34 (x1 : Int32) (M : Mm) (x2 : Int32) (x3 : Int32) (x4 : Int32) : Option ((Int32 × Int32 × Int32) ⊕ (Int32 × Int32)) :=
  if (M 217 6) ≤ x4 then
    some (Sum.inr (x2, x3))
  else
    Option.bind (lp 1000000 (fun s => fM_joy_b50 x1 x4 M s.1 s.2.1 s.2.2.1 s.2.2.2) (x2, x3, 0, x4)) fun e50 =>
    let yz7 : Int32 := e50.1
    let yz8 : Int32 := e50.2
    some (Sum.inl (yz7, yz8, (x4 + 1)))
def fM_joy (x1 : Int32) (M : Mm) : Option (Int32 × Mm) :=
  let Mz1 : Mm := mput M 217 0 0
  if (Mz1 217 6) = 0 then
    some ((-100), Mz1)
  else
    let vz2 : Int32 := fM_isIn x1 0 1
    if vz2 = 0 then
      some ((-100), Mz1)
    else
      Option.bind (lp 1000000 (fun s => fM_joy_b34 x1 Mz1 s.1 s.2.1 s.2.2) ((-100000000), 0, 0)) fun e34 =>
      let yz9 : Int32 := e34.1
      let yz10 : Int32 := e34.2
      if x1 = 0 then
        some (yz9, Mz1)
      else
        some (yz10, Mz1)
def fM_game_b21 (x1 : Int32) (M : Mm) (x2 : Int32) (x3 : Int32) : Option ((Int32 × Int32) ⊕ Int32) :=
  if (M 217 6) ≤ x3 then
    some (Sum.inr x2)
  else
    Option.bind (fM_lettersFor x3 M) fun qz4 =>
    let vz5 : Int32 := (x2 ^^^ (jrem qz4 3))
    some (Sum.inl (vz5, (x3 + 1)))
def fM_game_b73 (x1 : Int32) (x2 : Int32) (x3 : Int32) (x4 : Int32) (x5 : Int32) (M : Mm) (x6 : Int32) : Option (Int32 ⊕ (Int32 ⊕ Unit)) :=
  let vz10 : Int32 := fM_lesser x4 2
  if vz10 < x6 then
    some (Sum.inr (Sum.inr ()))
  else
    if (jrem (x4 - x6) 3) = x5 then
      some (Sum.inr (Sum.inl x6))
    else
      some (Sum.inl (x6 + 1))
def fM_game_b47 (x1 : Int32) (x2 : Int32) (M : Mm) (x3 : Int32) : Option (Int32 ⊕ ((Int32 × Int32) ⊕ Unit)) :=
  if (M 217 6) ≤ x3 then
    some (Sum.inr (Sum.inr ()))
  else
    Option.bind (fM_lettersFor x3 M) fun qz8 =>
    let vz9 : Int32 := (x2 ^^^ (jrem qz8 3))
    Option.bind (lp 1000000 (fun s => fM_game_b73 x1 x2 x3 qz8 vz9 M s) 1) fun e73 =>
    match e73 with
    | Sum.inl p73 =>
        let yz11 : Int32 := p73
        some (Sum.inr (Sum.inl (x3, yz11)))
    | Sum.inr p73 =>
        some (Sum.inl (x3 + 1))
def fM_game (x1 : Int32) (M : Mm) : Option (Int32 × Mm) :=
  let Mz1 : Mm := mput M 217 0 0
  let vz2 : Int32 := fM_isIn x1 0 1
  if vz2 = 0 then
    some ((-1), Mz1)
  else
    Option.bind (lp 1000000 (fun s => fM_game_b21 x1 Mz1 s.1 s.2) (0, 0)) fun e21 =>
    let yz6 : Int32 := e21
    Option.bind (lp 1000000 (fun s => fM_game_b47 x1 yz6 Mz1 s) 0) fun e47 =>
    match e47 with
    | Sum.inl p47 =>
        let yz12 : Int32 := p47.1
        let yz13 : Int32 := p47.2
        if x1 = 0 then
          some (yz12, Mz1)
        else
          some (yz13, Mz1)
    | Sum.inr p47 =>
        some ((-1), Mz1)
def fM_keeps (x1 : Int32) (M : Mm) : Option (Int32 × Mm) :=
  let Mz1 : Mm := mput M 217 62 ((M 217 62) + 1)
  if (Mz1 217 60) = 0 then
    if inb ((Mz1 217 62) - 1) 2300 then
    some ((Mz1 251 (jix ((Mz1 217 62) - 1))), Mz1)
    else none
  else
    if inb ((Mz1 217 62) - 1) 2300 then
    let Mz2 : Mm := mput Mz1 251 (jix ((Mz1 217 62) - 1)) x1
    some (x1, Mz2)
    else none
def fM_keepsLaw_b18 (x1 : Int32) (M : Mm) : Option ((Int32 × Mm) ⊕ Mm) :=
  if 16 ≤ x1 then
    some (Sum.inr M)
  else
    if inb x1 48 then
    Option.bind (fM_keeps (M 226 (jix x1)) M) fun qz6 =>
    if inb x1 48 then
    let Mz7 : Mm := mput qz6.2 226 (jix x1) qz6.1
    if inb x1 48 then
    Option.bind (fM_keeps (Mz7 227 (jix x1)) Mz7) fun qz11 =>
    if inb x1 48 then
    let Mz12 : Mm := mput qz11.2 227 (jix x1) qz11.1
    if inb x1 48 then
    Option.bind (fM_keeps (Mz12 228 (jix x1)) Mz12) fun qz16 =>
    if inb x1 48 then
    let Mz17 : Mm := mput qz16.2 228 (jix x1) qz16.1
    if inb x1 48 then
    Option.bind (fM_keeps (Mz17 229 (jix x1)) Mz17) fun qz21 =>
    if inb x1 48 then
    let Mz22 : Mm := mput qz21.2 229 (jix x1) qz21.1
    some (Sum.inl ((x1 + 1), Mz22))
    else none
    else none
    else none
    else none
    else none
    else none
    else none
    else none
def fM_keepsLaw_b96 (x1 : Int32) (M : Mm) : Option ((Int32 × Mm) ⊕ Mm) :=
  if 400 ≤ x1 then
    some (Sum.inr M)
  else
    if inb x1 1200 then
    Option.bind (fM_keeps (M 230 (jix x1)) M) fun qz27 =>
    if inb x1 1200 then
    let Mz28 : Mm := mput qz27.2 230 (jix x1) qz27.1
    if inb x1 1200 then
    Option.bind (fM_keeps (Mz28 231 (jix x1)) Mz28) fun qz32 =>
    if inb x1 1200 then
    let Mz33 : Mm := mput qz32.2 231 (jix x1) qz32.1
    some (Sum.inl ((x1 + 1), Mz33))
    else none
    else none
    else none
    else none
def fM_keepsLaw (M : Mm) : Option Mm :=
  Option.bind (fM_keeps (M 225 0) M) fun qz2 =>
  let Mz3 : Mm := mput qz2.2 225 0 qz2.1
  Option.bind (lp 1000000 (fun s => fM_keepsLaw_b18 s.1 s.2) (0, Mz3)) fun e18 =>
  let Mz24 : Mm := e18
  Option.bind (lp 1000000 (fun s => fM_keepsLaw_b96 s.1 s.2) (0, Mz24)) fun e96 =>
  let Mz35 : Mm := e96
  some Mz35
def fM_keepsMany (M : Mm) : Option Mm :=
  Option.bind (fM_keeps (M 217 6) M) fun qz2 =>
  let Mz3 : Mm := mput qz2.2 217 6 qz2.1
  Option.bind (fM_keeps (Mz3 217 32) Mz3) fun qz5 =>
  let Mz6 : Mm := mput qz5.2 217 32 qz5.1
  Option.bind (fM_keeps (Mz6 217 34) Mz6) fun qz8 =>
  let Mz9 : Mm := mput qz8.2 217 34 qz8.1
  Option.bind (fM_keeps (Mz9 217 36) Mz9) fun qz11 =>
  let Mz12 : Mm := mput qz11.2 217 36 qz11.1
  Option.bind (fM_keeps (Mz12 217 45) Mz12) fun qz14 =>
  let Mz15 : Mm := mput qz14.2 217 45 qz14.1
  Option.bind (fM_keeps (Mz15 217 49) Mz15) fun qz17 =>
  let Mz18 : Mm := mput qz17.2 217 49 qz17.1
  Option.bind (fM_keeps (Mz18 217 53) Mz18) fun qz20 =>
  let Mz21 : Mm := mput qz20.2 217 53 qz20.1
  Option.bind (fM_keeps (Mz21 217 55) Mz21) fun qz23 =>
  let Mz24 : Mm := mput qz23.2 217 55 qz23.1
  Option.bind (fM_keeps (Mz24 217 57) Mz24) fun qz26 =>
  let Mz27 : Mm := mput qz26.2 217 57 qz26.1
  some Mz27
def fM_keepsTold_b2 (x1 : Int32) (M : Mm) : Option ((Int32 × Mm) ⊕ Mm) :=
  if 12 ≤ x1 then
    some (Sum.inr M)
  else
    if inb x1 12 then
    Option.bind (fM_keeps (M 221 (jix x1)) M) fun qz3 =>
    if inb x1 12 then
    let Mz4 : Mm := mput qz3.2 221 (jix x1) qz3.1
    if inb x1 12 then
    Option.bind (fM_keeps (Mz4 244 (jix x1)) Mz4) fun qz8 =>
    if inb x1 12 then
    let Mz9 : Mm := mput qz8.2 244 (jix x1) qz8.1
    some (Sum.inl ((x1 + 1), Mz9))
    else none
    else none
    else none
    else none
def fM_keepsTold_b48 (x1 : Int32) (M : Mm) : Option ((Int32 × Mm) ⊕ Mm) :=
  if 8 ≤ x1 then
    some (Sum.inr M)
  else
    if inb x1 8 then
    Option.bind (fM_keeps (M 241 (jix x1)) M) fun qz14 =>
    if inb x1 8 then
    let Mz15 : Mm := mput qz14.2 241 (jix x1) qz14.1
    if inb x1 8 then
    Option.bind (fM_keeps (Mz15 247 (jix x1)) Mz15) fun qz19 =>
    if inb x1 8 then
    let Mz20 : Mm := mput qz19.2 247 (jix x1) qz19.1
    if inb x1 8 then
    Option.bind (fM_keeps (Mz20 249 (jix x1)) Mz20) fun qz24 =>
    if inb x1 8 then
    let Mz25 : Mm := mput qz24.2 249 (jix x1) qz24.1
    if inb x1 8 then
    Option.bind (fM_keeps (Mz25 250 (jix x1)) Mz25) fun qz29 =>
    if inb x1 8 then
    let Mz30 : Mm := mput qz29.2 250 (jix x1) qz29.1
    some (Sum.inl ((x1 + 1), Mz30))
    else none
    else none
    else none
    else none
    else none
    else none
    else none
    else none
def fM_keepsTold_b126 (x1 : Int32) (M : Mm) : Option ((Int32 × Mm) ⊕ Mm) :=
  if 26 ≤ x1 then
    some (Sum.inr M)
  else
    if inb x1 26 then
    Option.bind (fM_keeps (M 246 (jix x1)) M) fun qz35 =>
    if inb x1 26 then
    let Mz36 : Mm := mput qz35.2 246 (jix x1) qz35.1
    some (Sum.inl ((x1 + 1), Mz36))
    else none
    else none
def fM_keepsTold_b156 (x1 : Int32) (M : Mm) : Option ((Int32 × Mm) ⊕ Mm) :=
  if 49 ≤ x1 then
    some (Sum.inr M)
  else
    if inb x1 49 then
    Option.bind (fM_keeps (M 248 (jix x1)) M) fun qz41 =>
    if inb x1 49 then
    let Mz42 : Mm := mput qz41.2 248 (jix x1) qz41.1
    some (Sum.inl ((x1 + 1), Mz42))
    else none
    else none
def fM_keepsTold_b186 (x1 : Int32) (M : Mm) : Option ((Int32 × Mm) ⊕ Mm) :=
  if 64 ≤ x1 then
    some (Sum.inr M)
  else
    if inb x1 128 then
    Option.bind (fM_keeps (M 233 (jix x1)) M) fun qz47 =>
    if inb x1 128 then
    let Mz48 : Mm := mput qz47.2 233 (jix x1) qz47.1
    some (Sum.inl ((x1 + 1), Mz48))
    else none
    else none
def fM_keepsTold_b216 (x1 : Int32) (M : Mm) : Option ((Int32 × Mm) ⊕ Mm) :=
  if 16 ≤ x1 then
    some (Sum.inr M)
  else
    if inb x1 32 then
    Option.bind (fM_keeps (M 234 (jix x1)) M) fun qz53 =>
    if inb x1 32 then
    let Mz54 : Mm := mput qz53.2 234 (jix x1) qz53.1
    some (Sum.inl ((x1 + 1), Mz54))
    else none
    else none
def fM_keepsTold_b246 (x1 : Int32) (M : Mm) : Option ((Int32 × Mm) ⊕ Mm) :=
  if 144 ≤ x1 then
    some (Sum.inr M)
  else
    if inb x1 288 then
    Option.bind (fM_keeps (M 235 (jix x1)) M) fun qz59 =>
    if inb x1 288 then
    let Mz60 : Mm := mput qz59.2 235 (jix x1) qz59.1
    some (Sum.inl ((x1 + 1), Mz60))
    else none
    else none
def fM_keepsTold (M : Mm) : Option Mm :=
  Option.bind (lp 1000000 (fun s => fM_keepsTold_b2 s.1 s.2) (0, M)) fun e2 =>
  let Mz11 : Mm := e2
  Option.bind (lp 1000000 (fun s => fM_keepsTold_b48 s.1 s.2) (0, Mz11)) fun e48 =>
  let Mz32 : Mm := e48
  Option.bind (lp 1000000 (fun s => fM_keepsTold_b126 s.1 s.2) (0, Mz32)) fun e126 =>
  let Mz38 : Mm := e126
  Option.bind (lp 1000000 (fun s => fM_keepsTold_b156 s.1 s.2) (0, Mz38)) fun e156 =>
  let Mz44 : Mm := e156
  Option.bind (lp 1000000 (fun s => fM_keepsTold_b186 s.1 s.2) (0, Mz44)) fun e186 =>
  let Mz50 : Mm := e186
  Option.bind (lp 1000000 (fun s => fM_keepsTold_b216 s.1 s.2) (0, Mz50)) fun e216 =>
  let Mz56 : Mm := e216
  Option.bind (lp 1000000 (fun s => fM_keepsTold_b246 s.1 s.2) (0, Mz56)) fun e246 =>
  let Mz62 : Mm := e246
  some Mz62
def fM_image_b35 (x1 : Int32) (x2 : Int32) (M : Mm) : Option ((Int32 × Mm) ⊕ Mm) :=
  if 174 ≤ x2 then
    some (Sum.inr M)
  else
    if inb x2 174 then
    Option.bind (fM_keeps (M 218 (jix x2)) M) fun qz8 =>
    if inb x2 174 then
    let Mz9 : Mm := mput qz8.2 218 (jix x2) qz8.1
    some (Sum.inl ((x2 + 1), Mz9))
    else none
    else none
def fM_image_b74 (x1 : Int32) (x2 : Int32) (M : Mm) : Option ((Int32 × Mm) ⊕ Mm) :=
  if 600 ≤ x2 then
    some (Sum.inr M)
  else
    if inb x2 600 then
    Option.bind (fM_keeps (M 222 (jix x2)) M) fun qz18 =>
    if inb x2 600 then
    let Mz19 : Mm := mput qz18.2 222 (jix x2) qz18.1
    some (Sum.inl ((x2 + 1), Mz19))
    else none
    else none
def fM_image_j18 (z1 : Int32) (M : Mm) : Option (Int32 × Mm) :=
  if z1 = 0 ∨ z1 = 1 then
  let Mz3 : Mm := mput M 217 60 z1
  let Mz4 : Mm := mput Mz3 217 61 1
  let Mz5 : Mm := mput Mz4 217 62 0
  Option.bind (lp 1000000 (fun s => fM_image_b35 z1 s.1 s.2) (0, Mz5)) fun e35 =>
  let Mz11 : Mm := e35
  Option.bind (fM_keepsMany Mz11) fun Mz13 =>
  Option.bind (fM_keepsTold Mz13) fun Mz15 =>
  Option.bind (lp 1000000 (fun s => fM_image_b74 z1 s.1 s.2) (0, Mz15)) fun e74 =>
  let Mz21 : Mm := e74
  Option.bind (fM_keepsLaw Mz21) fun Mz23 =>
  if z1 = 0 then
    let Mz24 : Mm := mput Mz23 217 3 0
    some (1, Mz24)
  else
    some (1, Mz23)
  else none
def fM_image (x1 : Int32) (M : Mm) : Option (Int32 × Mm) :=
  let Mz1 : Mm := mput M 217 0 0
  if x1 = 0 then
    if (Mz1 217 61) = 0 then
      some (0, Mz1)
    else
      fM_image_j18 x1 Mz1
  else
    fM_image_j18 x1 Mz1
def fM_look (x1 : Int32) (M : Mm) : (Int32 × Mm) :=
  let Mz1 : Mm := mput M 217 0 0
  if x1 = 0 then
    ((Mz1 217 6), Mz1)
  else
    if x1 = 1 then
      ((Mz1 218 10), Mz1)
    else
      if x1 = 2 then
        let vz2 : Int32 := fM_health Mz1
        (vz2, Mz1)
      else
        if x1 = 3 then
          ((Mz1 218 5), Mz1)
        else
          if x1 = 4 then
            ((Mz1 218 6), Mz1)
          else
            if x1 = 5 then
              ((Mz1 218 7), Mz1)
            else
              if x1 = 6 then
                ((Mz1 218 3), Mz1)
              else
                if x1 = 7 then
                  ((Mz1 218 8), Mz1)
                else
                  if x1 = 8 then
                    ((Mz1 218 0), Mz1)
                  else
                    if x1 = 9 then
                      ((Mz1 218 2), Mz1)
                    else
                      if x1 = 10 then
                        ((Mz1 218 1), Mz1)
                      else
                        if x1 = 11 then
                          ((Mz1 225 0), Mz1)
                        else
                          if x1 = 12 then
                            ((Mz1 217 32), Mz1)
                          else
                            if x1 = 13 then
                              ((Mz1 217 34), Mz1)
                            else
                              if x1 = 14 then
                                ((Mz1 217 36), Mz1)
                              else
                                if x1 = 15 then
                                  ((Mz1 217 3), Mz1)
                                else
                                  ((-1), Mz1)
def fZ_law_j1286 (L : Nat) (xs : Nat → Int32) (z3 : Int32) (M : Mm) : Option ((Int32 × Mm) ⊕ (Mm ⊕ Mm ⊕ Mm ⊕ Mm ⊕ Mm ⊕ Mm ⊕ Mm ⊕ Mm ⊕ Mm ⊕ Mm ⊕ Mm ⊕ Mm ⊕ Mm ⊕ Mm ⊕ Mm ⊕ Mm ⊕ Mm ⊕ Mm ⊕ Mm ⊕ Mm ⊕ Mm ⊕ Mm ⊕ Mm ⊕ Mm ⊕ Mm ⊕ Mm ⊕ Mm ⊕ Mm ⊕ Mm ⊕ Mm ⊕ Mm ⊕ Mm ⊕ Mm ⊕ Mm ⊕ Mm ⊕ Mm ⊕ Mm)) :=
  some (Sum.inl ((z3 + 6), M))
def fZ_law_b18 (L : Nat) (xs : Nat → Int32) (x3 : Int32) (M : Mm) : Option ((Int32 × Mm) ⊕ (Mm ⊕ Mm ⊕ Mm ⊕ Mm ⊕ Mm ⊕ Mm ⊕ Mm ⊕ Mm ⊕ Mm ⊕ Mm ⊕ Mm ⊕ Mm ⊕ Mm ⊕ Mm ⊕ Mm ⊕ Mm ⊕ Mm ⊕ Mm ⊕ Mm ⊕ Mm ⊕ Mm ⊕ Mm ⊕ Mm ⊕ Mm ⊕ Mm ⊕ Mm ⊕ Mm ⊕ Mm ⊕ Mm ⊕ Mm ⊕ Mm ⊕ Mm ⊕ Mm ⊕ Mm ⊕ Mm ⊕ Mm ⊕ Mm)) :=
  if ((nI L) - 6) < x3 then
    some (Sum.inr (Sum.inr (Sum.inr (Sum.inr (Sum.inr (Sum.inr (Sum.inr (Sum.inr (Sum.inr (Sum.inr (Sum.inr (Sum.inr (Sum.inr (Sum.inr (Sum.inr (Sum.inr (Sum.inr (Sum.inr (Sum.inr (Sum.inr (Sum.inr (Sum.inr (Sum.inr (Sum.inr (Sum.inr (Sum.inr (Sum.inr (Sum.inr (Sum.inr (Sum.inr (Sum.inr (Sum.inr (Sum.inr (Sum.inr (Sum.inr (Sum.inr (Sum.inr M)))))))))))))))))))))))))))))))))))))
  else
    if inb x3 L then
    if ((xs (jix x3)) &&& 63) = 0 then
      if inb (x3 + 1) L then
      let qz3 : Int32 × Mm := fK_state (xs (jix (x3 + 1))) M
      if inb (x3 + 1) L then
      let qz5 : Int32 × Mm := fM_state (xs (jix (x3 + 1))) qz3.2
      if qz3.1 = qz5.1 then
        fZ_law_j1286 L xs x3 qz5.2
      else
        some (Sum.inr (Sum.inl qz5.2))
      else none
      else none
    else if ((xs (jix x3)) &&& 63) = 1 then
      if inb (x3 + 1) L then
      if inb (x3 + 2) L then
      if inb (x3 + 3) L then
      Option.bind (fK_door (xs (jix (x3 + 1))) (xs (jix (x3 + 2))) (xs (jix (x3 + 3))) M) fun qz10 =>
      if inb (x3 + 1) L then
      if inb (x3 + 2) L then
      if inb (x3 + 3) L then
      Option.bind (fM_door (xs (jix (x3 + 1))) (xs (jix (x3 + 2))) (xs (jix (x3 + 3))) qz10.2) fun qz15 =>
      if qz10.1 = qz15.1 then
        fZ_law_j1286 L xs x3 qz15.2
      else
        some (Sum.inr (Sum.inr (Sum.inl qz15.2)))
      else none
      else none
      else none
      else none
      else none
      else none
    else if ((xs (jix x3)) &&& 63) = 2 then
      if inb (x3 + 1) L then
      if inb (x3 + 2) L then
      if inb (x3 + 3) L then
      Option.bind (fK_set (xs (jix (x3 + 1))) (xs (jix (x3 + 2))) (xs (jix (x3 + 3))) M) fun qz20 =>
      if inb (x3 + 1) L then
      if inb (x3 + 2) L then
      if inb (x3 + 3) L then
      Option.bind (fM_set (xs (jix (x3 + 1))) (xs (jix (x3 + 2))) (xs (jix (x3 + 3))) qz20.2) fun qz25 =>
      if qz20.1 = qz25.1 then
        fZ_law_j1286 L xs x3 qz25.2
      else
        some (Sum.inr (Sum.inr (Sum.inr (Sum.inl qz25.2))))
      else none
      else none
      else none
      else none
      else none
      else none
    else if ((xs (jix x3)) &&& 63) = 3 then
      if inb (x3 + 1) L then
      if inb (x3 + 2) L then
      if inb (x3 + 3) L then
      Option.bind (fK_post (xs (jix (x3 + 1))) (xs (jix (x3 + 2))) (xs (jix (x3 + 3))) M) fun qz30 =>
      if inb (x3 + 1) L then
      if inb (x3 + 2) L then
      if inb (x3 + 3) L then
      Option.bind (fM_post (xs (jix (x3 + 1))) (xs (jix (x3 + 2))) (xs (jix (x3 + 3))) qz30.2) fun qz35 =>
      if qz30.1 = qz35.1 then
        fZ_law_j1286 L xs x3 qz35.2
      else
        some (Sum.inr (Sum.inr (Sum.inr (Sum.inr (Sum.inl qz35.2)))))
      else none
      else none
      else none
      else none
      else none
      else none
    else if ((xs (jix x3)) &&& 63) = 4 then
      if inb (x3 + 1) L then
      Option.bind (fK_bring (xs (jix (x3 + 1))) M) fun qz38 =>
      if inb (x3 + 1) L then
      Option.bind (fM_bring (xs (jix (x3 + 1))) qz38.2) fun qz41 =>
      if qz38.1 = qz41.1 then
        fZ_law_j1286 L xs x3 qz41.2
      else
        some (Sum.inr (Sum.inr (Sum.inr (Sum.inr (Sum.inr (Sum.inl qz41.2))))))
      else none
      else none
    else if ((xs (jix x3)) &&& 63) = 5 then
      if inb (x3 + 1) L then
      Option.bind (fK_rain (xs (jix (x3 + 1))) M) fun qz44 =>
      if inb (x3 + 1) L then
      Option.bind (fM_rain (xs (jix (x3 + 1))) qz44.2) fun qz47 =>
      if qz44.1 = qz47.1 then
        fZ_law_j1286 L xs x3 qz47.2
      else
        some (Sum.inr (Sum.inr (Sum.inr (Sum.inr (Sum.inr (Sum.inr (Sum.inl qz47.2)))))))
      else none
      else none
    else if ((xs (jix x3)) &&& 63) = 6 then
      if inb (x3 + 1) L then
      Option.bind (fK_days (xs (jix (x3 + 1))) M) fun qz50 =>
      if inb (x3 + 1) L then
      Option.bind (fM_days (xs (jix (x3 + 1))) qz50.2) fun qz53 =>
      if qz50.1 = qz53.1 then
        fZ_law_j1286 L xs x3 qz53.2
      else
        some (Sum.inr (Sum.inr (Sum.inr (Sum.inr (Sum.inr (Sum.inr (Sum.inr (Sum.inl qz53.2))))))))
      else none
      else none
    else if ((xs (jix x3)) &&& 63) = 7 then
      if inb (x3 + 1) L then
      if inb (x3 + 2) L then
      if inb (x3 + 3) L then
      if inb (x3 + 4) L then
      if inb (x3 + 5) L then
      Option.bind (fK_feed (xs (jix (x3 + 1))) (xs (jix (x3 + 2))) (xs (jix (x3 + 3))) (xs (jix (x3 + 4))) (xs (jix (x3 + 5))) M) fun qz60 =>
      if inb (x3 + 1) L then
      if inb (x3 + 2) L then
      if inb (x3 + 3) L then
      if inb (x3 + 4) L then
      if inb (x3 + 5) L then
      Option.bind (fM_feed (xs (jix (x3 + 1))) (xs (jix (x3 + 2))) (xs (jix (x3 + 3))) (xs (jix (x3 + 4))) (xs (jix (x3 + 5))) qz60.2) fun qz67 =>
      if qz60.1 = qz67.1 then
        fZ_law_j1286 L xs x3 qz67.2
      else
        some (Sum.inr (Sum.inr (Sum.inr (Sum.inr (Sum.inr (Sum.inr (Sum.inr (Sum.inr (Sum.inl qz67.2)))))))))
      else none
      else none
      else none
      else none
      else none
      else none
      else none
      else none
      else none
      else none
    else if ((xs (jix x3)) &&& 63) = 8 then
      if inb (x3 + 1) L then
      let qz69 : Int32 × Mm := fK_end (xs (jix (x3 + 1))) M
      if inb (x3 + 1) L then
      let qz71 : Int32 × Mm := fM_end (xs (jix (x3 + 1))) qz69.2
      if qz69.1 = qz71.1 then
        fZ_law_j1286 L xs x3 qz71.2
      else
        some (Sum.inr (Sum.inr (Sum.inr (Sum.inr (Sum.inr (Sum.inr (Sum.inr (Sum.inr (Sum.inr (Sum.inl qz71.2))))))))))
      else none
      else none
    else if ((xs (jix x3)) &&& 63) = 9 then
      if inb (x3 + 1) L then
      Option.bind (fK_text (xs (jix (x3 + 1))) M) fun qz74 =>
      if inb (x3 + 1) L then
      Option.bind (fM_text (xs (jix (x3 + 1))) qz74.2) fun qz77 =>
      if qz74.1 = qz77.1 then
        fZ_law_j1286 L xs x3 qz77.2
      else
        some (Sum.inr (Sum.inr (Sum.inr (Sum.inr (Sum.inr (Sum.inr (Sum.inr (Sum.inr (Sum.inr (Sum.inr (Sum.inl qz77.2)))))))))))
      else none
      else none
    else if ((xs (jix x3)) &&& 63) = 10 then
      if inb (x3 + 1) L then
      let vz79 : Int32 := fK_fault (xs (jix (x3 + 1))) M
      if inb (x3 + 1) L then
      let qz81 : Int32 × Mm := fM_fault (xs (jix (x3 + 1))) M
      if vz79 = qz81.1 then
        fZ_law_j1286 L xs x3 qz81.2
      else
        some (Sum.inr (Sum.inr (Sum.inr (Sum.inr (Sum.inr (Sum.inr (Sum.inr (Sum.inr (Sum.inr (Sum.inr (Sum.inr (Sum.inl qz81.2))))))))))))
      else none
      else none
    else if ((xs (jix x3)) &&& 63) = 11 then
      if inb (x3 + 1) L then
      if inb (x3 + 2) L then
      Option.bind (fK_of (xs (jix (x3 + 1))) (xs (jix (x3 + 2))) M) fun qz85 =>
      if inb (x3 + 1) L then
      if inb (x3 + 2) L then
      Option.bind (fM_of (xs (jix (x3 + 1))) (xs (jix (x3 + 2))) M) fun qz89 =>
      if qz85 = qz89.1 then
        fZ_law_j1286 L xs x3 qz89.2
      else
        some (Sum.inr (Sum.inr (Sum.inr (Sum.inr (Sum.inr (Sum.inr (Sum.inr (Sum.inr (Sum.inr (Sum.inr (Sum.inr (Sum.inr (Sum.inl qz89.2)))))))))))))
      else none
      else none
      else none
      else none
    else if ((xs (jix x3)) &&& 63) = 12 then
      if inb (x3 + 1) L then
      if inb (x3 + 2) L then
      Option.bind (fK_letter (xs (jix (x3 + 1))) (xs (jix (x3 + 2))) M) fun qz93 =>
      if inb (x3 + 1) L then
      if inb (x3 + 2) L then
      Option.bind (fM_letter (xs (jix (x3 + 1))) (xs (jix (x3 + 2))) qz93.2) fun qz97 =>
      if qz93.1 = qz97.1 then
        fZ_law_j1286 L xs x3 qz97.2
      else
        some (Sum.inr (Sum.inr (Sum.inr (Sum.inr (Sum.inr (Sum.inr (Sum.inr (Sum.inr (Sum.inr (Sum.inr (Sum.inr (Sum.inr (Sum.inr (Sum.inl qz97.2))))))))))))))
      else none
      else none
      else none
      else none
    else if ((xs (jix x3)) &&& 63) = 13 then
      if inb (x3 + 1) L then
      Option.bind (fK_given (xs (jix (x3 + 1))) M) fun qz100 =>
      if inb (x3 + 1) L then
      Option.bind (fM_given (xs (jix (x3 + 1))) M) fun qz103 =>
      if qz100 = qz103.1 then
        fZ_law_j1286 L xs x3 qz103.2
      else
        some (Sum.inr (Sum.inr (Sum.inr (Sum.inr (Sum.inr (Sum.inr (Sum.inr (Sum.inr (Sum.inr (Sum.inr (Sum.inr (Sum.inr (Sum.inr (Sum.inr (Sum.inl qz103.2)))))))))))))))
      else none
      else none
    else if ((xs (jix x3)) &&& 63) = 14 then
      if inb (x3 + 1) L then
      if inb (x3 + 2) L then
      Option.bind (fK_book (xs (jix (x3 + 1))) (xs (jix (x3 + 2))) M) fun qz107 =>
      if inb (x3 + 1) L then
      if inb (x3 + 2) L then
      Option.bind (fM_book (xs (jix (x3 + 1))) (xs (jix (x3 + 2))) M) fun qz111 =>
      if qz107 = qz111.1 then
        fZ_law_j1286 L xs x3 qz111.2
      else
        some (Sum.inr (Sum.inr (Sum.inr (Sum.inr (Sum.inr (Sum.inr (Sum.inr (Sum.inr (Sum.inr (Sum.inr (Sum.inr (Sum.inr (Sum.inr (Sum.inr (Sum.inr (Sum.inl qz111.2))))))))))))))))
      else none
      else none
      else none
      else none
    else if ((xs (jix x3)) &&& 63) = 15 then
      if inb (x3 + 1) L then
      if inb (x3 + 2) L then
      Option.bind (fK_goes (xs (jix (x3 + 1))) (xs (jix (x3 + 2))) M) fun qz115 =>
      if inb (x3 + 1) L then
      if inb (x3 + 2) L then
      Option.bind (fM_goes (xs (jix (x3 + 1))) (xs (jix (x3 + 2))) qz115.2) fun qz119 =>
      if qz115.1 = qz119.1 then
        fZ_law_j1286 L xs x3 qz119.2
      else
        some (Sum.inr (Sum.inr (Sum.inr (Sum.inr (Sum.inr (Sum.inr (Sum.inr (Sum.inr (Sum.inr (Sum.inr (Sum.inr (Sum.inr (Sum.inr (Sum.inr (Sum.inr (Sum.inr (Sum.inl qz119.2)))))))))))))))))
      else none
      else none
      else none
      else none
    else if ((xs (jix x3)) &&& 63) = 16 then
      if inb (x3 + 1) L then
      if inb (x3 + 2) L then
      Option.bind (fK_shortest (xs (jix (x3 + 1))) (xs (jix (x3 + 2))) M) fun qz123 =>
      if inb (x3 + 1) L then
      if inb (x3 + 2) L then
      Option.bind (fM_shortest (xs (jix (x3 + 1))) (xs (jix (x3 + 2))) qz123.2) fun qz127 =>
      if qz123.1 = qz127.1 then
        fZ_law_j1286 L xs x3 qz127.2
      else
        some (Sum.inr (Sum.inr (Sum.inr (Sum.inr (Sum.inr (Sum.inr (Sum.inr (Sum.inr (Sum.inr (Sum.inr (Sum.inr (Sum.inr (Sum.inr (Sum.inr (Sum.inr (Sum.inr (Sum.inr (Sum.inl qz127.2))))))))))))))))))
      else none
      else none
      else none
      else none
    else if ((xs (jix x3)) &&& 63) = 17 then
      if inb (x3 + 1) L then
      Option.bind (fK_blow (xs (jix (x3 + 1))) M) fun qz130 =>
      if inb (x3 + 1) L then
      Option.bind (fM_blow (xs (jix (x3 + 1))) qz130.2) fun qz133 =>
      if qz130.1 = qz133.1 then
        fZ_law_j1286 L xs x3 qz133.2
      else
        some (Sum.inr (Sum.inr (Sum.inr (Sum.inr (Sum.inr (Sum.inr (Sum.inr (Sum.inr (Sum.inr (Sum.inr (Sum.inr (Sum.inr (Sum.inr (Sum.inr (Sum.inr (Sum.inr (Sum.inr (Sum.inr (Sum.inl qz133.2)))))))))))))))))))
      else none
      else none
    else if ((xs (jix x3)) &&& 63) = 18 then
      if inb (x3 + 1) L then
      if inb (x3 + 2) L then
      Option.bind (fK_bears (xs (jix (x3 + 1))) (xs (jix (x3 + 2))) M) fun qz137 =>
      if inb (x3 + 1) L then
      if inb (x3 + 2) L then
      Option.bind (fM_bears (xs (jix (x3 + 1))) (xs (jix (x3 + 2))) qz137.2) fun qz141 =>
      if qz137.1 = qz141.1 then
        fZ_law_j1286 L xs x3 qz141.2
      else
        some (Sum.inr (Sum.inr (Sum.inr (Sum.inr (Sum.inr (Sum.inr (Sum.inr (Sum.inr (Sum.inr (Sum.inr (Sum.inr (Sum.inr (Sum.inr (Sum.inr (Sum.inr (Sum.inr (Sum.inr (Sum.inr (Sum.inr (Sum.inl qz141.2))))))))))))))))))))
      else none
      else none
      else none
      else none
    else if ((xs (jix x3)) &&& 63) = 19 then
      if inb (x3 + 1) L then
      if inb (x3 + 2) L then
      Option.bind (fK_carries (xs (jix (x3 + 1))) (xs (jix (x3 + 2))) M) fun qz145 =>
      if inb (x3 + 1) L then
      if inb (x3 + 2) L then
      Option.bind (fM_carries (xs (jix (x3 + 1))) (xs (jix (x3 + 2))) qz145.2) fun qz149 =>
      if qz145.1 = qz149.1 then
        fZ_law_j1286 L xs x3 qz149.2
      else
        some (Sum.inr (Sum.inr (Sum.inr (Sum.inr (Sum.inr (Sum.inr (Sum.inr (Sum.inr (Sum.inr (Sum.inr (Sum.inr (Sum.inr (Sum.inr (Sum.inr (Sum.inr (Sum.inr (Sum.inr (Sum.inr (Sum.inr (Sum.inr (Sum.inl qz149.2)))))))))))))))))))))
      else none
      else none
      else none
      else none
    else if ((xs (jix x3)) &&& 63) = 20 then
      if inb (x3 + 1) L then
      if inb (x3 + 2) L then
      if inb (x3 + 3) L then
      Option.bind (fK_owes (xs (jix (x3 + 1))) (xs (jix (x3 + 2))) (xs (jix (x3 + 3))) M) fun qz154 =>
      if inb (x3 + 1) L then
      if inb (x3 + 2) L then
      if inb (x3 + 3) L then
      Option.bind (fM_owes (xs (jix (x3 + 1))) (xs (jix (x3 + 2))) (xs (jix (x3 + 3))) qz154.2) fun qz159 =>
      if qz154.1 = qz159.1 then
        fZ_law_j1286 L xs x3 qz159.2
      else
        some (Sum.inr (Sum.inr (Sum.inr (Sum.inr (Sum.inr (Sum.inr (Sum.inr (Sum.inr (Sum.inr (Sum.inr (Sum.inr (Sum.inr (Sum.inr (Sum.inr (Sum.inr (Sum.inr (Sum.inr (Sum.inr (Sum.inr (Sum.inr (Sum.inr (Sum.inl qz159.2))))))))))))))))))))))
      else none
      else none
      else none
      else none
      else none
      else none
    else if ((xs (jix x3)) &&& 63) = 21 then
      if inb (x3 + 1) L then
      Option.bind (fK_net (xs (jix (x3 + 1))) M) fun qz162 =>
      if inb (x3 + 1) L then
      Option.bind (fM_net (xs (jix (x3 + 1))) qz162.2) fun qz165 =>
      if qz162.1 = qz165.1 then
        fZ_law_j1286 L xs x3 qz165.2
      else
        some (Sum.inr (Sum.inr (Sum.inr (Sum.inr (Sum.inr (Sum.inr (Sum.inr (Sum.inr (Sum.inr (Sum.inr (Sum.inr (Sum.inr (Sum.inr (Sum.inr (Sum.inr (Sum.inr (Sum.inr (Sum.inr (Sum.inr (Sum.inr (Sum.inr (Sum.inr (Sum.inl qz165.2)))))))))))))))))))))))
      else none
      else none
    else if ((xs (jix x3)) &&& 63) = 22 then
      if inb (x3 + 1) L then
      if inb (x3 + 2) L then
      if inb (x3 + 3) L then
      if inb (x3 + 4) L then
      Option.bind (fK_chain (xs (jix (x3 + 1))) (xs (jix (x3 + 2))) (xs (jix (x3 + 3))) (xs (jix (x3 + 4)))) fun qz171 =>
      if inb (x3 + 1) L then
      if inb (x3 + 2) L then
      if inb (x3 + 3) L then
      if inb (x3 + 4) L then
      Option.bind (fM_chain (xs (jix (x3 + 1))) (xs (jix (x3 + 2))) (xs (jix (x3 + 3))) (xs (jix (x3 + 4))) M) fun qz177 =>
      if qz171 = qz177.1 then
        fZ_law_j1286 L xs x3 qz177.2
      else
        some (Sum.inr (Sum.inr (Sum.inr (Sum.inr (Sum.inr (Sum.inr (Sum.inr (Sum.inr (Sum.inr (Sum.inr (Sum.inr (Sum.inr (Sum.inr (Sum.inr (Sum.inr (Sum.inr (Sum.inr (Sum.inr (Sum.inr (Sum.inr (Sum.inr (Sum.inr (Sum.inr (Sum.inl qz177.2))))))))))))))))))))))))
      else none
      else none
      else none
      else none
      else none
      else none
      else none
      else none
    else if ((xs (jix x3)) &&& 63) = 23 then
      if inb (x3 + 1) L then
      if inb (x3 + 2) L then
      Option.bind (fK_has (xs (jix (x3 + 1))) (xs (jix (x3 + 2))) M) fun qz181 =>
      if inb (x3 + 1) L then
      if inb (x3 + 2) L then
      Option.bind (fM_has (xs (jix (x3 + 1))) (xs (jix (x3 + 2))) qz181.2) fun qz185 =>
      if qz181.1 = qz185.1 then
        fZ_law_j1286 L xs x3 qz185.2
      else
        some (Sum.inr (Sum.inr (Sum.inr (Sum.inr (Sum.inr (Sum.inr (Sum.inr (Sum.inr (Sum.inr (Sum.inr (Sum.inr (Sum.inr (Sum.inr (Sum.inr (Sum.inr (Sum.inr (Sum.inr (Sum.inr (Sum.inr (Sum.inr (Sum.inr (Sum.inr (Sum.inr (Sum.inr (Sum.inl qz185.2)))))))))))))))))))))))))
      else none
      else none
      else none
      else none
    else if ((xs (jix x3)) &&& 63) = 24 then
      if inb (x3 + 1) L then
      Option.bind (fK_spell (xs (jix (x3 + 1))) M) fun qz188 =>
      if inb (x3 + 1) L then
      Option.bind (fM_spell (xs (jix (x3 + 1))) qz188.2) fun qz191 =>
      if qz188.1 = qz191.1 then
        fZ_law_j1286 L xs x3 qz191.2
      else
        some (Sum.inr (Sum.inr (Sum.inr (Sum.inr (Sum.inr (Sum.inr (Sum.inr (Sum.inr (Sum.inr (Sum.inr (Sum.inr (Sum.inr (Sum.inr (Sum.inr (Sum.inr (Sum.inr (Sum.inr (Sum.inr (Sum.inr (Sum.inr (Sum.inr (Sum.inr (Sum.inr (Sum.inr (Sum.inr (Sum.inl qz191.2))))))))))))))))))))))))))
      else none
      else none
    else if ((xs (jix x3)) &&& 63) = 25 then
      if inb (x3 + 1) L then
      Option.bind (fK_lays (xs (jix (x3 + 1))) M) fun qz194 =>
      if inb (x3 + 1) L then
      Option.bind (fM_lays (xs (jix (x3 + 1))) M) fun qz197 =>
      if qz194 = qz197.1 then
        fZ_law_j1286 L xs x3 qz197.2
      else
        some (Sum.inr (Sum.inr (Sum.inr (Sum.inr (Sum.inr (Sum.inr (Sum.inr (Sum.inr (Sum.inr (Sum.inr (Sum.inr (Sum.inr (Sum.inr (Sum.inr (Sum.inr (Sum.inr (Sum.inr (Sum.inr (Sum.inr (Sum.inr (Sum.inr (Sum.inr (Sum.inr (Sum.inr (Sum.inr (Sum.inr (Sum.inl qz197.2)))))))))))))))))))))))))))
      else none
      else none
    else if ((xs (jix x3)) &&& 63) = 26 then
      if inb (x3 + 1) L then
      if inb (x3 + 2) L then
      Option.bind (fK_answer (xs (jix (x3 + 1))) (xs (jix (x3 + 2))) M) fun qz201 =>
      if inb (x3 + 1) L then
      if inb (x3 + 2) L then
      Option.bind (fM_answer (xs (jix (x3 + 1))) (xs (jix (x3 + 2))) qz201.2) fun qz205 =>
      if qz201.1 = qz205.1 then
        fZ_law_j1286 L xs x3 qz205.2
      else
        some (Sum.inr (Sum.inr (Sum.inr (Sum.inr (Sum.inr (Sum.inr (Sum.inr (Sum.inr (Sum.inr (Sum.inr (Sum.inr (Sum.inr (Sum.inr (Sum.inr (Sum.inr (Sum.inr (Sum.inr (Sum.inr (Sum.inr (Sum.inr (Sum.inr (Sum.inr (Sum.inr (Sum.inr (Sum.inr (Sum.inr (Sum.inr (Sum.inl qz205.2))))))))))))))))))))))))))))
      else none
      else none
      else none
      else none
    else if ((xs (jix x3)) &&& 63) = 27 then
      if inb (x3 + 1) L then
      if inb (x3 + 2) L then
      Option.bind (fK_likely (xs (jix (x3 + 1))) (xs (jix (x3 + 2))) M) fun qz209 =>
      if inb (x3 + 1) L then
      if inb (x3 + 2) L then
      Option.bind (fM_likely (xs (jix (x3 + 1))) (xs (jix (x3 + 2))) M) fun qz213 =>
      if qz209 = qz213.1 then
        fZ_law_j1286 L xs x3 qz213.2
      else
        some (Sum.inr (Sum.inr (Sum.inr (Sum.inr (Sum.inr (Sum.inr (Sum.inr (Sum.inr (Sum.inr (Sum.inr (Sum.inr (Sum.inr (Sum.inr (Sum.inr (Sum.inr (Sum.inr (Sum.inr (Sum.inr (Sum.inr (Sum.inr (Sum.inr (Sum.inr (Sum.inr (Sum.inr (Sum.inr (Sum.inr (Sum.inr (Sum.inr (Sum.inl qz213.2)))))))))))))))))))))))))))))
      else none
      else none
      else none
      else none
    else if ((xs (jix x3)) &&& 63) = 28 then
      if inb (x3 + 1) L then
      Option.bind (fK_box (xs (jix (x3 + 1))) M) fun qz216 =>
      if inb (x3 + 1) L then
      Option.bind (fM_box (xs (jix (x3 + 1))) qz216.2) fun qz219 =>
      if qz216.1 = qz219.1 then
        fZ_law_j1286 L xs x3 qz219.2
      else
        some (Sum.inr (Sum.inr (Sum.inr (Sum.inr (Sum.inr (Sum.inr (Sum.inr (Sum.inr (Sum.inr (Sum.inr (Sum.inr (Sum.inr (Sum.inr (Sum.inr (Sum.inr (Sum.inr (Sum.inr (Sum.inr (Sum.inr (Sum.inr (Sum.inr (Sum.inr (Sum.inr (Sum.inr (Sum.inr (Sum.inr (Sum.inr (Sum.inr (Sum.inr (Sum.inl qz219.2))))))))))))))))))))))))))))))
      else none
      else none
    else if ((xs (jix x3)) &&& 63) = 29 then
      if inb (x3 + 1) L then
      if inb (x3 + 2) L then
      Option.bind (fK_face (xs (jix (x3 + 1))) (xs (jix (x3 + 2))) M) fun qz223 =>
      if inb (x3 + 1) L then
      if inb (x3 + 2) L then
      Option.bind (fM_face (xs (jix (x3 + 1))) (xs (jix (x3 + 2))) qz223.2) fun qz227 =>
      if qz223.1 = qz227.1 then
        fZ_law_j1286 L xs x3 qz227.2
      else
        some (Sum.inr (Sum.inr (Sum.inr (Sum.inr (Sum.inr (Sum.inr (Sum.inr (Sum.inr (Sum.inr (Sum.inr (Sum.inr (Sum.inr (Sum.inr (Sum.inr (Sum.inr (Sum.inr (Sum.inr (Sum.inr (Sum.inr (Sum.inr (Sum.inr (Sum.inr (Sum.inr (Sum.inr (Sum.inr (Sum.inr (Sum.inr (Sum.inr (Sum.inr (Sum.inr (Sum.inl qz227.2)))))))))))))))))))))))))))))))
      else none
      else none
      else none
      else none
    else if ((xs (jix x3)) &&& 63) = 30 then
      if inb (x3 + 1) L then
      Option.bind (fK_faces (xs (jix (x3 + 1))) M) fun qz230 =>
      if inb (x3 + 1) L then
      Option.bind (fM_faces (xs (jix (x3 + 1))) qz230.2) fun qz233 =>
      if qz230.1 = qz233.1 then
        fZ_law_j1286 L xs x3 qz233.2
      else
        some (Sum.inr (Sum.inr (Sum.inr (Sum.inr (Sum.inr (Sum.inr (Sum.inr (Sum.inr (Sum.inr (Sum.inr (Sum.inr (Sum.inr (Sum.inr (Sum.inr (Sum.inr (Sum.inr (Sum.inr (Sum.inr (Sum.inr (Sum.inr (Sum.inr (Sum.inr (Sum.inr (Sum.inr (Sum.inr (Sum.inr (Sum.inr (Sum.inr (Sum.inr (Sum.inr (Sum.inr (Sum.inl qz233.2))))))))))))))))))))))))))))))))
      else none
      else none
    else if ((xs (jix x3)) &&& 63) = 31 then
      if inb (x3 + 1) L then
      Option.bind (fK_joy (xs (jix (x3 + 1))) M) fun qz236 =>
      if inb (x3 + 1) L then
      Option.bind (fM_joy (xs (jix (x3 + 1))) M) fun qz239 =>
      if qz236 = qz239.1 then
        fZ_law_j1286 L xs x3 qz239.2
      else
        some (Sum.inr (Sum.inr (Sum.inr (Sum.inr (Sum.inr (Sum.inr (Sum.inr (Sum.inr (Sum.inr (Sum.inr (Sum.inr (Sum.inr (Sum.inr (Sum.inr (Sum.inr (Sum.inr (Sum.inr (Sum.inr (Sum.inr (Sum.inr (Sum.inr (Sum.inr (Sum.inr (Sum.inr (Sum.inr (Sum.inr (Sum.inr (Sum.inr (Sum.inr (Sum.inr (Sum.inr (Sum.inr (Sum.inl qz239.2)))))))))))))))))))))))))))))))))
      else none
      else none
    else if ((xs (jix x3)) &&& 63) = 32 then
      if inb (x3 + 1) L then
      Option.bind (fK_game (xs (jix (x3 + 1))) M) fun qz242 =>
      if inb (x3 + 1) L then
      Option.bind (fM_game (xs (jix (x3 + 1))) qz242.2) fun qz245 =>
      if qz242.1 = qz245.1 then
        fZ_law_j1286 L xs x3 qz245.2
      else
        some (Sum.inr (Sum.inr (Sum.inr (Sum.inr (Sum.inr (Sum.inr (Sum.inr (Sum.inr (Sum.inr (Sum.inr (Sum.inr (Sum.inr (Sum.inr (Sum.inr (Sum.inr (Sum.inr (Sum.inr (Sum.inr (Sum.inr (Sum.inr (Sum.inr (Sum.inr (Sum.inr (Sum.inr (Sum.inr (Sum.inr (Sum.inr (Sum.inr (Sum.inr (Sum.inr (Sum.inr (Sum.inr (Sum.inr (Sum.inl qz245.2))))))))))))))))))))))))))))))))))
      else none
      else none
    else if ((xs (jix x3)) &&& 63) = 33 then
      Option.bind (fK_undo M) fun qz247 =>
      Option.bind (fM_undo qz247.2) fun qz249 =>
      if qz247.1 = qz249.1 then
        fZ_law_j1286 L xs x3 qz249.2
      else
        some (Sum.inr (Sum.inr (Sum.inr (Sum.inr (Sum.inr (Sum.inr (Sum.inr (Sum.inr (Sum.inr (Sum.inr (Sum.inr (Sum.inr (Sum.inr (Sum.inr (Sum.inr (Sum.inr (Sum.inr (Sum.inr (Sum.inr (Sum.inr (Sum.inr (Sum.inr (Sum.inr (Sum.inr (Sum.inr (Sum.inr (Sum.inr (Sum.inr (Sum.inr (Sum.inr (Sum.inr (Sum.inr (Sum.inr (Sum.inr (Sum.inl qz249.2)))))))))))))))))))))))))))))))))))
    else if ((xs (jix x3)) &&& 63) = 34 then
      if inb (x3 + 1) L then
      Option.bind (fK_image (if (xs (jix (x3 + 1))) = 0 then (0 : Int32) else 1) M) fun qz252 =>
      if inb (x3 + 1) L then
      Option.bind (fM_image (if (xs (jix (x3 + 1))) = 0 then (0 : Int32) else 1) qz252.2) fun qz255 =>
      if qz252.1 = qz255.1 then
        fZ_law_j1286 L xs x3 qz255.2
      else
        some (Sum.inr (Sum.inr (Sum.inr (Sum.inr (Sum.inr (Sum.inr (Sum.inr (Sum.inr (Sum.inr (Sum.inr (Sum.inr (Sum.inr (Sum.inr (Sum.inr (Sum.inr (Sum.inr (Sum.inr (Sum.inr (Sum.inr (Sum.inr (Sum.inr (Sum.inr (Sum.inr (Sum.inr (Sum.inr (Sum.inr (Sum.inr (Sum.inr (Sum.inr (Sum.inr (Sum.inr (Sum.inr (Sum.inr (Sum.inr (Sum.inr (Sum.inl qz255.2))))))))))))))))))))))))))))))))))))
      else none
      else none
    else if ((xs (jix x3)) &&& 63) = 35 then
      if inb (x3 + 1) L then
      let vz257 : Int32 := fK_look (xs (jix (x3 + 1))) M
      if inb (x3 + 1) L then
      let qz259 : Int32 × Mm := fM_look (xs (jix (x3 + 1))) M
      if vz257 = qz259.1 then
        fZ_law_j1286 L xs x3 qz259.2
      else
        some (Sum.inr (Sum.inr (Sum.inr (Sum.inr (Sum.inr (Sum.inr (Sum.inr (Sum.inr (Sum.inr (Sum.inr (Sum.inr (Sum.inr (Sum.inr (Sum.inr (Sum.inr (Sum.inr (Sum.inr (Sum.inr (Sum.inr (Sum.inr (Sum.inr (Sum.inr (Sum.inr (Sum.inr (Sum.inr (Sum.inr (Sum.inr (Sum.inr (Sum.inr (Sum.inr (Sum.inr (Sum.inr (Sum.inr (Sum.inr (Sum.inr (Sum.inr (Sum.inl qz259.2)))))))))))))))))))))))))))))))))))))
      else none
      else none
    else 
      fZ_law_j1286 L xs x3 M
    else none
def fZ_law (L : Nat) (xs : Nat → Int32) (M : Mm) : Option (Int32 × Mm) :=
  Option.bind (lp 1000000 (fun s => fZ_law_b18 L xs s.1 s.2) (0, M)) fun e18 =>
  match e18 with
  | Sum.inl p18 =>
      let Mz260 : Mm := p18
      some (0, Mz260)
  | Sum.inr (Sum.inl p18) =>
      let Mz261 : Mm := p18
      some (0, Mz261)
  | Sum.inr (Sum.inr (Sum.inl p18)) =>
      let Mz262 : Mm := p18
      some (0, Mz262)
  | Sum.inr (Sum.inr (Sum.inr (Sum.inl p18))) =>
      let Mz263 : Mm := p18
      some (0, Mz263)
  | Sum.inr (Sum.inr (Sum.inr (Sum.inr (Sum.inl p18)))) =>
      let Mz264 : Mm := p18
      some (0, Mz264)
  | Sum.inr (Sum.inr (Sum.inr (Sum.inr (Sum.inr (Sum.inl p18))))) =>
      let Mz265 : Mm := p18
      some (0, Mz265)
  | Sum.inr (Sum.inr (Sum.inr (Sum.inr (Sum.inr (Sum.inr (Sum.inl p18)))))) =>
      let Mz266 : Mm := p18
      some (0, Mz266)
  | Sum.inr (Sum.inr (Sum.inr (Sum.inr (Sum.inr (Sum.inr (Sum.inr (Sum.inl p18))))))) =>
      let Mz267 : Mm := p18
      some (0, Mz267)
  | Sum.inr (Sum.inr (Sum.inr (Sum.inr (Sum.inr (Sum.inr (Sum.inr (Sum.inr (Sum.inl p18)))))))) =>
      let Mz268 : Mm := p18
      some (0, Mz268)
  | Sum.inr (Sum.inr (Sum.inr (Sum.inr (Sum.inr (Sum.inr (Sum.inr (Sum.inr (Sum.inr (Sum.inl p18))))))))) =>
      let Mz269 : Mm := p18
      some (0, Mz269)
  | Sum.inr (Sum.inr (Sum.inr (Sum.inr (Sum.inr (Sum.inr (Sum.inr (Sum.inr (Sum.inr (Sum.inr (Sum.inl p18)))))))))) =>
      let Mz270 : Mm := p18
      some (0, Mz270)
  | Sum.inr (Sum.inr (Sum.inr (Sum.inr (Sum.inr (Sum.inr (Sum.inr (Sum.inr (Sum.inr (Sum.inr (Sum.inr (Sum.inl p18))))))))))) =>
      let Mz271 : Mm := p18
      some (0, Mz271)
  | Sum.inr (Sum.inr (Sum.inr (Sum.inr (Sum.inr (Sum.inr (Sum.inr (Sum.inr (Sum.inr (Sum.inr (Sum.inr (Sum.inr (Sum.inl p18)))))))))))) =>
      let Mz272 : Mm := p18
      some (0, Mz272)
  | Sum.inr (Sum.inr (Sum.inr (Sum.inr (Sum.inr (Sum.inr (Sum.inr (Sum.inr (Sum.inr (Sum.inr (Sum.inr (Sum.inr (Sum.inr (Sum.inl p18))))))))))))) =>
      let Mz273 : Mm := p18
      some (0, Mz273)
  | Sum.inr (Sum.inr (Sum.inr (Sum.inr (Sum.inr (Sum.inr (Sum.inr (Sum.inr (Sum.inr (Sum.inr (Sum.inr (Sum.inr (Sum.inr (Sum.inr (Sum.inl p18)))))))))))))) =>
      let Mz274 : Mm := p18
      some (0, Mz274)
  | Sum.inr (Sum.inr (Sum.inr (Sum.inr (Sum.inr (Sum.inr (Sum.inr (Sum.inr (Sum.inr (Sum.inr (Sum.inr (Sum.inr (Sum.inr (Sum.inr (Sum.inr (Sum.inl p18))))))))))))))) =>
      let Mz275 : Mm := p18
      some (0, Mz275)
  | Sum.inr (Sum.inr (Sum.inr (Sum.inr (Sum.inr (Sum.inr (Sum.inr (Sum.inr (Sum.inr (Sum.inr (Sum.inr (Sum.inr (Sum.inr (Sum.inr (Sum.inr (Sum.inr (Sum.inl p18)))))))))))))))) =>
      let Mz276 : Mm := p18
      some (0, Mz276)
  | Sum.inr (Sum.inr (Sum.inr (Sum.inr (Sum.inr (Sum.inr (Sum.inr (Sum.inr (Sum.inr (Sum.inr (Sum.inr (Sum.inr (Sum.inr (Sum.inr (Sum.inr (Sum.inr (Sum.inr (Sum.inl p18))))))))))))))))) =>
      let Mz277 : Mm := p18
      some (0, Mz277)
  | Sum.inr (Sum.inr (Sum.inr (Sum.inr (Sum.inr (Sum.inr (Sum.inr (Sum.inr (Sum.inr (Sum.inr (Sum.inr (Sum.inr (Sum.inr (Sum.inr (Sum.inr (Sum.inr (Sum.inr (Sum.inr (Sum.inl p18)))))))))))))))))) =>
      let Mz278 : Mm := p18
      some (0, Mz278)
  | Sum.inr (Sum.inr (Sum.inr (Sum.inr (Sum.inr (Sum.inr (Sum.inr (Sum.inr (Sum.inr (Sum.inr (Sum.inr (Sum.inr (Sum.inr (Sum.inr (Sum.inr (Sum.inr (Sum.inr (Sum.inr (Sum.inr (Sum.inl p18))))))))))))))))))) =>
      let Mz279 : Mm := p18
      some (0, Mz279)
  | Sum.inr (Sum.inr (Sum.inr (Sum.inr (Sum.inr (Sum.inr (Sum.inr (Sum.inr (Sum.inr (Sum.inr (Sum.inr (Sum.inr (Sum.inr (Sum.inr (Sum.inr (Sum.inr (Sum.inr (Sum.inr (Sum.inr (Sum.inr (Sum.inl p18)))))))))))))))))))) =>
      let Mz280 : Mm := p18
      some (0, Mz280)
  | Sum.inr (Sum.inr (Sum.inr (Sum.inr (Sum.inr (Sum.inr (Sum.inr (Sum.inr (Sum.inr (Sum.inr (Sum.inr (Sum.inr (Sum.inr (Sum.inr (Sum.inr (Sum.inr (Sum.inr (Sum.inr (Sum.inr (Sum.inr (Sum.inr (Sum.inl p18))))))))))))))))))))) =>
      let Mz281 : Mm := p18
      some (0, Mz281)
  | Sum.inr (Sum.inr (Sum.inr (Sum.inr (Sum.inr (Sum.inr (Sum.inr (Sum.inr (Sum.inr (Sum.inr (Sum.inr (Sum.inr (Sum.inr (Sum.inr (Sum.inr (Sum.inr (Sum.inr (Sum.inr (Sum.inr (Sum.inr (Sum.inr (Sum.inr (Sum.inl p18)))))))))))))))))))))) =>
      let Mz282 : Mm := p18
      some (0, Mz282)
  | Sum.inr (Sum.inr (Sum.inr (Sum.inr (Sum.inr (Sum.inr (Sum.inr (Sum.inr (Sum.inr (Sum.inr (Sum.inr (Sum.inr (Sum.inr (Sum.inr (Sum.inr (Sum.inr (Sum.inr (Sum.inr (Sum.inr (Sum.inr (Sum.inr (Sum.inr (Sum.inr (Sum.inl p18))))))))))))))))))))))) =>
      let Mz283 : Mm := p18
      some (0, Mz283)
  | Sum.inr (Sum.inr (Sum.inr (Sum.inr (Sum.inr (Sum.inr (Sum.inr (Sum.inr (Sum.inr (Sum.inr (Sum.inr (Sum.inr (Sum.inr (Sum.inr (Sum.inr (Sum.inr (Sum.inr (Sum.inr (Sum.inr (Sum.inr (Sum.inr (Sum.inr (Sum.inr (Sum.inr (Sum.inl p18)))))))))))))))))))))))) =>
      let Mz284 : Mm := p18
      some (0, Mz284)
  | Sum.inr (Sum.inr (Sum.inr (Sum.inr (Sum.inr (Sum.inr (Sum.inr (Sum.inr (Sum.inr (Sum.inr (Sum.inr (Sum.inr (Sum.inr (Sum.inr (Sum.inr (Sum.inr (Sum.inr (Sum.inr (Sum.inr (Sum.inr (Sum.inr (Sum.inr (Sum.inr (Sum.inr (Sum.inr (Sum.inl p18))))))))))))))))))))))))) =>
      let Mz285 : Mm := p18
      some (0, Mz285)
  | Sum.inr (Sum.inr (Sum.inr (Sum.inr (Sum.inr (Sum.inr (Sum.inr (Sum.inr (Sum.inr (Sum.inr (Sum.inr (Sum.inr (Sum.inr (Sum.inr (Sum.inr (Sum.inr (Sum.inr (Sum.inr (Sum.inr (Sum.inr (Sum.inr (Sum.inr (Sum.inr (Sum.inr (Sum.inr (Sum.inr (Sum.inl p18)))))))))))))))))))))))))) =>
      let Mz286 : Mm := p18
      some (0, Mz286)
  | Sum.inr (Sum.inr (Sum.inr (Sum.inr (Sum.inr (Sum.inr (Sum.inr (Sum.inr (Sum.inr (Sum.inr (Sum.inr (Sum.inr (Sum.inr (Sum.inr (Sum.inr (Sum.inr (Sum.inr (Sum.inr (Sum.inr (Sum.inr (Sum.inr (Sum.inr (Sum.inr (Sum.inr (Sum.inr (Sum.inr (Sum.inr (Sum.inl p18))))))))))))))))))))))))))) =>
      let Mz287 : Mm := p18
      some (0, Mz287)
  | Sum.inr (Sum.inr (Sum.inr (Sum.inr (Sum.inr (Sum.inr (Sum.inr (Sum.inr (Sum.inr (Sum.inr (Sum.inr (Sum.inr (Sum.inr (Sum.inr (Sum.inr (Sum.inr (Sum.inr (Sum.inr (Sum.inr (Sum.inr (Sum.inr (Sum.inr (Sum.inr (Sum.inr (Sum.inr (Sum.inr (Sum.inr (Sum.inr (Sum.inl p18)))))))))))))))))))))))))))) =>
      let Mz288 : Mm := p18
      some (0, Mz288)
  | Sum.inr (Sum.inr (Sum.inr (Sum.inr (Sum.inr (Sum.inr (Sum.inr (Sum.inr (Sum.inr (Sum.inr (Sum.inr (Sum.inr (Sum.inr (Sum.inr (Sum.inr (Sum.inr (Sum.inr (Sum.inr (Sum.inr (Sum.inr (Sum.inr (Sum.inr (Sum.inr (Sum.inr (Sum.inr (Sum.inr (Sum.inr (Sum.inr (Sum.inr (Sum.inl p18))))))))))))))))))))))))))))) =>
      let Mz289 : Mm := p18
      some (0, Mz289)
  | Sum.inr (Sum.inr (Sum.inr (Sum.inr (Sum.inr (Sum.inr (Sum.inr (Sum.inr (Sum.inr (Sum.inr (Sum.inr (Sum.inr (Sum.inr (Sum.inr (Sum.inr (Sum.inr (Sum.inr (Sum.inr (Sum.inr (Sum.inr (Sum.inr (Sum.inr (Sum.inr (Sum.inr (Sum.inr (Sum.inr (Sum.inr (Sum.inr (Sum.inr (Sum.inr (Sum.inl p18)))))))))))))))))))))))))))))) =>
      let Mz290 : Mm := p18
      some (0, Mz290)
  | Sum.inr (Sum.inr (Sum.inr (Sum.inr (Sum.inr (Sum.inr (Sum.inr (Sum.inr (Sum.inr (Sum.inr (Sum.inr (Sum.inr (Sum.inr (Sum.inr (Sum.inr (Sum.inr (Sum.inr (Sum.inr (Sum.inr (Sum.inr (Sum.inr (Sum.inr (Sum.inr (Sum.inr (Sum.inr (Sum.inr (Sum.inr (Sum.inr (Sum.inr (Sum.inr (Sum.inr (Sum.inl p18))))))))))))))))))))))))))))))) =>
      let Mz291 : Mm := p18
      some (0, Mz291)
  | Sum.inr (Sum.inr (Sum.inr (Sum.inr (Sum.inr (Sum.inr (Sum.inr (Sum.inr (Sum.inr (Sum.inr (Sum.inr (Sum.inr (Sum.inr (Sum.inr (Sum.inr (Sum.inr (Sum.inr (Sum.inr (Sum.inr (Sum.inr (Sum.inr (Sum.inr (Sum.inr (Sum.inr (Sum.inr (Sum.inr (Sum.inr (Sum.inr (Sum.inr (Sum.inr (Sum.inr (Sum.inr (Sum.inl p18)))))))))))))))))))))))))))))))) =>
      let Mz292 : Mm := p18
      some (0, Mz292)
  | Sum.inr (Sum.inr (Sum.inr (Sum.inr (Sum.inr (Sum.inr (Sum.inr (Sum.inr (Sum.inr (Sum.inr (Sum.inr (Sum.inr (Sum.inr (Sum.inr (Sum.inr (Sum.inr (Sum.inr (Sum.inr (Sum.inr (Sum.inr (Sum.inr (Sum.inr (Sum.inr (Sum.inr (Sum.inr (Sum.inr (Sum.inr (Sum.inr (Sum.inr (Sum.inr (Sum.inr (Sum.inr (Sum.inr (Sum.inl p18))))))))))))))))))))))))))))))))) =>
      let Mz293 : Mm := p18
      some (0, Mz293)
  | Sum.inr (Sum.inr (Sum.inr (Sum.inr (Sum.inr (Sum.inr (Sum.inr (Sum.inr (Sum.inr (Sum.inr (Sum.inr (Sum.inr (Sum.inr (Sum.inr (Sum.inr (Sum.inr (Sum.inr (Sum.inr (Sum.inr (Sum.inr (Sum.inr (Sum.inr (Sum.inr (Sum.inr (Sum.inr (Sum.inr (Sum.inr (Sum.inr (Sum.inr (Sum.inr (Sum.inr (Sum.inr (Sum.inr (Sum.inr (Sum.inl p18)))))))))))))))))))))))))))))))))) =>
      let Mz294 : Mm := p18
      some (0, Mz294)
  | Sum.inr (Sum.inr (Sum.inr (Sum.inr (Sum.inr (Sum.inr (Sum.inr (Sum.inr (Sum.inr (Sum.inr (Sum.inr (Sum.inr (Sum.inr (Sum.inr (Sum.inr (Sum.inr (Sum.inr (Sum.inr (Sum.inr (Sum.inr (Sum.inr (Sum.inr (Sum.inr (Sum.inr (Sum.inr (Sum.inr (Sum.inr (Sum.inr (Sum.inr (Sum.inr (Sum.inr (Sum.inr (Sum.inr (Sum.inr (Sum.inr (Sum.inl p18))))))))))))))))))))))))))))))))))) =>
      let Mz295 : Mm := p18
      some (0, Mz295)
  | Sum.inr (Sum.inr (Sum.inr (Sum.inr (Sum.inr (Sum.inr (Sum.inr (Sum.inr (Sum.inr (Sum.inr (Sum.inr (Sum.inr (Sum.inr (Sum.inr (Sum.inr (Sum.inr (Sum.inr (Sum.inr (Sum.inr (Sum.inr (Sum.inr (Sum.inr (Sum.inr (Sum.inr (Sum.inr (Sum.inr (Sum.inr (Sum.inr (Sum.inr (Sum.inr (Sum.inr (Sum.inr (Sum.inr (Sum.inr (Sum.inr (Sum.inr p18))))))))))))))))))))))))))))))))))) =>
      let Mz296 : Mm := p18
      some (1, Mz296)
end FunPure
