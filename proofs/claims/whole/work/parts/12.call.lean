section RnCall
variable {P : Px} {d : Nat} {K : Kx} {pc e : Nat} {ops : List (Nat × Instr × Nat)} {lv lv2 : List (Nat × Value)} {st st2 : List Value} {σ σ2 : Sg} {r : Option Value × Sg} {X : Wx} {H H2 : Heap} {a b k n i : Nat}
theorem HW.old (h : HW X σ H) {q : Nat} {cell : Cell} (hq : (xG X)[q]? = some cell) : H[q]? = some cell := (h.2.2.1 q (Array.getElem?_eq_some_iff.mp hq).1).trans hq
theorem xad_c (j : Nat) : xad X (1000 + j) = xC X j := by
  unfold xad
  rw [if_neg (by omega), Nat.add_sub_cancel_left]
theorem CT.cx {p : Program} {R : Room} {s : State} {m : MethodId} {args : Array Value} {meth : Method} {c : Code} (h : CT P X d K p R s m args meth c) : CX P X s := h.2.2.2.2.2.2.2.2.2.2.1
-- the constants
theorem sb_icld {x : Int32} (j : Nat) (hj : j < 3) (hx : inb x (rnCn P j).1) (kk : SB P d K ops e lv (.int ((rnCn P j).2 x.toNatClampNeg) :: st) σ r) : SB P d K ((pc, .iaload, 1) :: ops) e lv (.int x :: .ref (1000 + j) :: st) σ r := fun h =>
  rn_read (fun X p l e R s m args below meth c H locs cells slots Q ls hC hH hS hz k2 => by
    obtain ⟨scr, h1, h2, h3, h4, h5⟩ := hC.cx.2.1 j hj
    show W p l e R s m args below meth c H locs cells slots Q (F0 m pc ls (.int x :: .ref (xad X (1000 + j)) :: st.map (cv X)))
    rw [xad_c]
    have hlt : x.toNatClampNeg < (rnCn P j).1 := Nat.not_le.mp fun q => hx (Or.inr q)
    exact W.iald (v := .int ((rnCn P j).2 x.toNatClampNeg)) hC.1 hC.2.1 (hH.old h1) h2 h3 (fun q => hx (q.imp_right (Nat.le_trans h4.1))) (h5 _ hlt) rfl rfl h.1 (h.2.1 ▸ k2)) (kk h.2.2)
theorem sb_bcld {x : Int32} (j : Nat) (hj : j = 4 ∨ j = 6) (hx : inb x (rnCn P j).1) (kk : SB P d K ops e lv (.int ((rnCn P j).2 x.toNatClampNeg) :: st) σ r) : SB P d K ((pc, .baload, 1) :: ops) e lv (.int x :: .ref (1000 + j) :: st) σ r := fun h =>
  rn_read (fun X p l e R s m args below meth c H locs cells slots Q ls hC hH hS hz k2 => by
    obtain ⟨scr, h1, h2, h3, h4, h5⟩ := hC.cx.2.2.1 j hj
    show W p l e R s m args below meth c H locs cells slots Q (F0 m pc ls (.int x :: .ref (xad X (1000 + j)) :: st.map (cv X)))
    rw [xad_c]
    have hlt : x.toNatClampNeg < (rnCn P j).1 := Nat.not_le.mp fun q => hx (Or.inr q)
    exact W.bald (v := .int ((rnCn P j).2 x.toNatClampNeg)) hC.1 hC.2.1 (hH.old h1) h2 h3 (fun q => hx (q.imp_right (Nat.le_trans h4.1))) (h5 _ hlt) rfl rfl h.1 (h.2.1 ▸ k2)) (kk h.2.2)
theorem sb_ialc (j : Nat) (hj : j < 3) (kk : SB P d K ops e lv (.int (nI (rnCn P j).1) :: st) σ r) : SB P d K ((pc, .arraylength, 1) :: ops) e lv (.ref (1000 + j) :: st) σ r := fun h =>
  rn_read (fun X p l e R s m args below meth c H locs cells slots Q ls hC hH hS hz k2 => by
    obtain ⟨scr, h1, h2, h3, h4, h5⟩ := hC.cx.2.1 j hj
    show W p l e R s m args below meth c H locs cells slots Q (F0 m pc ls (.ref (xad X (1000 + j)) :: st.map (cv X)))
    rw [xad_c]
    exact W.alen (n := nI (rnCn P j).1) hC.1 hC.2.1 (hH.old h1) h2 h4.2 rfl rfl h.1 (h.2.1 ▸ k2)) (kk h.2.2)
theorem sb_balc (j : Nat) (hj : j = 4 ∨ j = 6) (kk : SB P d K ops e lv (.int (nI (rnCn P j).1) :: st) σ r) : SB P d K ((pc, .arraylength, 1) :: ops) e lv (.ref (1000 + j) :: st) σ r := fun h =>
  rn_read (fun X p l e R s m args below meth c H locs cells slots Q ls hC hH hS hz k2 => by
    obtain ⟨scr, h1, h2, h3, h4, h5⟩ := hC.cx.2.2.1 j hj
    show W p l e R s m args below meth c H locs cells slots Q (F0 m pc ls (.ref (xad X (1000 + j)) :: st.map (cv X)))
    rw [xad_c]
    exact W.alen (n := nI (rnCn P j).1) hC.1 hC.2.1 (hH.old h1) h2 h4.2 rfl rfl h.1 (h.2.1 ▸ k2)) (kk h.2.2)
/-- a text's own fields -/
theorem rn_getS {f de : String} {v : Value} (hl : Cond.fieldLink (rnOwn (kOc K)) i "java/lang/String" f de ∈ lw_tbl) (hv : ∀ (X : Wx) (s : State), CX P X s → va_OF "java/lang/String" f de (cv X v) (xad X a) (xW X) s (xG X)) (kk : SB P d K ops e lv (v :: st) σ r) : SB P d K ((pc, .getfield i, 3) :: ops) e lv (.ref a :: st) σ r := fun h =>
  rn_read (fun X p l e R s m args below meth c H locs cells slots Q ls hC hH hS hz k2 => by
    obtain ⟨cf, k, fi, fd, cell, h1, h2, h3, h4, h5, h6⟩ := hv X s hC.cx
    exact W.getf hC.1 hC.2.1 hC.own (hC.ts _ (rnWs_in hl rfl)) h1 h2 (hH.old h3) h4 (v := cv X v) h5 rfl rfl h.1 (h.2.1 ▸ k2)) (kk h.2.2)
theorem rn_gets {C f de : String} {v : Value} (hl : Cond.fieldLink (rnOwn (kOc K)) i C f de ∈ lw_tbl) (hv : ∀ (X : Wx) (s : State), CX P X s → va_Z C f de (cv X v) (xW X) s (xG X)) (kk : SB P d K ops e lv (v :: st) σ r) : SB P d K ((pc, .getstatic i, 3) :: ops) e lv st σ r := fun h =>
  rn_read (fun X p l e R s m args below meth c H locs cells slots Q ls hC hH hS hz k2 => by
    obtain ⟨cf, kf, fi, fd, a, cell, h1, h2, h3, h4, h5, h6, h7, h8⟩ := hv X s hC.cx
    exact W.gets hC.1 hC.2.1 hC.own (hC.ts _ (rnWs_in hl rfl)) h1 h2 h3 h4 (hH.old h5) (fun e => by rw [e] at h6; cases h6) h7 rfl h.1 (h.2.1 ▸ k2)) (kk h.2.2)
theorem rn_getsN {C f de ho : String} {v : Value} (hl : Cond.fieldLinkNest (rnOwn (kOc K)) i C f de ho ∈ lw_tbl) (hv : ∀ (X : Wx) (s : State), CX P X s → va_Z C f de (cv X v) (xW X) s (xG X)) (kk : SB P d K ops e lv (v :: st) σ r) : SB P d K ((pc, .getstatic i, 3) :: ops) e lv st σ r := fun h =>
  rn_read (fun X p l e R s m args below meth c H locs cells slots Q ls hC hH hS hz k2 => by
    obtain ⟨cf, kf, fi, fd, a, cell, h1, h2, h3, h4, h5, h6, h7, h8⟩ := hv X s hC.cx
    exact va_WgetsN hC.1 hC.2.1 hC.own (va_Nw.use rfl (hC.cx.2.2.2.2.2.2.2.2.2.1 _ hl rfl)) h1 h2 h3 h4 (hH.old h5) (fun e => by rw [e] at h6; cases h6) h7 rfl h.1 (h.2.1 ▸ k2)) (kk h.2.2)
theorem sb_ldcS3 (ho : kOc K = 7) (kk : SB P d K ops e lv (.ref 1003 :: st) σ r) : SB P d K ((pc, .ldc 44, 2) :: ops) e lv st σ r := fun h =>
  rn_read (fun X p l e R s m args below meth c H locs cells slots Q ls hC hH hS hz k2 =>
    va_ldcS (own := "KindPostman$Tokens") hC.1 hC.2.1 (by have := hC.own; rw [ho] at this; exact this) hC.cx.2.2.2.2.2.2.2.1 h.1 (h.2.1 ▸ k2)) (kk h.2.2)
theorem sb_ldcS5 (ho : kOc K = 7) (kk : SB P d K ops e lv (.ref 1005 :: st) σ r) : SB P d K ((pc, .ldc 55, 2) :: ops) e lv st σ r := fun h =>
  rn_read (fun X p l e R s m args below meth c H locs cells slots Q ls hC hH hS hz k2 =>
    va_ldcS (own := "KindPostman$Tokens") hC.1 hC.2.1 (by have := hC.own; rw [ho] at this; exact this) hC.cx.2.2.2.2.2.2.2.2.1 h.1 (h.2.1 ▸ k2)) (kk h.2.2)
end RnCall
