section PmCond2
theorem lpx_inl {α β : Type} {f : α → Option (α ⊕ β)} {s t : α} (n : Nat) (h : f s = some (Sum.inl t)) : lp (n + 1) f s = lp n f t := by
  show (match f s with | none => none | some (Sum.inl t) => lp n f t | some (Sum.inr e) => some e) = _
  rw [h]
theorem lpx_inr {α β : Type} {f : α → Option (α ⊕ β)} {s : α} {e : β} (n : Nat) (h : f s = some (Sum.inr e)) : lp (n + 1) f s = some e := by
  show (match f s with | none => none | some (Sum.inl t) => lp n f t | some (Sum.inr e) => some e) = _
  rw [h]
theorem settle_bad {A : Mm} {w : Nat} (x : Int32) (hw : w ≤ 32) (h : Flt A) (h7 : A 146 7 = nI w) : Go (fR_settle x A) (fun A' => fC A A' ∧ ∃ w', w' ≤ 32 ∧ A' 146 7 = nI w') := by
  unfold fR_settle
  refine Go.bind (P := fun A' => fC A A' ∧ ∃ w', w' ≤ 32 ∧ A' 146 7 = nI w') ?_ (fun e he => Go.some he)
  have e0 : A 146 7 - 1 = nI w + (-1) := by rw [h7]; exact Int32.sub_eq_add_neg ..
  rw [e0]
  refine go_lp (fun q s => ∃ A', s = (nI q + (-1), A') ∧ q ≤ 32 ∧ fC A A' ∧ ∃ w', w' ≤ 32 ∧ A' 146 7 = nI w') ?_ 1000000 w _ (by omega) ⟨A, rfl, hw, fC.rfl' h, w, hw, h7⟩
  rintro q s ⟨A', rfl, q32, ff, w', hw', e7⟩
  unfold fR_settle_b7
  dsimp only
  by_cases z : q = 0
  · subst z
    refine Go.yes (by decide) ?_
    refine Go.some ?_
    exact ⟨ff, w', hw', e7⟩
  · rw [nI_dec (by omega), jix_nI (show q - 1 < 2147483648 by omega)]
    have iv : inb (nI (q - 1)) 32 := (inb_nI (by omega)).mpr (by omega)
    refine Go.no (nI_nneg (by omega)) ?_
    refine Go.gd (iv) ?_
    refine Go.ite (fun _ => Go.some ⟨ff, w', hw', e7⟩) (fun _ => ?_)
    refine Go.gd (iv) ?_
    refine go_bind.mpr ?_
    refine (step_bad _ ff.1).mono fun A2 f2 => ?_
    refine Go.gd (iv) ?_
    refine go_bind.mpr ?_
    have fin : ∀ {A3 : Mm}, fC A A3 → Go (some (Sum.inl (nI (q - 1) + (-1), mput A3 146 7 (nI (q - 1))) : (Int32 × Mm) ⊕ Mm)) (fun r => match r with | .inl t => ∃ k', k' < q ∧ ∃ A', t = (nI k' + (-1), A') ∧ k' ≤ 32 ∧ fC A A' ∧ ∃ w', w' ≤ 32 ∧ A' 146 7 = nI w' | .inr e => fC A e ∧ ∃ w', w' ≤ 32 ∧ e 146 7 = nI w') := fun {A3} f3 => by
      refine Go.some ⟨q - 1, by omega, _, rfl, by omega, ⟨⟨?_, ?_⟩, ?_, ?_, f3.2.2.2.put (by omega)⟩, q - 1, by omega, mput_same _ _ _ _⟩
      · rw [mput_s (by omega)]; exact f3.1.1
      · rw [mput_r (by omega)]; exact f3.1.2
      · rw [mput_s (by omega)]; exact f3.2.1
      · rw [mput_s (by omega)]; exact f3.2.2.1
    have f23 := ff.trans f2.c
    refine Go.ite (fun _ => ?_) (fun _ => ?_)
    · refine Go.some ?_
      have := fin (A3 := mput A2 146 8 (A2 146 8 - 1)) ⟨⟨by rw [mput_s (by omega)]; exact f23.1.1, by rw [mput_r (by omega)]; exact f23.1.2⟩, by rw [mput_s (by omega)]; exact f23.2.1, by rw [mput_s (by omega)]; exact f23.2.2.1, f23.2.2.2.put (by omega)⟩
      obtain ⟨r, r1, r2⟩ := this
      refine ⟨r, r1, ?_⟩
      cases r <;> exact r2
    · refine Go.some ?_
      have := fin f23
      obtain ⟨r, r1, r2⟩ := this
      refine ⟨r, r1, ?_⟩
      cases r <;> exact r2
theorem goesOn_bad {A : Mm} {w : Nat} (hw : w ≤ 32) (h : Flt A) (h7 : A 146 7 = nI w) : Go (fR_goesOn A) (fun p => p.1 = 0 ∧ fC A p.2) := by
  unfold fR_goesOn
  rw [sort_bad h.1]
  refine go_bind.mpr ?_
  refine Go.some ?_
  refine Go.no (by decide) ?_
  refine go_bind.mpr ?_
  refine (settle_bad 20001 hw h h7).mono fun A1 h1 => ?_
  rw [sort_bad h1.1.1.1, blame_bad 1 h1.1.1.1]
  refine go_bind.mpr ?_
  refine Go.some ?_
  refine Go.no (by decide) ?_
  refine Go.ite (fun _ => Go.some ⟨rfl, h1.1⟩) (fun _ => ?_)
  refine go_bind.mpr ?_
  refine Go.some ?_
  refine Go.some ?_
  exact ⟨rfl, h1.1⟩
/-- the reader's closings, and what comes behind -/
def cK (p j : Nat) (A : Mm) : Option (Int32 × Mm) := Option.bind (lp p (fun s => fR_closeAll_b2 s.1 s.2) (nI j, A)) fun e => match e with | Sum.inl M => fR_goesOn M | Sum.inr M => fR_goesOn M
theorem cK_eq (A : Mm) : Option.bind (fR_closeAll A) (fun M => fR_goesOn M) = cK 1000000 0 A := by
  unfold fR_closeAll cK
  rw [Option.bind_assoc]
  refine congrArg (Option.bind (lp 1000000 (fun s => fR_closeAll_b2 s.1 s.2) (0, A))) (funext fun e => ?_)
  cases e <;> rfl
theorem cK_bad {A : Mm} {w : Nat} (hw : w ≤ 32) (h : Flt A) (h7 : A 146 7 = nI w) : Go (cK 1000000 0 A) (fun p => p.1 = 0 ∧ fC A p.2) := by
  unfold cK
  have : fR_closeAll_b2 (nI 0) A = some (Sum.inr (Sum.inr A)) := by
    refine Go.eq ?_
    unfold fR_closeAll_b2
    rw [sort_bad h.1]
    refine Go.no (by decide) ?_
    refine go_bind.mpr ?_
    refine Go.some ?_
    refine Go.no (by decide) ?_
    refine Go.some ?_
    rfl
  rw [lpx_inr 999999 (f := fun s => fR_closeAll_b2 s.1 s.2) (s := (nI 0, A)) this]
  refine go_bind.mpr ?_
  refine Go.some ?_
  exact goesOn_bad hw h h7
def CS (A B : Mm) (b : Nat → Nat) (L : Nat) (f : FG) (i n : Nat) (W : List Nat) (v : List Nat) : Prop := okW W ∧ opn W ≤ 8 ∧ SK A W ∧ SM B W ∧ A 146 7 = nI W.length ∧ B 217 27 = nI W.length ∧ A 146 8 = nI (opn W) ∧ B 217 25 = nI (opn W) ∧ ST A B b L i n f (v ++ List.replicate (bin W) 1) ∧ n + nb W ≤ i
/-- behind a comparison: the reader has not settled its nots yet -/
def NS (A B : Mm) (b : Nat → Nat) (L : Nat) (f : FG) (i n : Nat) (W : List Nat) : Prop := okW W ∧ opn W ≤ 8 ∧ SK A W ∧ A 146 7 = nI W.length ∧ A 146 8 = nI (opn W) ∧ A 148 1 = nI n ∧ n + nb W ≤ i ∧ ST (emK A n (plE 3 W)) B b L i (n + (plE 3 W).length) f (1 :: List.replicate (bin W) 1) ∧ SM B (popE 3 W) ∧ B 217 27 = nI (popE 3 W).length ∧ B 217 25 = nI (opn (popE 3 W))
theorem NS.ps {A B : Mm} {b : Nat → Nat} {L : Nat} {f : FG} {i n : Nat} {W : List Nat} (h : NS A B b L f i n W) : PS A B b L i := h.2.2.2.2.2.2.2.1.1.fr (fun c k p q => (emK_fr _ A n c k (by omega)).symm) (emK_fr _ A n _ _ (by omega)).symm (emK_fr _ A n _ _ (by omega)).symm (fun _ _ _ => rfl) rfl rfl (emK_fr _ A n _ _ (by omega)).symm
theorem ok_len {W : List Nat} (h : okW W) (h8 : opn W ≤ 8) : W.length ≤ 26 ∧ bin W ≤ 18 := by
  have := len_bd W h
  split at this
  · omega
  · split at this <;> omega
theorem mem_E {t : Nat} : ∀ {W : List Nat} {x : Nat}, x ∈ plE t W → x = t
  | [], x, h => by cases h
  | y :: V, x, h => by
    unfold plE at h
    by_cases e : y = t
    · rw [if_pos e] at h
      cases h with
      | head => exact e
      | tail _ h => exact mem_E h
    · rw [if_neg e] at h; cases h
theorem nb_3 : ∀ W : List Nat, bin (plE 3 W) = 0
  | [] => rfl
  | x :: V => by
    unfold plE
    by_cases e : x = 3
    · rw [if_pos e, bin_c, nb_3 V, if_neg (by omega)]
    · rw [if_neg e]; rfl
/-- both settle what is at least an and -/
theorem both_and {A B : Mm} {b : Nat → Nat} {L : Nat} {f : FG} {i n : Nat} {W : List Nat} (hL : L ≤ 400) (h : NS A B b L f i n W) : ∃ A1 B1 n', fR_settle 20002 A = some A1 ∧ fM_settles 10 B = some B1 ∧ CS A1 B1 b L f i n' (popK 2 W) [1] ∧ cF A A1 ∧ dF B B1 := by
  obtain ⟨o, o8, sk, a7, a8, a1, nn, s, sm, b7, b8⟩ := h
  have cL := cs_le b L
  have iN := s.1.2.2.2.2.2
  have ln := ok_len o o8
  have oE := okW_E 3 W o
  have kn := K_not (t := 2) (by omega) W
  have ka := K_and oE (hd_E3 W)
  have w3 := split_E 3 W
  have w2 := split_E 2 (popE 3 W)
  have nb1 : nb W = (plE 3 W).length + ((plE 2 (popE 3 W)).length + nb (popE 2 (popE 3 W))) := by
    conv => lhs; rw [w3, nb_app, w2, nb_app]
    rw [(nb_plE (t := 3) (by omega) W).1, (nb_plE (t := 2) (by omega) _).1]
  have bn1 : bin W = bin (plE 2 (popE 3 W)) + bin (popE 2 (popE 3 W)) := by
    conv => lhs; rw [w3, bin_app, nb_3, w2, bin_app]
    omega
  have on1 : opn W = opn (plE 3 W) + opn (popE 3 W) := by conv => lhs; rw [w3, opn_app]
  have on2 : opn (popE 3 W) = opn (plE 2 (popE 3 W)) + opn (popE 2 (popE 3 W)) := by conv => lhs; rw [w2, opn_app]
  have lE : (popE 3 W).length ≤ 26 := by
    have : W.length = (plE 3 W).length + (popE 3 W).length := by conv => lhs; rw [w3, List.length_append]
    omega
  obtain ⟨A1, A1e, x7, x8, xf⟩ := settle_go (A := A) (t := 2) (Or.inr rfl) o (by omega) sk a7 a8 a1 (by omega)
  obtain ⟨B1, B1e, y7, y8, yf⟩ := settles_go (B := B) (W := popE 3 W) (t := 2) (n := n + (plE 3 W).length) (by omega) (by omega) oE (by omega) sm b7 b8 s.2.1.2.1 (by
    have : nb (popE 3 W) = (plE 2 (popE 3 W)).length + nb (popE 2 (popE 3 W)) := by
      conv => lhs; rw [w2, nb_app]
      rw [(nb_plE (t := 2) (by omega) _).1]
    omega)
  have eV : popK 2 W = popE 2 (popE 3 W) := by rw [kn.1, ka.1]
  have ePl : plK 2 W = plE 3 W ++ plE 2 (popE 3 W) := by rw [kn.2, ka.2.1]
  refine ⟨A1, B1, n + (plE 3 W).length + (plE 2 (popE 3 W)).length, A1e, B1e, ⟨okW_K 2 W o, ?_, ?_, ?_, x7, by rw [eV]; exact y7, x8, by rw [eV]; exact y8, ?_, ?_⟩, ?_, ?_⟩
  · rw [eV]; omega
  · refine SK_cg (A := A) (fun k _ => ?_) (SK_app (X := plK 2 W) (by rw [← split_K]; exact sk))
    rw [xf 167 k (by omega), emK_fr _ A n 167 k (by omega)]
  · rw [eV]
    refine SM_cg (B := B) (fun k _ => ?_) (SM_app (X := plE 2 (popE 3 W)) (by rw [← split_E]; exact sm))
    rw [yf 232 k (by omega), emM_fr _ B _ 232 k (by omega)]
  · have em := ST.emits (plE 2 (popE 3 W)) (n := n + (plE 3 W).length) (m := bin (popE 2 (popE 3 W))) (fun x hx => by rw [mem_E hx]; omega) (by omega) (by omega) (by rw [← bn1]; exact s)
    rw [eV]
    refine em.fr (fun c k p q => ?_) (fun c k p q => ?_)
    · rw [xf c k (by omega), ePl, emK_app]
    · rw [yf c k (by omega)]
  · rw [eV]; omega
  · exact fun c k q => by rw [xf c k (by omega)]; exact emK_fr _ A n c k (by omega)
  · exact fun c k q => by rw [yf c k (by omega)]; exact emM_fr _ B _ c k (by omega)
/-- and what is at least an or -/
theorem both_or {A B : Mm} {b : Nat → Nat} {L : Nat} {f : FG} {i n : Nat} {W : List Nat} (hL : L ≤ 400) (h : NS A B b L f i n W) : ∃ A1 B1 B2 n', fR_settle 20001 A = some A1 ∧ fM_settles 10 B = some B1 ∧ fM_settles 11 B1 = some B2 ∧ CS A1 B2 b L f i n' (popK 1 W) [1] ∧ cF A A1 ∧ dF B B2 := by
  obtain ⟨o, o8, sk, a7, a8, a1, nn, s, sm, b7, b8⟩ := h
  have cL := cs_le b L
  have iN := s.1.2.2.2.2.2
  have ln := ok_len o o8
  have oE := okW_E 3 W o
  have oE2 := okW_E 2 _ oE
  have kn := K_not (t := 1) (by omega) W
  have ka := K_or oE (hd_E3 W)
  have w3 := split_E 3 W
  have w2 := split_E 2 (popE 3 W)
  have w1 := split_E 1 (popE 2 (popE 3 W))
  have nb0 : nb (popE 2 (popE 3 W)) = (plE 1 (popE 2 (popE 3 W))).length + nb (popE 1 (popE 2 (popE 3 W))) := by
    conv => lhs; rw [w1, nb_app]
    rw [(nb_plE (t := 1) (by omega) _).1]
  have nb2 : nb (popE 3 W) = (plE 2 (popE 3 W)).length + nb (popE 2 (popE 3 W)) := by
    conv => lhs; rw [w2, nb_app]
    rw [(nb_plE (t := 2) (by omega) _).1]
  have nb1 : nb W = (plE 3 W).length + nb (popE 3 W) := by
    conv => lhs; rw [w3, nb_app]
    rw [(nb_plE (t := 3) (by omega) W).1]
  have bn2 : bin (popE 2 (popE 3 W)) = bin (plE 1 (popE 2 (popE 3 W))) + bin (popE 1 (popE 2 (popE 3 W))) := by conv => lhs; rw [w1, bin_app]
  have bn1 : bin W = bin (plE 2 (popE 3 W)) + bin (popE 2 (popE 3 W)) := by
    conv => lhs; rw [w3, bin_app, nb_3, w2, bin_app]
    omega
  have on1 : opn W = opn (plE 3 W) + opn (popE 3 W) := by conv => lhs; rw [w3, opn_app]
  have on2 : opn (popE 3 W) = opn (plE 2 (popE 3 W)) + opn (popE 2 (popE 3 W)) := by conv => lhs; rw [w2, opn_app]
  have on3 : opn (popE 2 (popE 3 W)) = opn (plE 1 (popE 2 (popE 3 W))) + opn (popE 1 (popE 2 (popE 3 W))) := by conv => lhs; rw [w1, opn_app]
  have lE : (popE 3 W).length ≤ 26 := by
    have : W.length = (plE 3 W).length + (popE 3 W).length := by conv => lhs; rw [w3, List.length_append]
    omega
  have lE2 : (popE 2 (popE 3 W)).length ≤ 26 := by
    have : (popE 3 W).length = (plE 2 (popE 3 W)).length + (popE 2 (popE 3 W)).length := by conv => lhs; rw [w2, List.length_append]
    omega
  obtain ⟨A1, A1e, x7, x8, xf⟩ := settle_go (A := A) (t := 1) (Or.inl rfl) o (by omega) sk a7 a8 a1 (by omega)
  obtain ⟨B1, B1e, y7, y8, yf⟩ := settles_go (B := B) (W := popE 3 W) (t := 2) (n := n + (plE 3 W).length) (by omega) (by omega) oE (by omega) sm b7 b8 s.2.1.2.1 (by omega)
  have sm1 : SM B1 (popE 2 (popE 3 W)) := by
    refine SM_cg (B := B) (fun k _ => ?_) (SM_app (X := plE 2 (popE 3 W)) (by rw [← split_E]; exact sm))
    rw [yf 232 k (by omega), emM_fr _ B _ 232 k (by omega)]
  obtain ⟨B2, B2e, z7, z8, zf⟩ := settles_go (B := B1) (W := popE 2 (popE 3 W)) (t := 1) (n := n + (plE 3 W).length + (plE 2 (popE 3 W)).length) (by omega) (by omega) oE2 (by omega) sm1 y7 y8 (by rw [yf 217 24 (by omega)]; exact emM_24 _ B _ s.2.1.2.1) (by omega)
  have eV : popK 1 W = popE 1 (popE 2 (popE 3 W)) := by rw [kn.1, ka.1]
  have ePl : plK 1 W = plE 3 W ++ (plE 2 (popE 3 W) ++ plE 1 (popE 2 (popE 3 W))) := by rw [kn.2, ka.2]
  refine ⟨A1, B1, B2, n + (plE 3 W).length + (plE 2 (popE 3 W)).length + (plE 1 (popE 2 (popE 3 W))).length, A1e, B1e, B2e, ⟨okW_K 1 W o, ?_, ?_, ?_, x7, by rw [eV]; exact z7, x8, by rw [eV]; exact z8, ?_, ?_⟩, ?_, ?_⟩
  · rw [eV]; omega
  · refine SK_cg (A := A) (fun k _ => ?_) (SK_app (X := plK 1 W) (by rw [← split_K]; exact sk))
    rw [xf 167 k (by omega), emK_fr _ A n 167 k (by omega)]
  · rw [eV]
    refine SM_cg (B := B1) (fun k _ => ?_) (SM_app (X := plE 1 (popE 2 (popE 3 W))) (by rw [← split_E]; exact sm1))
    rw [zf 232 k (by omega), emM_fr _ B1 _ 232 k (by omega)]
  · have em := ST.emits (plE 2 (popE 3 W)) (n := n + (plE 3 W).length) (m := bin (popE 2 (popE 3 W))) (fun x hx => by rw [mem_E hx]; omega) (by omega) (by omega) (by rw [← bn1]; exact s)
    have em1 : ST (emK (emK A n (plE 3 W)) (n + (plE 3 W).length) (plE 2 (popE 3 W))) B1 b L i (n + (plE 3 W).length + (plE 2 (popE 3 W)).length) f (1 :: List.replicate (bin (popE 2 (popE 3 W))) 1) := em.fr (fun _ _ _ _ => rfl) (fun c k p q => yf c k (by omega))
    rw [bn2] at em1
    have em2 := ST.emits (plE 1 (popE 2 (popE 3 W))) (n := n + (plE 3 W).length + (plE 2 (popE 3 W)).length) (m := bin (popE 1 (popE 2 (popE 3 W)))) (fun x hx => by rw [mem_E hx]; omega) (by omega) (by omega) em1
    rw [eV]
    refine em2.fr (fun c k p q => ?_) (fun c k p q => ?_)
    · rw [xf c k (by omega), ePl, emK_app, emK_app]
    · rw [zf c k (by omega)]
  · rw [eV]; omega
  · exact fun c k q => by rw [xf c k (by omega)]; exact emK_fr _ A n c k (by omega)
  · exact fun c k q => by rw [zf c k (by omega), emM_fr _ B1 _ c k (by omega), yf c k (by omega)]; exact emM_fr _ B _ c k (by omega)
end PmCond2
