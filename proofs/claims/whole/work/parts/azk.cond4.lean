section PmCond4
theorem NS_of {A B : Mm} {b : Nat → Nat} {L : Nat} {f : FG} {i n : Nat} {W : List Nat} (hL : L ≤ 400) (h : CS A B b L f i n W [1]) : ∃ B2, fM_settles 9 B = some B2 ∧ NS A B2 b L f i n W ∧ dF B B2 := by
  obtain ⟨o, o8, sk, sm, a7, b7, a8, b8, s, nn⟩ := h
  have cL := cs_le b L
  have iN := s.1.2.2.2.2.2
  have ln := ok_len o o8
  have w3 := split_E 3 W
  have nbW : nb W = (plE 3 W).length + nb (popE 3 W) := by
    conv => lhs; rw [w3, nb_app]
    rw [(nb_plE (t := 3) (by omega) W).1]
  obtain ⟨B2, B2e, y7, y8, yf⟩ := settles_go (B := B) (W := W) (t := 3) (n := n) (by omega) (by omega) o (by omega) sm b7 b8 s.2.1.2.1 (by omega)
  have em := ST.emits (plE 3 W) (n := n) (m := bin W) (fun x hx => by rw [mem_E hx]; omega) (by omega) (by rw [nb_3]; omega) (by rw [nb_3, Nat.zero_add]; exact s)
  refine ⟨B2, B2e, ⟨o, o8, sk, a7, a8, s.2.1.1, nn, em.fr (fun _ _ _ _ => rfl) (fun c k p q => yf c k (by omega)), ?_, y7, y8⟩, fun c k q => by rw [yf c k (by omega)]; exact emM_fr _ B n c k (by omega)⟩
  refine SM_cg (B := B) (fun k _ => ?_) (SM_app (X := plE 3 W) (by rw [← split_E]; exact sm))
  rw [yf 232 k (by omega), emM_fr _ B n 232 k (by omega)]
theorem cmp_bind {β : Type} (A : Mm) (g : Mm → Option β) : (Option.bind (fR_sum A) fun M8 => Option.bind (fR_relation M8) fun q => Option.bind (fR_sum q.2) fun M12 => Option.bind (fL_addStep q.1 M12) g) = Option.bind (cmpK A) g := by
  unfold cmpK
  simp only [Option.bind_assoc]
theorem ck_bind {β : Type} (A : Mm) (g : Int32 × Mm → Option β) : (Option.bind (fR_closeAll A) fun M => Option.bind (fR_goesOn M) g) = Option.bind (cK 1000000 0 A) g := by
  rw [← cK_eq, Option.bind_assoc]
theorem wq_6 : (nI (wq 6) : Int32) = 6 := by decide
def cnP (A B : Mm) (b : Nat → Nat) (L : Nat) (f : FG) (i : Nat) (y : Mm ⊕ Mm) (y' : Mm ⊕ Mm ⊕ Mm ⊕ Mm) : Prop := ∃ A' B', (y = Sum.inl A' ∨ y = Sum.inr A') ∧ cF A A' ∧ dF B B' ∧ ((y' = Sum.inr (Sum.inr (Sum.inl B')) ∧ ∃ i' n', i < i' ∧ ST A' B' b L i' n' f [1] ∧ n' ≤ i' ∧ B' 217 25 = 0) ∨ (Flt A' ∧ ((y' = Sum.inl B' ∧ FLT A' (fM_errs 3 B').2) ∨ (y' = Sum.inr (Sum.inl B') ∧ FLT A' B') ∨ (y' = Sum.inr (Sum.inr (Sum.inr B')) ∧ FLT A' (fM_errs 1 B').2))))
theorem cnP.pre {A B A1 B1 : Mm} {b : Nat → Nat} {L : Nat} {f : FG} {i i1 : Nat} {y : Mm ⊕ Mm} {y' : Mm ⊕ Mm ⊕ Mm ⊕ Mm} (hi : i ≤ i1) (a : cF A A1) (m : dF B B1) (h : cnP A1 B1 b L f i1 y y') : cnP A B b L f i y y' := by
  obtain ⟨A', B', h1, h2, h3, h4⟩ := h
  refine ⟨A', B', h1, a.trans h2, m.trans h3, h4.imp (fun ⟨q, i', n', r1, r2⟩ => ⟨q, i', n', by omega, r2⟩) id⟩
theorem cond_bad {A : Mm} (c : Int32) (h : Flt A) : ∀ n, 0 < n → Go (lp n (fun s => fR_condition_b12 s.1 s.2) (c, A)) (fun y => y = Sum.inr A) := by
  intro n hn
  obtain ⟨n, rfl⟩ : ∃ k, n = k + 1 := ⟨n - 1, by omega⟩
  have : fR_condition_b12 c A = some (Sum.inr (Sum.inr A)) := by
    refine Go.eq ?_
    unfold fR_condition_b12
    by_cases q : 400 ≤ c
    · refine Go.yes (q) ?_
      refine Go.some ?_
      rfl
    · refine Go.no (q) ?_
      refine Go.no (h.1) ?_
      refine Go.some ?_
      rfl
  rw [lpx_inr n (f := fun s => fR_condition_b12 s.1 s.2) (s := (c, A)) this]
  exact ⟨_, rfl, rfl⟩
theorem cond_loop {b : Nat → Nat} {L : Nat} {f : FG} (hL : L ≤ 400) : ∀ N, ∀ {A B : Mm} {i n c p m : Nat} {W : List Nat}, cs b L - i < N → CS A B b L f i n W [] → c < i → N < p → 40 * N < m →
    Go (lp p (fun s => fR_condition_b12 s.1 s.2) (nI c, A)) (fun y => Go (lp m (fun s => fM_readAny_b9 s.1 s.2.1 s.2.2) (nI (brk W), 1, B)) (fun y' => cnP A B b L f i y y')) := by
  intro N
  induction N with
  | zero => intro A B i n c p m W h; omega
  | succ N ih =>
    intro A B i n c p m W hN h hc hp hm
    obtain ⟨m, rfl⟩ : ∃ k, m = k + 1 := ⟨m - 1, by omega⟩
    obtain ⟨p, rfl⟩ : ∃ k, p = k + 1 := ⟨p - 1, by omega⟩
    have h0 := h
    obtain ⟨o, o8, sk, sm, a7, b7, a8, b8, s, nn⟩ := h0
    have ps := s.1
    have cL := cs_le b L
    have iN := ps.2.2.2.2.2
    have ln := ok_len o o8
    have f0 : A 146 1 = 0 := ps.2.2.2.2.1
    have a4 : A 146 4 = nI i := ps.2.2.2.1
    have wd6 : fM_isWord 6 B = if A 163 i = nI 262 then 1 else 0 := by
      have := word_i hL ps (k := 6) (by omega)
      rw [wq_6] at this; exact this
    have sg40 : fM_isSign 40 B = if A 163 i = nI 40 then 1 else 0 := sign_i hL ps (c := 40) (by omega) (by omega)
    have c400 : ¬ (400 : Int32) ≤ nI c := by rw [(lit_nI _ : (400 : Int32) = nI 400), nI_le' (by omega) (by omega)]; omega
    -- an opening, x of the kinds 0 and 3
    have opening : ∀ x, x = 0 ∨ x = 3 → A 163 i ≠ 2 → (if A 163 i = 262 then fR_putOff 20003 else fR_putOff 0) = fR_putOff (kc x) → (A 163 i = nI 262 ↔ x = 3) → (A 163 i = nI 262 ∨ A 163 i = nI 40) → Go (lp (p + 1) (fun s => fR_condition_b12 s.1 s.2) (nI c, A)) (fun y => Go (lp (m + 1) (fun s => fM_readAny_b9 s.1 s.2.1 s.2.2) (nI (brk W), 1, B)) (fun y' => cnP A B b L f i y y')) := by
      intro x hx ne hput hiff hor
      have iN2 := not_end hL ps ne
      have body : fR_condition_b12 (nI c) A = Option.bind (fR_openOne A) fun M => some (Sum.inl (nI c + 1, M)) := by
        unfold fR_condition_b12 fR_condition_j45 fR_condition_j90
        rw [if_neg c400, if_pos f0, sort_ok hL ps]
        show (if A 163 i = 262 then _ else _) = _
        by_cases q : A 163 i = 262
        · rw [if_pos q]
        · rw [if_neg q]
          show (if A 163 i = 40 then _ else _) = _
          rw [if_pos (show A 163 i = 40 from hor.elim (fun k => absurd k q) id)]
      have mbody : fM_readAny_b9 (nI (brk W)) 1 B = fM_readAny_j33 (nI (brk W)) 1 (if A 163 i = nI 262 then 1 else 0) B := by
        unfold fM_readAny_b9
        rw [if_neg (by decide), wd6, sg40]
        by_cases q : A 163 i = nI 262
        · rw [if_pos q, if_neg (by decide)]
        · rw [if_neg q, if_pos rfl, if_pos (hor.elim (fun k => absurd k q) id), if_neg (by decide)]
      by_cases l : opn W < 8
      · have opx : opn (x :: W) = opn W + 1 := by rw [opn_c, if_pos hx]
        have o1 : okW (x :: W) := ⟨o, by omega, fun q => by omega, fun q => by omega⟩
        have s1 : ST (mput A 146 8 (nI (opn W + 1))) (mput B 217 25 (nI (opn W + 1))) b L i n f ([] ++ List.replicate (bin W) 1) := s.fr (fun c k p q => by rw [mput_q (by omega)]) (fun c k p q => by rw [mput_q (by omega)])
        have b7' : mput B 217 25 (nI (opn W + 1)) 217 27 = nI W.length := by rw [mput_s (by omega)]; exact b7
        have a7' : mput A 146 8 (nI (opn W + 1)) 146 7 = nI W.length := by rw [mput_s (by omega)]; exact a7
        have e0 : ([] : List Nat) ++ List.replicate (bin W) 1 = [] ++ List.replicate (bin (x :: W)) 1 := by rw [bin_c, if_neg (by omega)]; rfl
        obtain ⟨B3, r3, c3, m3⟩ := push_go (x := x) (v := []) (v' := []) hL o1 (by omega) (SK_cg (fun k hk => by rw [mput_r (by omega)]) sk) (SM_cg (fun k hk => by rw [mput_r (by omega)]) sm) a7' b7' (by rw [mput_same, opx]) (by rw [mput_same, opx]) s1 e0 nn iN2
        have st : fR_condition_b12 (nI c) A = some (Sum.inl (nI (c + 1), pK (mput A 146 8 (nI (opn W + 1))) W.length (kc x) i)) := by
          rw [body]
          refine Go.eq ?_
          unfold fR_openOne
          have e8 : A 146 8 + 1 = nI (opn W + 1) := by rw [a8, nI_1]
          have so : fR_sort (mput A 146 8 (nI (opn W + 1))) = some (A 163 i) := by
            rw [sort_ok hL s1.1, mput_r (by omega)]
          have po := putOff_eq (A := mput A 146 8 (nI (opn W + 1))) (kc x) (show W.length < 32 by omega) a7' (by rw [mput_s (by omega)]; exact a4)
          rw [← hput] at po
          dsimp only
          rw [e8, so, nI_1]
          refine go_bind.mpr ?_
          refine Go.yes (by rw [a8, (lit_nI _ : (8 : Int32) = nI 8), nI_lt' (by omega) (by omega)]; exact l) ?_
          refine go_bind.mpr ?_
          refine Go.some ?_
          by_cases q : A 163 i = 262
          · rw [if_pos q] at po
            rw [po]
            refine Go.yes (q) ?_
            refine go_bind.mpr ?_
            refine Go.some ?_
            refine Go.some ?_
            refine Go.some ?_
            rfl
          · rw [if_neg q] at po
            rw [po]
            refine Go.no (q) ?_
            refine go_bind.mpr ?_
            refine Go.some ?_
            refine Go.some ?_
            refine Go.some ?_
            rfl
        have mst : fM_readAny_b9 (nI (brk W)) 1 B = some (Sum.inl (nI (brk (x :: W)), 1, B3)) := by
          rw [mbody]
          refine Go.eq ?_
          unfold fM_readAny_j33
          have e8 : B 217 25 + 1 = nI (opn W + 1) := by rw [b8, nI_1]
          rw [e8]
          refine Go.no (by rw [b8, (lit_nI _ : (8 : Int32) = nI 8), nI_eq' (by omega) (by omega)]; omega) ?_
          refine go_bind.mpr ?_
          have wt := waits_eq (B := mput B 217 25 (nI (opn W + 1))) (mo x) (show W.length < 40 by omega) b7'
          rcases hx with rfl | rfl
          · have nq : ¬ A 163 i = nI 262 := fun k => absurd (hiff.mp k) (by omega)
            refine Go.yes (by rw [if_neg nq]) ?_
            refine Go.some ?_
            refine go_bind.mpr ?_
            rw [if_neg nq, show (if (0 : Int32) = 0 then (12 : Int32) else 9) = mo 0 from rfl, wt]
            refine Go.some ?_
            refine go_bind.mpr ?_
            refine ⟨B3, r3, ?_⟩
            refine Go.some ?_
            rw [brk_c, if_pos rfl, nI_1]
          · have yq : A 163 i = nI 262 := hiff.mpr rfl
            refine Go.no (by rw [if_pos yq]; decide) ?_
            refine Go.some ?_
            refine go_bind.mpr ?_
            rw [if_pos yq, show (if (1 : Int32) = 0 then (12 : Int32) else 9) = mo 3 from rfl, wt]
            refine Go.some ?_
            refine go_bind.mpr ?_
            refine ⟨B3, r3, ?_⟩
            refine Go.some ?_
            rfl
        rw [lpx_inl p (f := fun s => fR_condition_b12 s.1 s.2) (s := (nI c, A)) st, lpx_inl m (f := fun s => fM_readAny_b9 s.1 s.2.1 s.2.2) (s := (nI (brk W), 1, B)) mst]
        refine (ih (i := i + 1) (by omega) c3 (by omega) (by omega) (by omega)).mono fun y hy => hy.mono fun y' hy' => ?_
        exact hy'.pre (by omega) (((cF.rfl' A).put (by omega)).trans (cF_pK _ _ _ _)) (((dF.rfl' B).put (by omega)).trans m3)
      · have e8 : opn W = 8 := by omega
        have ft : Flt (bA A 3 (B 217 12)) := Flt_bA (by decide) s.2.1.1 s.2.1.2.2.1
        have st : fR_condition_b12 (nI c) A = some (Sum.inl (nI (c + 1), bA A 3 (B 217 12))) := by
          rw [body]
          refine Go.eq ?_
          unfold fR_openOne
          rw [blame_ok 3 hL ps, nI_1]
          refine go_bind.mpr ?_
          refine Go.no (by rw [a8, (lit_nI _ : (8 : Int32) = nI 8), nI_lt' (by omega) (by omega)]; omega) ?_
          refine go_bind.mpr ?_
          refine Go.some ?_
          refine Go.some ?_
          refine Go.some ?_
          rfl
        have mst : fM_readAny_b9 (nI (brk W)) 1 B = some (Sum.inr (Sum.inl B)) := by
          rw [mbody]
          refine Go.eq ?_
          unfold fM_readAny_j33
          refine Go.yes (by rw [b8, e8]; rfl) ?_
          refine Go.some ?_
          rfl
        rw [lpx_inl p (f := fun s => fR_condition_b12 s.1 s.2) (s := (nI c, A)) st, lpx_inr m (f := fun s => fM_readAny_b9 s.1 s.2.1 s.2.2) (s := (nI (brk W), 1, B)) mst]
        refine (cond_bad _ ft p (by omega)).mono fun y hy => ?_
        refine Go.some ?_
        exact ⟨bA A 3 (B 217 12), B, Or.inr hy, (eF_bA _ _ _).c, dF.rfl' _, Or.inr ⟨ft, Or.inl ⟨rfl, flt_bA (by decide)⟩⟩⟩
    by_cases q6 : A 163 i = nI 262
    · exact opening 3 (Or.inr rfl) (by rw [q6]; decide) (by rw [if_pos (show A 163 i = 262 from q6)]; rfl) ⟨fun _ => rfl, fun _ => q6⟩ (Or.inl q6)
    by_cases q0 : A 163 i = nI 40
    · exact opening 0 (Or.inl rfl) (by rw [q0]; decide) (by rw [if_neg (show ¬ A 163 i = 262 from q6)]; rfl) ⟨fun q => absurd q q6, fun q => by omega⟩ (Or.inr q0)
    -- a comparison
    obtain ⟨A1, A1e, r, re, x1, x2, x3⟩ := cmp_go (e := nb W) hL s nn (by show (List.replicate (bin W) 1).length ≤ 28; rw [List.length_replicate]; omega)
    have body : fR_condition_b12 (nI c) A = Option.bind (cK 1000000 0 A1) fun qz18 => if qz18.1 = 0 then some (Sum.inr (Sum.inl qz18.2)) else some (Sum.inl (nI c + 1, qz18.2)) := by
      unfold fR_condition_b12 fR_condition_j45 fR_condition_j90
      rw [if_neg c400, if_pos f0, sort_ok hL ps]
      show (if A 163 i = 262 then _ else _) = _
      rw [if_neg (show ¬ A 163 i = 262 from q6)]
      show (if A 163 i = 40 then _ else _) = _
      rw [if_neg (show ¬ A 163 i = 40 from q0), cmp_bind, A1e]
      show (Option.bind (fR_closeAll A1) fun Mz16 => _) = _
      rw [ck_bind]
    rcases x3 with ⟨r0, i1, n1, hi, s1, l1⟩ | ⟨r0, fl, ft⟩
    · have e167 : ∀ k, A1 167 k = A 167 k := fun k => x1 167 k (by omega)
      have e232 : ∀ k, r.2 232 k = B 232 k := fun k => x2 232 k (by omega)
      have cs1 : CS A1 r.2 b L f i1 n1 W [1] := ⟨o, o8, SK_cg (fun k _ => e167 k) sk, SM_cg (fun k _ => e232 k) sm, by rw [x1 146 7 (by omega)]; exact a7, by rw [x2 217 27 (by omega)]; exact b7, by rw [x1 146 8 (by omega)]; exact a8, by rw [x2 217 25 (by omega)]; exact b8, s1, l1⟩
      obtain ⟨B2, B2e, ns, d2⟩ := NS_of hL cs1
      obtain ⟨m, rfl⟩ : ∃ k, m = k + 1 := ⟨m - 1, by omega⟩
      obtain ⟨q, A', cq, ef, af⟩ := after_go hL (W.length + 1) W (by omega) (j := 0) (p := 1000000) (m := m + 1) ns (by omega) (by omega) (by omega)
      have mst : fM_readAny_b9 (nI (brk W)) 1 B = some (Sum.inl (nI (brk W), 0, B2)) := by
        refine Go.eq ?_
        unfold fM_readAny_b9
        rw [wd6, sg40, re]
        refine Go.no (by decide) ?_
        refine Go.yes (by rw [if_neg q6]) ?_
        refine Go.yes (by rw [if_neg q0]) ?_
        refine go_bind.mpr ?_
        refine Go.some ?_
        refine Go.no (by rw [r0]; decide) ?_
        refine go_bind.mpr ?_
        rw [B2e]
        refine Go.some ?_
        refine Go.some ?_
        rfl
      rw [cq] at body
      rw [lpx_inl (m + 1) (f := fun s => fM_readAny_b9 s.1 s.2.1 s.2.2) (s := (nI (brk W), 1, B)) mst]
      have cA : cF A A' := x1.c.trans ef
      rcases af with ⟨rfl, m', B', i', n', W', h1, h2, h3, h4, h5⟩ | ⟨rfl, y, B', h1, h2, h3⟩
      · have st : fR_condition_b12 (nI c) A = some (Sum.inl (nI (c + 1), A')) := by
          rw [body]
          refine Go.eq ?_
          rw [nI_1]
          refine go_bind.mpr ?_
          refine Go.some ?_
          refine Go.no (by show ¬ (1 : Int32) = 0; decide) ?_
          refine Go.some ?_
          rfl
        rw [lpx_inl p (f := fun s => fR_condition_b12 s.1 s.2) (s := (nI c, A)) st, h2]
        have ln' := ok_len h3.1 h3.2.1
        have iN' := h3.2.2.2.2.2.2.2.2.1.1.2.2.2.2.2
        refine (ih (i := i') (by omega) h3 (by omega) (by omega) (by omega)).mono fun y hy => hy.mono fun y' hy' => ?_
        exact hy'.pre (by omega) cA ((x2.d.trans d2).trans h5)
      · have st : fR_condition_b12 (nI c) A = some (Sum.inr (Sum.inl A')) := by
          rw [body]
          refine Go.eq ?_
          refine go_bind.mpr ?_
          refine Go.some ?_
          refine Go.yes (rfl) ?_
          refine Go.some ?_
          rfl
        rw [lpx_inr p (f := fun s => fR_condition_b12 s.1 s.2) (s := (nI c, A)) st, h1]
        refine Go.some ?_
        refine Go.some ?_
        refine ⟨A', B', Or.inl rfl, cA, (x2.d.trans d2).trans h2, ?_⟩
        rcases h3 with ⟨r1, i', n', r2, r3, r4, r5⟩ | ⟨r1, r2, r3⟩
        · exact Or.inl ⟨r1, i', n', by omega, r3, r4, r5⟩
        · exact Or.inr ⟨r3, Or.inr (Or.inr ⟨r1, r2⟩)⟩
    · obtain ⟨pp, ppe, p0, pf⟩ := cK_bad (w := W.length) (by omega) ft (by rw [x1 146 7 (by omega)]; exact a7)
      have st : fR_condition_b12 (nI c) A = some (Sum.inr (Sum.inl pp.2)) := by
        rw [body, ppe]
        refine Go.eq ?_
        refine go_bind.mpr ?_
        refine Go.some ?_
        refine Go.yes (p0) ?_
        refine Go.some ?_
        rfl
      have mst : fM_readAny_b9 (nI (brk W)) 1 B = some (Sum.inr (Sum.inr (Sum.inl r.2))) := by
        refine Go.eq ?_
        unfold fM_readAny_b9
        rw [wd6, sg40, re]
        refine Go.no (by decide) ?_
        refine Go.yes (by rw [if_neg q6]) ?_
        refine Go.yes (by rw [if_neg q0]) ?_
        refine go_bind.mpr ?_
        refine Go.some ?_
        refine Go.yes (r0) ?_
        refine Go.some ?_
        rfl
      rw [lpx_inr p (f := fun s => fR_condition_b12 s.1 s.2) (s := (nI c, A)) st, lpx_inr m (f := fun s => fM_readAny_b9 s.1 s.2.1 s.2.2) (s := (nI (brk W), 1, B)) mst]
      refine Go.some ?_
      refine Go.some ?_
      exact ⟨pp.2, r.2, Or.inl rfl, x1.c.trans pf.2.2.2, x2.d, Or.inr ⟨pf.1, Or.inr (Or.inl ⟨rfl, pf.flt fl⟩)⟩⟩
def XD (A B : Mm) (b : Nat → Nat) (L : Nat) (f : FG) (i : Nat) (A' : Mm) (r : Int32 × Mm) : Prop := cF A A' ∧ dF B r.2 ∧ ((r.1 = 0 ∧ ∃ i' n', i < i' ∧ ST A' r.2 b L i' n' f [1] ∧ n' ≤ i' ∧ r.2 217 25 = 0) ∨ (r.1 = -1 ∧ FLT A' r.2 ∧ Flt A'))
theorem condition_go {A B : Mm} {b : Nat → Nat} {L i n : Nat} {f : FG} (hL : L ≤ 400) (h : ST A B b L i n f []) (hn : n ≤ i) (hi : 0 < i) (h25 : B 217 25 = 0) :
    Go (fR_condition A) (fun A' => Go (fM_readAny B) (fun r => XD A B b L f i A' r)) := by
  have cL := cs_le b L
  have s1 : ST (mput (mput A 146 7 0) 146 8 0) (mput B 217 27 0) b L i n f ([] ++ List.replicate (bin []) 1) := h.fr (fun c k p q => by rw [mput_q (by omega), mput_q (by omega)]) (fun c k p q => by rw [mput_q (by omega)])
  have c0 : CS (mput (mput A 146 7 0) 146 8 0) (mput B 217 27 0) b L f i n [] [] := ⟨trivial, Nat.zero_le _, trivial, trivial, by rw [mput_s (by omega), mput_same]; rfl, mput_same _ _ _ _, mput_same _ _ _ _, by rw [mput_s (by omega)]; exact h25, s1, by show n + 0 ≤ i; omega⟩
  obtain ⟨y, y1, y', y2, A', B', h1, h2, h3, h4⟩ := cond_loop hL (cs b L - i + 1) (c := 0) (p := 1000000) (m := 1000000) (by omega) c0 hi (by omega) (by omega)
  have cA : cF A A' := (((cF.rfl' A).put (by omega)).put (by omega)).trans h2
  have dB : dF B B' := ((dF.rfl' B).put (by omega)).trans h3
  unfold fR_condition fM_readAny
  refine go_bind.mpr ?_
  refine ⟨y, y1, ?_⟩
  have fin : ∀ {P : Prop}, Go (Option.bind (lp 1000000 (fun s => fM_readAny_b9 s.1 s.2.1 s.2.2) (0, 1, mput B 217 27 0)) fun e9 => match e9 with | Sum.inl p9 => some ((fM_errs 3 p9).1, (fM_errs 3 p9).2) | Sum.inr (Sum.inl p9) => some (-1, p9) | Sum.inr (Sum.inr (Sum.inl p9)) => some (0, p9) | Sum.inr (Sum.inr (Sum.inr p9)) => some ((fM_errs 1 p9).1, (fM_errs 1 p9).2)) (fun r => XD A B b L f i A' r) := by
    intro P
    refine go_bind.mpr ?_
    refine ⟨y', y2, ?_⟩
    rcases h4 with ⟨rfl, i', n', r1, r2, r3, r4⟩ | ⟨ft, (⟨rfl, r⟩ | ⟨rfl, r⟩ | ⟨rfl, r⟩)⟩
    · refine Go.some ?_
      exact ⟨cA, dB, Or.inl ⟨rfl, i', n', r1, r2, r3, r4⟩⟩
    · refine Go.some ?_
      exact ⟨cA, dB.trans (mF_errs B' 3).d, Or.inr ⟨rfl, r, ft⟩⟩
    · refine Go.some ?_
      exact ⟨cA, dB, Or.inr ⟨rfl, r, ft⟩⟩
    · refine Go.some ?_
      exact ⟨cA, dB.trans (mF_errs B' 1).d, Or.inr ⟨rfl, r, ft⟩⟩
  rcases h1 with rfl | rfl
  · refine Go.some ?_
    exact fin (P := True)
  · refine Go.some ?_
    exact fin (P := True)
end PmCond4
