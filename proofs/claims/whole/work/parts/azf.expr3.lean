section PmExpr3
theorem sign_val {A B : Mm} {b : Nat → Nat} {L i c : Nat} (hL : L ≤ 400) (ps : PS A B b L i) (h1 : 40 ≤ c) (h2 : c ≤ 62) (h : A 163 i = nI c) : B 217 13 = 4 ∧ B 217 14 = nI c := by
  have tr := (ps.tok hL).1
  rw [h] at tr
  rcases tr with ⟨q1, q2⟩ | ⟨q1, q2⟩ | ⟨v, v1, q1, q3, q2, q4⟩ | ⟨k, k1, q1, q2, q3⟩ | ⟨d, d1, q1, q2, q3⟩
  · rw [(lit_nI _ : (2 : Int32) = nI 2), nI_eq' (by omega) (by omega)] at q1; omega
  · rw [(lit_nI _ : (0 : Int32) = nI 0), nI_eq' (by omega) (by omega)] at q1; omega
  · rw [(lit_nI _ : (1 : Int32) = nI 1), nI_eq' (by omega) (by omega)] at q1; omega
  · rw [nI_eq' (by omega) (by omega)] at q1; omega
  · have := isSg_lt d1
    rw [nI_eq' (by omega) (by omega)] at q1
    subst q1
    exact ⟨q2, q3⟩
theorem sum_loop_bad {A : Mm} (c : Int32) (h : Flt A) : ∀ n, 0 < n → Go (lp n (fun s => fR_sum_b6 s.1 s.2) (c, A)) (fun A' => fF A A') := by
  intro n hn
  obtain ⟨n, rfl⟩ : ∃ k, n = k + 1 := ⟨n - 1, by omega⟩
  unfold lp
  have : Go (fR_sum_b6 c A) (fun r => r = Sum.inr A) := by
    unfold fR_sum_b6
    by_cases q : 400 ≤ c
    · refine Go.yes (q) ?_
      refine Go.some ?_
      rfl
    · rw [sort_bad h.1]
      refine Go.no (q) ?_
      refine go_bind.mpr ?_
      refine Go.some ?_
      refine Go.no (by decide) ?_
      refine go_bind.mpr ?_
      refine Go.some ?_
      refine Go.no (by decide) ?_
      refine Go.some ?_
      rfl
  dsimp only
  rw [this.eq]
  exact ⟨A, rfl, fF.rfl' h⟩
theorem sum_bad {A : Mm} (h : Flt A) : Go (fR_sum A) (fun A' => fF A A') := by
  unfold fR_sum
  refine Go.bind (product_bad h) fun A1 h1 => ?_
  refine Go.bind (sum_loop_bad 0 h1.1 1000000 (by omega)) fun A2 h2 => Go.some ?_
  exact h1.trans h2
theorem sum_go {A B : Mm} {b : Nat → Nat} {L i n : Nat} {f : FG} {e : Nat} {σ : List Nat} (hL : L ≤ 400) (h : ST A B b L i n f σ) (hn : n + e ≤ i) (hs : σ.length ≤ 29) :
    Go (fR_sum A) (fun A' => Go (fM_readSum B) (fun r => XP A B b L f σ e i A' r)) := by
  have cL := cs_le b L
  unfold fR_sum fM_readSum
  obtain ⟨A1, A1e, r, re, x1, x2, x3⟩ := product_go hL h hn (by omega)
  refine go_bind.mpr ?_
  refine ⟨A1, A1e, ?_⟩
  rcases x3 with ⟨r0, i1, n1, z1, hz, hi, s1, l1⟩ | ⟨r0, fl, ft⟩
  rotate_left
  · obtain ⟨A2, A2e, f2⟩ := sum_loop_bad 0 ft 1000000 (by omega)
    refine go_bind.mpr ?_
    refine ⟨A2, A2e, ?_⟩
    refine Go.some ?_
    refine go_bind.mpr ?_
    refine ⟨r, re, ?_⟩
    refine Go.yes (r0) ?_
    refine Go.some ?_
    exact ⟨x1.trans f2.2.2.2, x2, Or.inr ⟨rfl, f2.flt fl, f2.1⟩⟩
  have loop : Go (lp 1000000 (fun s => fR_sum_b6 s.1 s.2) (0, A1)) (fun A' => Go (lp 1000000 (fun s => fM_readSum_b10 s) r.2) (fun y => (∃ B', y = Sum.inr B' ∧ eF A1 A' ∧ mF r.2 B' ∧ ∃ i' n' z, z ≠ 1 ∧ i < i' ∧ ST A' B' b L i' n' f (z :: σ) ∧ n' + e ≤ i') ∨ (∃ B', y = Sum.inl B' ∧ eF A1 A' ∧ mF r.2 B' ∧ FLT A' B' ∧ Flt A'))) := by
    refine go_lp2x (fun k s t => ∃ c i' n' z A2, s = (nI c, A2) ∧ k = cs b L - i' ∧ c < i' ∧ eF A1 A2 ∧ mF r.2 t ∧ z ≠ 1 ∧ i < i' ∧ ST A2 t b L i' n' f (z :: σ) ∧ n' + e ≤ i') ?_ 1000000 (cs b L - i1) (0, A1) r.2 (by omega) ⟨0, i1, n1, z1, A1, rfl, rfl, by omega, eF.rfl' _, mF.rfl' _, hz, hi, s1, l1⟩
    rintro k s t ⟨c, i', n', z, A2, rfl, rfl, ci, ea, ma, hz, hi, s2, l2⟩
    obtain ⟨ps, ed, ty⟩ := s2
    have iN := ps.2.2.2.2.2
    have a4 : A2 146 4 = nI i' := ps.2.2.2.1
    unfold fR_sum_b6 fM_readSum_b10
    have sg1 : fM_isSign 43 t = if A2 163 i' = nI 43 then 1 else 0 := sign_i hL ps (c := 43) (by omega) (by omega)
    have sg2 : fM_isSign 45 t = if A2 163 i' = nI 45 then 1 else 0 := sign_i hL ps (c := 45) (by omega) (by omega)
    have main : ∀ x o : Int32, A2 163 i' ≠ 2 → (if A2 163 i' = 43 then (20004 : Int32) else 20005) = x → (if t 217 14 = 43 then (2 : Int32) else 3) = o → (o = 2 ∨ o = 3 ∨ o = 4) → Enc x o 0 → Go (fR_sum_j31 (nI c) A2) (fun r1 => Go (fM_readSum_j28 t) (fun r' => match r1, r' with | .inl s', .inl t' => ∃ k', k' < cs b L - i' ∧ ∃ c i' n' z A2, s' = (nI c, A2) ∧ k' = cs b L - i' ∧ c < i' ∧ eF A1 A2 ∧ mF r.2 t' ∧ z ≠ 1 ∧ i < i' ∧ ST A2 t' b L i' n' f (z :: σ) ∧ n' + e ≤ i' | .inr y, .inr y' => ((∃ B', y' = Sum.inr B' ∧ eF A1 y ∧ mF r.2 B' ∧ ∃ i' n' z, z ≠ 1 ∧ i < i' ∧ ST y B' b L i' n' f (z :: σ) ∧ n' + e ≤ i') ∨ (∃ B', y' = Sum.inl B' ∧ eF A1 y ∧ mF r.2 B' ∧ FLT y B' ∧ Flt y)) | .inl s', .inr y' => ∀ n, 0 < n → Go (lp n (fun s => fR_sum_b6 s.1 s.2) s') (fun y => ((∃ B', y' = Sum.inr B' ∧ eF A1 y ∧ mF r.2 B' ∧ ∃ i' n' z, z ≠ 1 ∧ i < i' ∧ ST y B' b L i' n' f (z :: σ) ∧ n' + e ≤ i') ∨ (∃ B', y' = Sum.inl B' ∧ eF A1 y ∧ mF r.2 B' ∧ FLT y B' ∧ Flt y))) | _, _ => False)) := by
      intro x o ne hx ho h234 henc
      have iN2 := not_end hL ps ne
      obtain ⟨B1, B1e, s3, fr3⟩ := ST.adv hL (show ST A2 t b L i' n' f (z :: σ) from ⟨ps, ed, ty⟩) iN2
      obtain ⟨A4, A4e, r4, r4e, y1, y2, y3⟩ := product_go (e := e + 1) hL s3 (by omega) (by show σ.length + 1 ≤ 30; omega)
      have eA4 : eF A1 A4 := (ea.put (by omega)).trans y1
      have mB4 : mF t r4.2 := fr3.m.trans y2
      unfold fR_sum_j31 fM_readSum_j28
      rw [sort_ok hL ps, a4, nI_1]
      refine go_bind.mpr ?_
      refine Go.some ?_
      dsimp only
      rw [hx]
      refine go_bind.mpr ?_
      refine ⟨A4, A4e, ?_⟩
      refine go_bind.mpr ?_
      rcases y3 with ⟨r0', i5, n5, z5, hz5, hi5, s5, l5⟩ | ⟨r0', fl, ft⟩
      · have iN5 := s5.1.2.2.2.2.2
        have em := s5.emit (x := x) (o := o) (a := 0) (by omega) henc (tst_bin h234 hz hz5) (by show σ.length + 1 ≤ 32; omega)
        rw [step_eq _ s5.2.1.1 (by omega)]
        refine Go.some ?_
        refine Go.some ?_
        rw [ho]
        refine go_bind.mpr ?_
        refine ⟨B1, B1e, ?_⟩
        refine go_bind.mpr ?_
        refine ⟨r4, r4e, ?_⟩
        refine Go.no (by rw [r0']; decide) ?_
        refine go_bind.mpr ?_
        rw [emit_eq _ _ s5.2.1.2.1 (by omega)]
        refine Go.some ?_
        refine Go.some ?_
        exact ⟨cs b L - i5, by omega, c + 1, i5, n5 + 1, 0, _, by rw [nI_1], rfl, by omega, eA4.trans (eF_aEm _ _ _), (ma.trans mB4).trans (mF_bEm _ _ _ _), by omega, by omega, em, by omega⟩
      · obtain ⟨A5, A5e, f5⟩ := step_bad x ft
        refine ⟨A5, A5e, ?_⟩
        refine Go.some ?_
        rw [ho]
        refine go_bind.mpr ?_
        refine ⟨B1, B1e, ?_⟩
        refine go_bind.mpr ?_
        refine ⟨r4, r4e, ?_⟩
        refine Go.yes (r0') ?_
        refine Go.some ?_
        intro m hm
        refine (sum_loop_bad _ f5.1 m hm).mono fun A6 f6 => ?_
        have f7 := f5.trans f6
        exact Or.inr ⟨r4.2, rfl, eA4.trans f7.2.2.2, ma.trans mB4, f7.flt fl, f7.1⟩
    dsimp only
    rw [sort_ok hL ps, sg1, sg2]
    refine Go.no (by rw [(lit_nI _ : (400 : Int32) = nI 400), nI_le' (by omega) (by omega)]; omega) ?_
    refine go_bind.mpr ?_
    refine Go.some ?_
    by_cases q1 : A2 163 i' = nI 43
    · have sv := (sign_val hL ps (c := 43) (by omega) (by omega) q1).2
      refine Go.yes (q1) ?_
      obtain ⟨r1, e1, r2, e2, q⟩ := main 20004 2 (by rw [q1]; decide) (by rw [q1]; rfl) (by rw [sv]; rfl) (Or.inl rfl) (by unfold Enc; simp)
      refine ⟨r1, e1, ?_⟩
      refine Go.no (by rw [if_pos q1]; decide) ?_
      refine ⟨r2, e2, ?_⟩
      cases r1 <;> cases r2 <;> exact q
    · by_cases q2 : A2 163 i' = nI 45
      · have sv := (sign_val hL ps (c := 45) (by omega) (by omega) q2).2
        refine Go.no (q1) ?_
        refine go_bind.mpr ?_
        refine Go.some ?_
        refine Go.yes (q2) ?_
        obtain ⟨r1, e1, r2, e2, q⟩ := main 20005 3 (by rw [q2]; decide) (by rw [q2]; rfl) (by rw [sv]; rfl) (Or.inr (Or.inl rfl)) (by unfold Enc; simp)
        refine ⟨r1, e1, ?_⟩
        refine Go.yes (by rw [if_neg q1]) ?_
        refine Go.no (by rw [if_pos q2]; decide) ?_
        refine ⟨r2, e2, ?_⟩
        cases r1 <;> cases r2 <;> exact q
      · refine Go.no (q1) ?_
        refine go_bind.mpr ?_
        refine Go.some ?_
        refine Go.no (q2) ?_
        refine Go.some ?_
        refine Go.yes (by rw [if_neg q1]) ?_
        refine Go.yes (by rw [if_neg q2]) ?_
        refine Go.some ?_
        exact Or.inl ⟨t, rfl, ea, ma, i', n', z, hz, hi, ⟨ps, ed, ty⟩, l2⟩
  obtain ⟨A2, A2e, y, ye, hy⟩ := loop
  refine go_bind.mpr ?_
  refine ⟨A2, A2e, ?_⟩
  refine Go.some ?_
  refine go_bind.mpr ?_
  refine ⟨r, re, ?_⟩
  refine Go.no (by rw [r0]; decide) ?_
  refine go_bind.mpr ?_
  refine ⟨y, ye, ?_⟩
  rcases hy with ⟨B', rfl, k1, k2, k3⟩ | ⟨B', rfl, k1, k2, k3, k4⟩
  · refine Go.some ?_
    exact ⟨x1.trans k1, x2.trans k2, Or.inl ⟨rfl, k3⟩⟩
  · refine Go.some ?_
    exact ⟨x1.trans k1, x2.trans k2, Or.inr ⟨rfl, k3, k4⟩⟩
/-- two sums compared -/
def cmpK (A : Mm) : Option Mm := Option.bind (fR_sum A) fun M8 => Option.bind (fR_relation M8) fun q10 => Option.bind (fR_sum q10.2) fun M12 => fL_addStep q10.1 M12
theorem relation_bad {A : Mm} (h : Flt A) : fR_relation A = some (20009, A) := by
  refine Go.eq ?_
  unfold fR_relation
  rw [sort_bad h.1, blame_bad 1 h.1]
  refine go_bind.mpr ?_
  refine Go.some ?_
  refine Go.no (by decide) ?_
  refine Go.no (by decide) ?_
  refine Go.no (by decide) ?_
  refine go_bind.mpr ?_
  refine Go.some ?_
  refine Go.some ?_
  rfl
theorem cmp_bad {A : Mm} (h : Flt A) : Go (cmpK A) (fun A' => fF A A') := by
  unfold cmpK
  refine Go.bind (sum_bad h) fun A1 h1 => ?_
  rw [relation_bad h1.1]
  refine go_bind.mpr ?_
  refine Go.some ?_
  refine Go.bind (sum_bad h1.1) fun A2 h2 => ?_
  exact (step_bad 20009 h2.1).mono fun A3 h3 => (h1.trans h2).trans h3
def XC (A B : Mm) (b : Nat → Nat) (L : Nat) (f : FG) (σ : List Nat) (e i : Nat) (A' : Mm) (r : Int32 × Mm) : Prop := eF A A' ∧ mF B r.2 ∧ ((r.1 = 0 ∧ ∃ i' n', i < i' ∧ ST A' r.2 b L i' n' f (1 :: σ) ∧ n' + e ≤ i') ∨ (r.1 = -1 ∧ FLT A' r.2 ∧ Flt A'))
theorem cmp_go {A B : Mm} {b : Nat → Nat} {L i n : Nat} {f : FG} {e : Nat} {σ : List Nat} (hL : L ≤ 400) (h : ST A B b L i n f σ) (hn : n + e ≤ i) (hs : σ.length ≤ 28) :
    Go (cmpK A) (fun A' => Go (fM_readCompared B) (fun r => XC A B b L f σ e i A' r)) := by
  have cL := cs_le b L
  unfold cmpK fM_readCompared
  obtain ⟨A1, A1e, r, re, x1, x2, x3⟩ := sum_go hL h hn (by omega)
  refine go_bind.mpr ?_
  refine ⟨A1, A1e, ?_⟩
  rcases x3 with ⟨r0, i1, n1, z1, hz, hi, s1, l1⟩ | ⟨r0, fl, ft⟩
  rotate_left
  · rw [relation_bad ft]
    refine go_bind.mpr ?_
    refine Go.some ?_
    refine go_bind.mpr ?_
    refine (sum_bad ft).mono fun A2 f2 => ?_
    refine (step_bad 20009 f2.1).mono fun A3 f3 => ?_
    refine go_bind.mpr ?_
    refine ⟨r, re, ?_⟩
    refine Go.yes (r0) ?_
    refine Go.some ?_
    have f4 := f2.trans f3
    exact ⟨x1.trans f4.2.2.2, x2, Or.inr ⟨rfl, f4.flt fl, f4.1⟩⟩
  obtain ⟨ps, ed, ty⟩ := s1
  have a4 : A1 146 4 = nI i1 := ps.2.2.2.1
  have sg1 : fM_isSign 60 r.2 = if A1 163 i1 = nI 60 then 1 else 0 := sign_i hL ps (c := 60) (by omega) (by omega)
  have sg2 : fM_isSign 61 r.2 = if A1 163 i1 = nI 61 then 1 else 0 := sign_i hL ps (c := 61) (by omega) (by omega)
  have sg3 : fM_isSign 62 r.2 = if A1 163 i1 = nI 62 then 1 else 0 := sign_i hL ps (c := 62) (by omega) (by omega)
  have main : ∀ x o : Int32, A1 163 i1 ≠ 2 → (if r.2 217 14 = 60 then (6 : Int32) else (if r.2 217 14 = 61 then (7 : Int32) else 8)) = o → (o = 6 ∨ o = 7 ∨ o = 8) → Enc x o 0 → Go (Option.bind (fR_sum (mput A1 146 4 (nI (i1 + 1)))) fun M12 => fL_addStep x M12) (fun A' => Go (fM_readCompared_j43 r.2) (fun r' => XC A B b L f σ e i A' r')) := by
    intro x o ne ho h678 henc
    have iN2 := not_end hL ps ne
    obtain ⟨B1, B1e, s3, fr3⟩ := ST.adv hL (show ST A1 r.2 b L i1 n1 f (z1 :: σ) from ⟨ps, ed, ty⟩) iN2
    obtain ⟨A4, A4e, r4, r4e, y1, y2, y3⟩ := sum_go (e := e + 1) hL s3 (by omega) (by show σ.length + 1 ≤ 29; omega)
    have eA4 : eF A A4 := (x1.put (by omega)).trans y1
    have mB4 : mF B r4.2 := (x2.trans fr3.m).trans y2
    unfold fM_readCompared_j43
    refine go_bind.mpr ?_
    refine ⟨A4, A4e, ?_⟩
    rcases y3 with ⟨r0', i5, n5, z5, hz5, hi5, s5, l5⟩ | ⟨r0', fl, ft⟩
    · have iN5 := s5.1.2.2.2.2.2
      have em := s5.emit (x := x) (o := o) (a := 0) (by omega) henc (tst_cmp h678 hz hz5) (by show σ.length + 1 ≤ 32; omega)
      rw [step_eq _ s5.2.1.1 (by omega)]
      refine Go.some ?_
      rw [ho]
      refine go_bind.mpr ?_
      refine ⟨B1, B1e, ?_⟩
      refine go_bind.mpr ?_
      refine ⟨r4, r4e, ?_⟩
      refine Go.no (by rw [r0']; decide) ?_
      refine go_bind.mpr ?_
      rw [emit_eq _ _ s5.2.1.2.1 (by omega)]
      refine Go.some ?_
      refine Go.some ?_
      exact ⟨eA4.trans (eF_aEm _ _ _), mB4.trans (mF_bEm _ _ _ _), Or.inl ⟨rfl, i5, n5 + 1, by omega, em, by omega⟩⟩
    · obtain ⟨A5, A5e, f5⟩ := step_bad x ft
      refine ⟨A5, A5e, ?_⟩
      rw [ho]
      refine go_bind.mpr ?_
      refine ⟨B1, B1e, ?_⟩
      refine go_bind.mpr ?_
      refine ⟨r4, r4e, ?_⟩
      refine Go.yes (r0') ?_
      refine Go.some ?_
      exact ⟨eA4.trans f5.2.2.2, mB4, Or.inr ⟨rfl, f5.flt fl, f5.1⟩⟩
  unfold fR_relation fR_relation_j32
  rw [sort_ok hL ps, a4, nI_1]
  refine go_bind.mpr ?_
  refine go_bind.mpr ?_
  refine Go.some ?_
  have mod : ∀ {A' : Mm}, (A1 163 i1 = nI 60 ∨ A1 163 i1 = nI 61 ∨ A1 163 i1 = nI 62) → Go (fM_readCompared_j43 r.2) (fun r' => XC A B b L f σ e i A' r') → Go (Option.bind (fM_readSum B) fun qz2 => if qz2.1 = -1 then some (-1, qz2.2) else if fM_isSign 60 qz2.2 = 0 then if fM_isSign 61 qz2.2 = 0 then if fM_isSign 62 qz2.2 = 0 then some ((fM_errs 1 qz2.2).1, (fM_errs 1 qz2.2).2) else fM_readCompared_j43 qz2.2 else fM_readCompared_j43 qz2.2 else fM_readCompared_j43 qz2.2) (fun r' => XC A B b L f σ e i A' r') := by
    intro A' hq hg
    refine go_bind.mpr ?_
    refine ⟨r, re, ?_⟩
    refine Go.no (by rw [r0]; decide) ?_
    rw [sg1, sg2, sg3]
    by_cases q1 : A1 163 i1 = nI 60
    · refine Go.no (by rw [if_pos q1]; decide) ?_
      exact hg
    · by_cases q2 : A1 163 i1 = nI 61
      · refine Go.yes (by rw [if_neg q1]) ?_
        refine Go.no (by rw [if_pos q2]; decide) ?_
        exact hg
      · have q3 : A1 163 i1 = nI 62 := by
          rcases hq with q | q | q
          · exact absurd q q1
          · exact absurd q q2
          · exact q
        refine Go.yes (by rw [if_neg q1]) ?_
        refine Go.yes (by rw [if_neg q2]) ?_
        refine Go.no (by rw [if_pos q3]; decide) ?_
        exact hg
  by_cases q1 : A1 163 i1 = nI 60
  · have sv := (sign_val hL ps (c := 60) (by omega) (by omega) q1).2
    refine Go.yes (q1) ?_
    refine Go.no (by rw [q1]; decide) ?_
    refine Go.yes (q1) ?_
    refine Go.some ?_
    refine (main 20008 6 (by rw [q1]; decide) (by rw [sv]; rfl) (Or.inl rfl) (by unfold Enc; simp)).mono fun A' hA => ?_
    exact mod (Or.inl q1) hA
  by_cases q2 : A1 163 i1 = nI 61
  · have sv := (sign_val hL ps (c := 61) (by omega) (by omega) q2).2
    refine Go.no (q1) ?_
    refine Go.yes (q2) ?_
    refine Go.yes (q2) ?_
    refine Go.some ?_
    refine (main 20009 7 (by rw [q2]; decide) (by rw [sv]; rfl) (Or.inr (Or.inl rfl)) (by unfold Enc; simp)).mono fun A' hA => ?_
    exact mod (Or.inr (Or.inl q2)) hA
  by_cases q3 : A1 163 i1 = nI 62
  · have sv := (sign_val hL ps (c := 62) (by omega) (by omega) q3).2
    refine Go.no (q1) ?_
    refine Go.no (q2) ?_
    refine Go.yes (q3) ?_
    refine Go.no (by rw [q3]; decide) ?_
    refine Go.no (by rw [q3]; decide) ?_
    refine Go.some ?_
    refine (main 20010 8 (by rw [q3]; decide) (by rw [sv]; rfl) (Or.inr (Or.inr rfl)) (by unfold Enc; simp)).mono fun A' hA => ?_
    exact mod (Or.inr (Or.inr q3)) hA
  have ft : Flt (bA A1 1 (r.2 217 12)) := Flt_bA (by decide) ed.1 ed.2.2.1
  have fl : FLT (bA A1 1 (r.2 217 12)) (fM_errs 1 r.2).2 := flt_bA (by decide)
  rw [blame_ok 1 hL ps]
  refine Go.no (q1) ?_
  refine Go.no (q2) ?_
  refine Go.no (q3) ?_
  refine go_bind.mpr ?_
  refine Go.some ?_
  refine Go.some ?_
  refine go_bind.mpr ?_
  refine (sum_bad ft).mono fun A2 f2 => ?_
  refine (step_bad 20009 f2.1).mono fun A3 f3 => ?_
  refine go_bind.mpr ?_
  refine ⟨r, re, ?_⟩
  refine Go.no (by rw [r0]; decide) ?_
  refine Go.yes (by rw [sg1, if_neg q1]) ?_
  refine Go.yes (by rw [sg2, if_neg q2]) ?_
  refine Go.yes (by rw [sg3, if_neg q3]) ?_
  refine Go.some ?_
  have f4 := f2.trans f3
  exact ⟨(x1.trans (eF_bA _ _ _)).trans f4.2.2.2, x2.trans (mF_errs _ 1), Or.inr ⟨rfl, f4.flt fl, f4.1⟩⟩
end PmExpr3
