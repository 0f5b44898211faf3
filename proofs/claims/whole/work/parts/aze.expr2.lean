section PmExpr2
/-- a number within bounds -/
theorem number_go {A B : Mm} {b : Nat → Nat} {L i : Nat} (x1 x2 : Int32) (hL : L ≤ 400) (ps : PS A B b L i) :
    Go (fR_number x1 x2 A) (fun p => Go (fM_readNumber x1 x2 B) (fun r => (∃ v, v < 10000 ∧ i < cs b L ∧ A 163 i = 1 ∧ A 164 i = nI v ∧ B 217 13 = 3 ∧ B 217 14 = nI v ∧ p.1 = nI v ∧ r.1 = nI v ∧ fK_isWithin (nI v) x1 x2 = 1 ∧ p.2 = mput A 146 4 (nI (i + 1)) ∧ fM_reads B = some r.2 ∧ PS p.2 r.2 b L (i + 1) ∧ rF B r.2) ∨ (∃ k, (k = 1 ∨ k = 2) ∧ p.1 = 0 ∧ p.2 = bA A k (B 217 12) ∧ r = fM_errs k B ∧ (k = 1 → A 163 i ≠ 1) ∧ (k = 2 → ∃ v, v < 10000 ∧ A 163 i = 1 ∧ B 217 13 = 3 ∧ B 217 14 = nI v ∧ fK_isWithin (nI v) x1 x2 = 0)))) := by
  obtain ⟨tr, -, te⟩ := ps.tok hL
  have cL := cs_le b L
  have iN := ps.2.2.2.2.2
  have a4 : A 146 4 = nI i := ps.2.2.2.1
  unfold fR_number fM_readNumber
  rw [sort_ok hL ps]
  refine go_bind.mpr ?_
  refine Go.some ?_
  rcases tr.num with ⟨q1, q2, v, v1, q3, q4⟩ | ⟨q1, q2⟩
  · have iN2 : i < cs b L := by
      have : ¬ i = cs b L := fun z => by rw [te.mpr z] at q1; exact absurd q1 (by decide)
      omega
    rw [a4, jix_nI (by omega), q3, blame_ok 2 hL ps]
    refine Go.yes (q1) ?_
    refine Go.gd ((inb_nI (by omega)).mpr (by omega)) ?_
    simp only [isIn_eq, q4]
    rcases within_cases (nI v) x1 x2 with ⟨w, -⟩ | ⟨w, -⟩
    · refine Go.no (by rw [w]; decide) ?_
      refine Go.some ?_
      refine Go.yes (q2) ?_
      refine Go.no (by rw [w]; decide) ?_
      refine go_bind.mpr ?_
      obtain ⟨B', B1, B2, B3⟩ := ps.adv hL iN2
      refine ⟨B', B1, ?_⟩
      refine Go.some ?_
      rw [nI_1]
      exact Or.inl ⟨v, v1, iN2, q1, rfl, q2, rfl, rfl, rfl, w, rfl, B1, B2, B3⟩
    · refine Go.yes (w) ?_
      refine go_bind.mpr ?_
      refine Go.some ?_
      refine Go.some ?_
      refine Go.yes (q2) ?_
      refine Go.yes (w) ?_
      refine Go.some ?_
      exact Or.inr ⟨2, Or.inr rfl, rfl, rfl, rfl, fun q => absurd q (by decide), fun _ => ⟨v, v1, q1, q2, rfl, w⟩⟩
  · rw [blame_ok 1 hL ps]
    refine Go.no (q1) ?_
    refine go_bind.mpr ?_
    refine Go.some ?_
    refine Go.some ?_
    refine Go.no (q2) ?_
    refine Go.some ?_
    exact Or.inr ⟨1, Or.inl rfl, rfl, rfl, rfl, fun _ => q1, fun q => absurd q (by decide)⟩
theorem tst_bin {o : Int32} {x y : Nat} {σ : List Nat} (ho : o = 2 ∨ o = 3 ∨ o = 4) (hx : x ≠ 1) (hy : y ≠ 1) : tst o 0 (y :: x :: σ) = some (0 :: σ) := by
  unfold tst
  rcases ho with rfl | rfl | rfl <;> simp [hx, hy]
theorem tst_part {x : Nat} {σ : List Nat} (hx : x ≠ 1) : tst 5 0 (2 :: x :: σ) = some (0 :: σ) := by
  unfold tst
  simp [hx]
theorem tst_cmp {o : Int32} {x y : Nat} {σ : List Nat} (ho : o = 6 ∨ o = 7 ∨ o = 8) (hx : x ≠ 1) (hy : y ≠ 1) : tst o 0 (y :: x :: σ) = some (1 :: σ) := by
  unfold tst
  rcases ho with rfl | rfl | rfl <;> simp [hx, hy]
theorem product_loop_bad {A : Mm} (c : Int32) (h : Flt A) : ∀ n, 0 < n → Go (lp n (fun s => fR_product_b6 s.1 s.2) (c, A)) (fun A' => fF A A') := by
  intro n hn
  obtain ⟨n, rfl⟩ : ∃ k, n = k + 1 := ⟨n - 1, by omega⟩
  unfold lp
  have : Go (fR_product_b6 c A) (fun r => r = Sum.inr A) := by
    unfold fR_product_b6
    by_cases q : 400 ≤ c
    · refine Go.yes (q) ?_
      refine Go.some ?_
      rfl
    · rw [sort_bad h.1]
      refine Go.no (q) ?_
      refine go_bind.mpr ?_
      refine Go.some ?_
      refine Go.no (by decide) ?_
      refine go_bind.mpr ?_
      refine Go.some ?_
      refine Go.no (by decide) ?_
      refine Go.some ?_
      rfl
  dsimp only
  rw [this.eq]
  exact ⟨A, rfl, fF.rfl' h⟩
theorem product_bad {A : Mm} (h : Flt A) : Go (fR_product A) (fun A' => fF A A') := by
  unfold fR_product
  refine Go.bind (operand_bad h) fun A1 h1 => ?_
  refine Go.bind (product_loop_bad 0 h1.1 1000000 (by omega)) fun A2 h2 => Go.some ?_
  exact h1.trans h2
/-- sign tests at a token -/
theorem sign_i {A B : Mm} {b : Nat → Nat} {L i : Nat} (hL : L ≤ 400) (ps : PS A B b L i) {c : Nat} (h1 : 40 ≤ c) (h2 : c ≤ 62) : fM_isSign (nI c) B = if A 163 i = nI c then 1 else 0 := (ps.tok hL).1.sign h1 h2 rfl rfl
theorem word_i {A B : Mm} {b : Nat → Nat} {L i : Nat} (hL : L ≤ 400) (ps : PS A B b L i) {k : Nat} (h1 : k < 29) : fM_isWord (nI (wq k)) B = if A 163 i = nI (256 + k) then 1 else 0 := (ps.tok hL).1.word h1 rfl rfl
theorem not_end {A B : Mm} {b : Nat → Nat} {L i : Nat} (hL : L ≤ 400) (ps : PS A B b L i) (h : A 163 i ≠ 2) : i < cs b L := by
  have := (ps.tok hL).2.2
  have := ps.2.2.2.2.2
  have : ¬ i = cs b L := fun q => h ((ps.tok hL).2.2.mpr q)
  omega
theorem product_go {A B : Mm} {b : Nat → Nat} {L i n : Nat} {f : FG} {e : Nat} {σ : List Nat} (hL : L ≤ 400) (h : ST A B b L i n f σ) (hn : n + e ≤ i) (hs : σ.length ≤ 30) :
    Go (fR_product A) (fun A' => Go (fM_readProduct B) (fun r => XP A B b L f σ e i A' r)) := by
  have cL := cs_le b L
  unfold fR_product fM_readProduct
  obtain ⟨A1, A1e, r, re, x1, x2, x3⟩ := operand_go hL h hn (by omega)
  refine go_bind.mpr ?_
  refine ⟨A1, A1e, ?_⟩
  rcases x3 with ⟨r0, i1, n1, z1, hz, hi, s1, l1⟩ | ⟨r0, fl, ft⟩
  rotate_left
  · obtain ⟨A2, A2e, f2⟩ := product_loop_bad 0 ft 1000000 (by omega)
    refine go_bind.mpr ?_
    refine ⟨A2, A2e, ?_⟩
    refine Go.some ?_
    refine go_bind.mpr ?_
    refine ⟨r, re, ?_⟩
    refine Go.yes (r0) ?_
    refine Go.some ?_
    exact ⟨x1.trans f2.2.2.2, x2, Or.inr ⟨rfl, f2.flt fl, f2.1⟩⟩
  have loop : Go (lp 1000000 (fun s => fR_product_b6 s.1 s.2) (0, A1)) (fun A' => Go (lp 1000000 (fun s => fM_readProduct_b10 s) r.2) (fun y => (∃ B', y = Sum.inr (Sum.inr (Sum.inr B')) ∧ eF A1 A' ∧ mF r.2 B' ∧ ∃ i' n' z, z ≠ 1 ∧ i < i' ∧ ST A' B' b L i' n' f (z :: σ) ∧ n' + e ≤ i') ∨ (∃ B', (y = Sum.inl B' ∧ eF A1 A' ∧ mF r.2 B' ∧ FLT A' (fM_errs 1 B').2 ∧ Flt A') ∨ (y = Sum.inr (Sum.inl B') ∧ eF A1 A' ∧ mF r.2 B' ∧ FLT A' (fM_errs 2 B').2 ∧ Flt A') ∨ (y = Sum.inr (Sum.inr (Sum.inl B')) ∧ eF A1 A' ∧ mF r.2 B' ∧ FLT A' B' ∧ Flt A')))) := by
    refine go_lp2x (fun k s t => ∃ c i' n' z A2, s = (nI c, A2) ∧ k = cs b L - i' ∧ c < i' ∧ eF A1 A2 ∧ mF r.2 t ∧ z ≠ 1 ∧ i < i' ∧ ST A2 t b L i' n' f (z :: σ) ∧ n' + e ≤ i') ?_ 1000000 (cs b L - i1) (0, A1) r.2 (by omega) ⟨0, i1, n1, z1, A1, rfl, rfl, by omega, eF.rfl' _, mF.rfl' _, hz, hi, s1, l1⟩
    rintro k s t ⟨c, i', n', z, A2, rfl, rfl, ci, ea, ma, hz, hi, s2, l2⟩
    obtain ⟨ps, ed, ty⟩ := s2
    have iN := ps.2.2.2.2.2
    have a4 : A2 146 4 = nI i' := ps.2.2.2.1
    unfold fR_product_b6 fM_readProduct_b10 fR_product_j31 fM_readProduct_j28
    dsimp only
    have sg1 : fM_isSign 42 t = if A2 163 i' = nI 42 then 1 else 0 := sign_i hL ps (c := 42) (by omega) (by omega)
    have sg2 : fM_isSign 47 t = if A2 163 i' = nI 47 then 1 else 0 := sign_i hL ps (c := 47) (by omega) (by omega)
    rw [sort_ok hL ps, sg1, sg2, a4, nI_1]
    refine Go.no (by rw [(lit_nI _ : (400 : Int32) = nI 400), nI_le' (by omega) (by omega)]; omega) ?_
    refine go_bind.mpr ?_
    refine Go.some ?_
    by_cases q42 : A2 163 i' = nI 42
    · have iN2 := not_end hL ps (by rw [q42]; decide)
      obtain ⟨B1, B1e, s3, fr3⟩ := ST.adv hL (show ST A2 t b L i' n' f (z :: σ) from ⟨ps, ed, ty⟩) iN2
      obtain ⟨A4, A4e, r4, r4e, y1, y2, y3⟩ := operand_go (e := e + 1) hL s3 (by omega) (by show σ.length + 1 ≤ 31; omega)
      have eA4 : eF A1 A4 := (ea.put (by omega)).trans y1
      have mB4 : mF t r4.2 := fr3.m.trans y2
      have v0 : (if A2 163 i' = 47 then (1 : Int32) else 0) = 0 := by rw [q42]; decide
      refine Go.yes (q42) ?_
      refine go_bind.mpr ?_
      refine Go.some ?_
      refine go_bind.mpr ?_
      rw [v0]
      refine Go.yes (by first | rfl | (simp; done)) ?_
      refine go_bind.mpr ?_
      refine ⟨A4, A4e, ?_⟩
      refine Go.some ?_
      refine go_bind.mpr ?_
      rcases y3 with ⟨r0', i5, n5, z5, hz5, hi5, s5, l5⟩ | ⟨r0', fl, ft⟩
      · have em := s5.emit (x := 20006) (o := 4) (a := 0) (by have := s5.1.2.2.2.2.2; omega) (by unfold Enc; simp) (tst_bin (by simp) hz hz5) (by show σ.length + 1 ≤ 32; omega)
        rw [step_eq _ s5.2.1.1 (by have := s5.1.2.2.2.2.2; omega)]
        refine Go.some ?_
        refine Go.some ?_
        refine Go.no (by rw [if_pos q42]; decide) ?_
        refine go_bind.mpr ?_
        refine ⟨B1, B1e, ?_⟩
        unfold fM_readProduct_j57 fM_readProduct_j74
        refine Go.no (by rw [if_pos q42]; decide) ?_
        refine Go.no (by rw [if_pos q42]; decide) ?_
        refine go_bind.mpr ?_
        refine ⟨r4, r4e, ?_⟩
        refine Go.no (by rw [r0']; decide) ?_
        refine go_bind.mpr ?_
        have o4 : (if (if A2 163 i' = nI 42 then (1 : Int32) else 0) = 0 then (5 : Int32) else 4) = 4 := by rw [if_pos q42]; rfl
        rw [o4, emit_eq _ _ s5.2.1.2.1 (by have := s5.1.2.2.2.2.2; omega)]
        refine Go.some ?_
        refine Go.some ?_
        exact ⟨cs b L - i5, by have := s5.1.2.2.2.2.2; omega, c + 1, i5, n5 + 1, 0, _, by rw [nI_1]; rfl, rfl, by omega, eA4.trans (eF_aEm _ _ _), (ma.trans mB4).trans (mF_bEm _ _ _ _), by omega, by omega, em, by omega⟩
      · obtain ⟨A5, A5e, f5⟩ := step_bad (if (0 : Int32) = 0 then (20006 : Int32) else 20007) ft
        refine ⟨A5, A5e, ?_⟩
        refine Go.some ?_
        refine Go.no (by rw [if_pos q42]; decide) ?_
        refine go_bind.mpr ?_
        refine ⟨B1, B1e, ?_⟩
        unfold fM_readProduct_j57 fM_readProduct_j74
        refine Go.no (by rw [if_pos q42]; decide) ?_
        refine Go.no (by rw [if_pos q42]; decide) ?_
        refine go_bind.mpr ?_
        refine ⟨r4, r4e, ?_⟩
        refine Go.yes (r0') ?_
        refine Go.some ?_
        intro m hm
        refine (product_loop_bad _ f5.1 m hm).mono fun A6 f6 => ?_
        have f7 := f5.trans f6
        exact Or.inr ⟨r4.2, Or.inr (Or.inr ⟨rfl, eA4.trans f7.2.2.2, ma.trans mB4, f7.flt fl, f7.1⟩)⟩
    · by_cases q47 : A2 163 i' = nI 47
      · have iN2 := not_end hL ps (by rw [q47]; decide)
        obtain ⟨B1, B1e, s3, fr3⟩ := ST.adv hL (show ST A2 t b L i' n' f (z :: σ) from ⟨ps, ed, ty⟩) iN2
        obtain ⟨p4, p4e, r4, r4e, y⟩ := number_go (1 : Int32) 9999 hL s3.1
        have v1 : (if A2 163 i' = 47 then (1 : Int32) else 0) = 1 := by rw [q47]; decide
        have c1 : (if A2 163 i' = nI 42 then (1 : Int32) else 0) = 0 := if_neg q42
        have c2 : ¬ (if A2 163 i' = nI 47 then (1 : Int32) else 0) = 0 := by rw [if_pos q47]; decide
        refine Go.no (q42) ?_
        refine go_bind.mpr ?_
        refine Go.some ?_
        refine Go.yes (q47) ?_
        refine go_bind.mpr ?_
        refine Go.some ?_
        refine go_bind.mpr ?_
        rw [v1]
        refine Go.no (by decide) ?_
        refine go_bind.mpr ?_
        refine ⟨p4, p4e, ?_⟩
        refine go_bind.mpr ?_
        rcases y with ⟨v, v9, iN4, k1, k2, k3, k4, k5, k6, k7, k8, k9, ps4, fr4⟩ | ⟨kk, kk1, k5, k8, kr, kn1, kn2⟩
        · have vpos : 1 ≤ v := by
            rcases within_cases (nI v) 1 9999 with ⟨-, w, -⟩ | ⟨w, -⟩
            · rw [nI_toInt' (by omega)] at w
              have w : (1 : Int) ≤ v := w
              omega
            · rw [w] at k7; exact absurd k7 (by decide)
          have iN3 := s3.1.2.2.2.2.2
          have em := s3.emit (x := nI v) (o := 0) (a := nI v) (υ := 2 :: z :: σ) (by omega) (Or.inl ⟨v, v9, rfl, rfl, rfl⟩) (by unfold tst; rw [if_pos rfl, if_neg (by rw [← nI_zero, nI_eq' (by omega) (by omega)]; omega)]) (by show σ.length + 1 + 1 ≤ 32; omega)
          obtain ⟨B5, B5e, s5, fr5⟩ := em.adv hL iN4
          have em2 := s5.emit (x := 20007) (o := 5) (a := 0) (by omega) (by unfold Enc; simp) (tst_part hz) (by show σ.length + 1 ≤ 32; omega)
          have e148 : p4.2 148 1 = nI n' := by rw [k8, mput_r (by omega)]; exact s3.2.1.1
          rw [k5, step_eq _ e148 (by omega), k8, aEm_mput]
          refine Go.some ?_
          refine Go.some ?_
          refine go_bind.mpr ?_
          have x7 : (if (1 : Int32) = 0 then (20006 : Int32) else 20007) = 20007 := rfl
          rw [x7, step_eq _ s5.2.1.1 (by omega)]
          refine Go.some ?_
          refine Go.some ?_
          refine Go.yes (c1) ?_
          refine Go.no (c2) ?_
          refine go_bind.mpr ?_
          refine ⟨B1, B1e, ?_⟩
          unfold fM_readProduct_j57 fM_readProduct_j74 fM_readUnit fM_readUnit_j43
          refine Go.yes (c1) ?_
          refine Go.yes (k3) ?_
          refine Go.yes (c1) ?_
          refine Go.no (by rw [k4, ← nI_zero, nI_eq' (by omega) (by omega)]; omega) ?_
          refine go_bind.mpr ?_
          refine go_bind.mpr ?_
          refine Go.no (by rw [k3]; decide) ?_
          refine Go.some ?_
          refine Go.yes (by first | rfl | (simp; done)) ?_
          refine Go.yes (k3) ?_
          refine go_bind.mpr ?_
          have e1 : (if (0 : Int32) = 0 then (0 : Int32) else 1) = 0 := rfl
          have e2 : (if (0 : Int32) = 0 then B1 217 14 else B1 217 14 - 7) = nI v := by rw [if_pos rfl, k4]
          rw [e1, e2, emit_eq _ _ s3.2.1.2.1 (by omega)]
          refine Go.some ?_
          refine go_bind.mpr ?_
          refine ⟨B5, B5e, ?_⟩
          refine Go.some ?_
          refine Go.no (by show ¬ (0 : Int32) = -1; decide) ?_
          refine go_bind.mpr ?_
          have o5 : (if (if A2 163 i' = nI 42 then (1 : Int32) else 0) = 0 then (5 : Int32) else 4) = 5 := by rw [c1]; rfl
          rw [o5, emit_eq _ _ s5.2.1.2.1 (by omega)]
          refine Go.some ?_
          refine Go.some ?_
          refine ⟨cs b L - (i' + 1 + 1), by omega, c + 1, i' + 1 + 1, n' + 1 + 1, 0, _, by rw [nI_1], rfl, by omega, ?_, ?_, by omega, by omega, em2, by omega⟩
          · exact (((ea.put (by omega)).trans (eF_aEm _ _ _)).put (by omega)).trans (eF_aEm _ _ _)
          · exact (((ma.trans fr3.m).trans (mF_bEm _ _ _ _)).trans fr5.m).trans (mF_bEm _ _ _ _)
        · have kne : ¬ kk = 0 := by rcases kk1 with q | q <;> rw [q] <;> decide
          have ft : Flt p4.2 := by rw [k8]; exact Flt_bA kne s3.2.1.1 s3.2.1.2.2.1
          have fl : FLT p4.2 (fM_errs kk B1).2 := by rw [k8]; exact flt_bA kne
          have ep : eF A1 p4.2 := by rw [k8]; exact (ea.put (by omega)).trans (eF_bA _ _ _)
          obtain ⟨A5, A5e, f5⟩ := step_bad p4.1 ft
          refine ⟨A5, A5e, ?_⟩
          obtain ⟨A6, A6e, f6⟩ := step_bad (if (1 : Int32) = 0 then (20006 : Int32) else 20007) f5.1
          have f56 := f5.trans f6
          refine Go.some ?_
          refine go_bind.mpr ?_
          refine ⟨A6, A6e, ?_⟩
          refine Go.some ?_
          refine Go.yes (c1) ?_
          refine Go.no (c2) ?_
          refine go_bind.mpr ?_
          refine ⟨B1, B1e, ?_⟩
          unfold fM_readProduct_j57
          rcases kk1 with rfl | rfl
          · have t3 : ¬ B1 217 13 = 3 := by
              have tr := (s3.1.tok hL).1
              rcases tr.num with ⟨q1, -⟩ | ⟨-, q2⟩
              · exact absurd q1 (kn1 rfl)
              · exact q2
            refine Go.yes (c1) ?_
            refine Go.no (t3) ?_
            refine Go.some ?_
            intro m hm
            refine (product_loop_bad _ f56.1 m hm).mono fun A7 f7 => ?_
            have f8 := f56.trans f7
            exact Or.inr ⟨B1, Or.inl ⟨rfl, ep.trans f8.2.2.2, ma.trans fr3.m, f8.flt fl, f8.1⟩⟩
          · obtain ⟨v, v9, -, t3, t4, w⟩ := kn2 rfl
            have v0 : v = 0 := by
              rcases within_cases (nI v) 1 9999 with ⟨w', -⟩ | ⟨-, w'⟩
              · rw [w] at w'; exact absurd w' (by decide)
              · rw [nI_toInt' (by omega)] at w'
                have w' : ¬ ((1 : Int) ≤ v ∧ (v : Int) ≤ 9999) := w'
                omega
            refine Go.yes (c1) ?_
            refine Go.yes (t3) ?_
            refine Go.yes (c1) ?_
            refine Go.yes (by rw [t4, v0]; rfl) ?_
            refine Go.some ?_
            intro m hm
            refine (product_loop_bad _ f56.1 m hm).mono fun A7 f7 => ?_
            have f8 := f56.trans f7
            exact Or.inr ⟨B1, Or.inr (Or.inl ⟨rfl, ep.trans f8.2.2.2, ma.trans fr3.m, f8.flt fl, f8.1⟩)⟩
      · refine Go.no (q42) ?_
        refine go_bind.mpr ?_
        refine Go.some ?_
        refine Go.no (q47) ?_
        refine Go.some ?_
        refine Go.yes (by rw [if_neg q42]) ?_
        refine Go.yes (by rw [if_neg q47]) ?_
        refine Go.some ?_
        exact Or.inl ⟨t, rfl, ea, ma, i', n', z, hz, hi, ⟨ps, ed, ty⟩, l2⟩
  obtain ⟨A2, A2e, y, ye, hy⟩ := loop
  refine go_bind.mpr ?_
  refine ⟨A2, A2e, ?_⟩
  refine Go.some ?_
  refine go_bind.mpr ?_
  refine ⟨r, re, ?_⟩
  refine Go.no (by rw [r0]; decide) ?_
  refine go_bind.mpr ?_
  refine ⟨y, ye, ?_⟩
  rcases hy with ⟨B', rfl, k1, k2, k3⟩ | ⟨B', (⟨rfl, k1, k2, k3, k4⟩ | ⟨rfl, k1, k2, k3, k4⟩ | ⟨rfl, k1, k2, k3, k4⟩)⟩
  · refine Go.some ?_
    exact ⟨x1.trans k1, x2.trans k2, Or.inl ⟨rfl, k3⟩⟩
  · refine Go.some ?_
    exact ⟨x1.trans k1, (x2.trans k2).trans (mF_errs B' 1), Or.inr ⟨rfl, k3, k4⟩⟩
  · refine Go.some ?_
    exact ⟨x1.trans k1, (x2.trans k2).trans (mF_errs B' 2), Or.inr ⟨rfl, k3, k4⟩⟩
  · refine Go.some ?_
    exact ⟨x1.trans k1, x2.trans k2, Or.inr ⟨rfl, k3, k4⟩⟩
end PmExpr2
