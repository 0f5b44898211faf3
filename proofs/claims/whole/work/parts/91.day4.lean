section PmDay4
variable {β : Nat → Int32}
theorem DR_face {A B : Mm} {w n m r h d : Nat} {v : Int32} (hw : w = 1 ∨ w = 16) (hd : d < 12) (hv : Fc v) (hR : DR w β A B n m r h) : DR w β (mput A (w + 2) d v) (mput B 218 (18 + d) v) n m r h := by
  obtain ⟨⟨d1, d2, d3⟩, hB, hS, hT, hX⟩ := hR
  have fA : ∀ c' k, (c' ≠ w + 2 ∨ k ≠ d) → mput A (w + 2) d v c' k = A c' k := fun c' k h2 => mput_q (by omega)
  have fB : ∀ c' k, (c' ≠ 218 ∨ k ≠ 18 + d) → mput B 218 (18 + d) v c' k = B c' k := fun c' k h1 => mput_q (by omega)
  refine ⟨⟨d1, by rw [fA _ _ (by omega)]; exact d2, fun e he => ?_⟩, ?_, ?_, ?_, ?_⟩
  · obtain ⟨q1, q2, q3, q4, q5⟩ := d3 e he
    rw [fA (w + 3) e (by omega), fA (w + 4) e (by omega), fA (w + 5) e (by omega), fB 221 e (by omega), fB 218 (30 + e) (by omega), fB 218 (42 + e) (by omega)]
    by_cases ed : e = d
    · subst ed
      rw [mput_same, mput_same]
      exact ⟨rfl, q2, q3, q4, hv, q5.2⟩
    · rw [fA _ _ (by omega), fB _ _ (by omega)]
      exact ⟨q1, q2, q3, q4, q5⟩
  · exact WB_congr (fun c' h1 h2 => funext fun k => fA c' k (by omega)) (fun k h1 => fB 218 k (by omega)) hB
  · exact WS_congr (funext fun k => fA _ k (by omega)) (fun k _ _ => fA w k (by omega)) (fun k _ => fB 218 k (by omega)) hS
  · exact Th_congr (fA 1 13 (by omega)) (fA 16 13 (by omega)) (fun q => funext fun k => fA 15 k (by omega)) (fB 217 5 (by omega)) (funext fun k => fB 222 k (by omega)) hT
  · exact RX_congr (fun c' k q => by have := aX_bd q; exact fA c' k (by omega)) (fun c' k q => by have := bX_bd q; exact fB c' k (by omega)) hX
theorem calm_sim {A B : Mm} {w n m r h m0 : Nat} (hw : w = 1 ∨ w = 16) (hR : DR w β A B n m r h) (hn : B 217 6 = nI n) (hG : GR w A B m0) :
    Go (fD_calmTheUnvisited (w + 1) A) (fun A' => Go (lp 1000000 (fun s => fM_evening_b52 s.1 s.2) (0, B)) (fun B' => DR w β A' B' n m r h ∧ FB (mDA w) A A' ∧ FB mDB B B' ∧ B' 218 9 = B 218 9)) := by
  have n12 : n ≤ 12 := hR.1.1
  obtain ⟨f, g, g1, g2, g3⟩ := hG
  have L := go_for2 (f := fun s : Int32 × Mm => fD_calmTheUnvisited_b2 (w + 1) s.1 s.2) (g := fun s : Int32 × Mm => fM_evening_b52 s.1 s.2)
    (Q := fun A' B' => DR w β A' B' n m r h ∧ FB (mDA w) A A' ∧ FB mDB B B' ∧ B' 218 9 = B 218 9)
    (fun i s t => ∃ A' B', s = (nI i, A') ∧ t = (nI i, B') ∧ DR w β A' B' n m r h ∧ FB (mDA w) A A' ∧ FB mDB B B' ∧ A' (w + 5) = A (w + 5) ∧ B' 218 9 = B 218 9) n ?_ ?_ (i := 0) (s := (0, A)) (t := (0, B)) (by omega) ⟨A, B, rfl, rfl, hR, fb_rfl _ _, fb_rfl _ _, rfl, rfl⟩ (n := 1000000) (by omega)
  · unfold fD_calmTheUnvisited
    obtain ⟨e, he, e', he', q⟩ := L
    rw [he]
    refine go_bind.mpr ?_
    refine Go.some ?_
    refine Go.some ?_
    exact ⟨e', he', q⟩
  · rintro s t ⟨A', B', rfl, rfl, h1, h3, h4, h5, h6⟩
    have a1 : A' (w + 1) 0 = nI n := h1.1.2.1
    have b1 : B' 217 6 = nI n := by rw [h4 217 6 rfl]; exact hn
    unfold fD_calmTheUnvisited_b2 fM_evening_b52
    dsimp only
    simp only [a1, b1]
    refine Go.yes (i32_le.mpr (Int.le_refl _)) ?_
    refine Go.some ?_
    refine Go.yes (i32_le.mpr (Int.le_refl _)) ?_
    refine Go.some ?_
    exact ⟨h1, h3, h4, h6⟩
  · rintro i s t hi ⟨A', B', rfl, rfl, h1, h3, h4, h5, h6⟩
    have a1 : A' (w + 1) 0 = nI n := h1.1.2.1
    have b1 : B' 217 6 = nI n := by rw [h4 217 6 rfl]; exact hn
    have b40 : B' 217 40 = nI g := by rw [h4 217 40 rfl]; exact g2
    have a6 : A' (w + 6) = A (w + 6) := h3.row fun k => mDA_of (by omega) (by omega) (by omega) (by omega)
    obtain ⟨x1, x2, x3⟩ := g3 i (by omega)
    obtain ⟨q1, -, -, -, q5, -⟩ := h1.1.2.2 i (by omega)
    have ji : jix (nI i) = i := jix_nI (by omega)
    have ii : inb (nI i) 12 := (inb_nI (by omega)).mpr (by omega)
    have e18 : (18 : Int32) + nI i = nI (18 + i) := nI_add 18 i
    have j18 : jix (nI (18 + i)) = 18 + i := jix_nI (by omega)
    have i18 : inb (nI (18 + i)) 174 := (inb_nI (by omega)).mpr (by omega)
    have li : fM_lies (nI g) (nI i) = if g.testBit i then 1 else 0 := lies_nI (by omega) (by omega)
    have cmp : (A' (w + 5) i = A' (w + 6) i) ↔ ¬ g.testBit i = true := by
      rw [h5, a6, x1, x3]
      constructor
      · intro e
        have := i32_addz e
        have z : nI (f i) = nI 0 := this
        rw [nI_eq' (by omega) (by omega)] at z
        omega
      · intro e
        have z : f i = 0 := by omega
        rw [z, nI_zero]; simp
    unfold fD_calmTheUnvisited_b2 fM_evening_b52
    dsimp only
    simp only [a1, b1, ji, b40, li, e18, j18, looks_eq (show i < 12 by omega), nI_1, show w + 1 + 4 = w + 5 from rfl, show w + 1 + 5 = w + 6 from rfl, show w + 1 + 1 = w + 2 from rfl]
    refine Go.no (by rw [nI_le' (by omega) (by omega)]; omega) ?_
    refine Go.gd (ii) ?_
    refine Go.gd (ii) ?_
    refine go_bind.mpr ?_
    by_cases tb : g.testBit i = true
    · refine Go.no (fun e => (cmp.mp e) tb) ?_
      refine Go.some ?_
      refine Go.some ?_
      refine Go.no (by rw [nI_le' (by omega) (by omega)]; omega) ?_
      refine go_bind.mpr ?_
      rw [if_pos tb]
      refine Go.no (by first | decide | (simp; done)) ?_
      refine Go.some ?_
      refine Go.some ?_
      exact ⟨A', B', rfl, rfl, h1, h3, h4, h5, h6⟩
    · refine Go.yes (cmp.mpr tb) ?_
      refine Go.gd (ii) ?_
      refine Go.gd (ii) ?_
      refine go_bind.mpr ?_
      rw [q1]
      have step : ∀ δ : Int32, Fc (B' 218 (18 + i) + δ) → fK_held (B' 218 (18 + i) + δ) (-9) 9 = B' 218 (18 + i) + δ := by
        intro δ hδ
        have := fc_same hδ
        simpa using this
      have fin : ∀ δ : Int32, Fc (B' 218 (18 + i) + δ) → ∃ A'' B'', (nI (i + 1), mput A' (w + 2) i (B' 218 (18 + i) + δ)) = (nI (i + 1), A'') ∧ (nI (i + 1), mput B' 218 (18 + i) (fK_held (B' 218 (18 + i) + δ) (-9) 9)) = (nI (i + 1), B'') ∧ DR w β A'' B'' n m r h ∧ FB (mDA w) A A'' ∧ FB mDB B B'' ∧ A'' (w + 5) = A (w + 5) ∧ B'' 218 9 = B 218 9 := by
        intro δ hδ
        rw [step δ hδ]
        refine ⟨_, _, rfl, rfl, DR_face hw (by omega) hδ h1, fun c k q => ?_, fun c k q => ?_, ?_, ?_⟩
        · have := mDA_bd q
          rw [mput_q (by omega)]; exact h3 c k q
        · have := mDB_bd q
          rw [mput_q (by omega)]; exact h4 c k q
        · rw [mput_r (by omega)]; exact h5
        · rw [mput_s (by omega)]; exact h6
      obtain ⟨f1, f2⟩ := q5
      have z0 : Int32.toInt 0 = 0 := by decide
      have zp : Int32.toInt 1 = 1 := by decide
      have zm : Int32.toInt (-1) = -1 := by decide
      by_cases c1 : B' 218 (18 + i) ≤ 0
      · have c1' := i32_le.mp c1
        by_cases c2 : 0 ≤ B' 218 (18 + i)
        · have c2' := i32_le.mp c2
          have F : Fc (B' 218 (18 + i) + 0) := by
            unfold Fc; rw [i32_add (by omega) (by omega)]; omega
          refine Go.yes (c1) ?_
          refine Go.gd (ii) ?_
          refine Go.yes (c2) ?_
          refine Go.some ?_
          refine Go.gd (ii) ?_
          refine Go.some ?_
          refine Go.some ?_
          refine Go.no (by rw [nI_le' (by omega) (by omega)]; omega) ?_
          refine go_bind.mpr ?_
          rw [if_neg tb]
          refine Go.yes (by first | rfl | (simp; done)) ?_
          refine Go.gd (i18) ?_
          refine go_bind.mpr ?_
          refine Go.yes (c1) ?_
          refine Go.gd (i18) ?_
          refine Go.yes (c2) ?_
          refine Go.some ?_
          refine go_bind.mpr ?_
          refine Go.some ?_
          refine Go.some ?_
          refine Go.some ?_
          exact fin 0 F
        · have c2' : ¬ Int32.toInt 0 ≤ (B' 218 (18 + i)).toInt := fun q => c2 (i32_le.mpr q)
          have F : Fc (B' 218 (18 + i) + 1) := by
            unfold Fc; rw [i32_add (by omega) (by omega)]; omega
          refine Go.yes (c1) ?_
          refine Go.gd (ii) ?_
          refine Go.no (c2) ?_
          refine Go.some ?_
          refine Go.gd (ii) ?_
          refine Go.some ?_
          refine Go.some ?_
          refine Go.no (by rw [nI_le' (by omega) (by omega)]; omega) ?_
          refine go_bind.mpr ?_
          rw [if_neg tb]
          refine Go.yes (by first | rfl | (simp; done)) ?_
          refine Go.gd (i18) ?_
          refine go_bind.mpr ?_
          refine Go.yes (c1) ?_
          refine Go.gd (i18) ?_
          refine Go.no (c2) ?_
          refine Go.some ?_
          refine go_bind.mpr ?_
          refine Go.some ?_
          refine Go.some ?_
          refine Go.some ?_
          exact fin 1 F
      · have c1' : ¬ (B' 218 (18 + i)).toInt ≤ Int32.toInt 0 := fun q => c1 (i32_le.mpr q)
        have F : Fc (B' 218 (18 + i) + (-1)) := by
          unfold Fc; rw [i32_add (by omega) (by omega)]; omega
        refine Go.no (c1) ?_
        refine Go.some ?_
        refine Go.gd (ii) ?_
        refine Go.some ?_
        refine Go.some ?_
        refine Go.no (by rw [nI_le' (by omega) (by omega)]; omega) ?_
        refine go_bind.mpr ?_
        rw [if_neg tb]
        refine Go.yes (by first | rfl | (simp; done)) ?_
        refine Go.gd (i18) ?_
        refine go_bind.mpr ?_
        refine Go.no (c1) ?_
        refine Go.some ?_
        refine go_bind.mpr ?_
        refine Go.some ?_
        refine Go.some ?_
        refine Go.some ?_
        exact fin (-1) F
end PmDay4
