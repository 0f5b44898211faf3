section PmLawLoop
theorem RR_B {A B B' : Mm} (b : ∀ c k, 217 ≤ c → c ≤ 251 → B' c k = B c k) (h : RR A B) : RR A B' := by
  obtain ⟨⟨n, h1, h2⟩, h3, h4, h5, h6, h7, h8⟩ := h
  refine ⟨⟨n, RW_congr (fb_rfl _ _) (fun c k e => ?_) h1, RP_congr (fb_rfl _ _) (fun c k e => ?_) h2⟩, RX_congr (fb_rfl _ _) (fun c k e => ?_) h3, RE_congr (fb_rfl _ _) (fun c k e => ?_) h4, RT_congr (fb_rfl _ _) (fun c k e => ?_) h5, RF_congr (fb_rfl _ _) (fun c k e => ?_) h6, RI_congr (fb_rfl _ _) (fun c k e => ?_) h7, RM_congr (fb_rfl _ _) (fun c k e => ?_) h8⟩
  all_goals try simp only [bW, bP, bE, bT, bF, bI, bM, Bool.or_eq_true, Bool.and_eq_true, Nat.ble_eq, Nat.beq_eq] at e
  all_goals first | exact b c k (by omega) (by omega) | (have := bX_bd e; exact b c k (by omega) (by omega))
theorem RR_A {A A' B : Mm} (a : ∀ c k, c ≤ 216 → A' c k = A c k) (h : RR A B) : RR A' B := by
  obtain ⟨⟨n, h1, h2⟩, h3, h4, h5, h6, h7, h8⟩ := h
  refine ⟨⟨n, RW_congr (fun c k e => ?_) (fb_rfl _ _) h1, RP_congr (fun c k e => ?_) (fb_rfl _ _) h2⟩, RX_congr (fun c k e => ?_) (fb_rfl _ _) h3, RE_congr (fun c k e => ?_) (fb_rfl _ _) h4, RT_congr (fun c k e => ?_) (fb_rfl _ _) h5, RF_congr (fun c k e => ?_) (fb_rfl _ _) h6, RI_congr (fun c k e => ?_) (fb_rfl _ _) h7, RM_congr (fun c k e => ?_) (fb_rfl _ _) h8⟩
  all_goals try simp only [aW, mW, aP, aE, aT, aF, aI, aM, Bool.or_eq_true, Bool.and_eq_true, Nat.ble_eq, Nat.beq_eq] at e
  all_goals first | exact a c k (by omega) | (have := aX_bd e; exact a c k (by omega))
/-- the class, then the model, on one memory -/
theorem sim_use {M : Mm} {N : Nat} (hR : RR M M) (hN : N < 2000000) (hc : CN N M) {x : Option (Int32 × Mm)} {y : Mm → Option (Int32 × Mm)} (hs : ∀ B, RR M B → CN N B → Sim M B x (y B)) : ∃ v M1 M2, x = some (v, M1) ∧ y M1 = some (v, M2) ∧ RR M2 M2 ∧ CN (N + 1000) M2 := by
  obtain ⟨⟨v, M1⟩, e1, -, -, -, -, k1, -, -⟩ := hs M hR hc
  have fb : ∀ c k, 217 ≤ c → c ≤ 251 → M1 c k = M c k := fun c k h1 h2 => k1 c k (by simp only [mK, Bool.and_eq_true, Nat.ble_eq]; exact ⟨h1, h2⟩)
  have hR1 : RR M M1 := RR_B fb hR
  have hc1 : CN N M1 := by
    obtain ⟨c1, c2, c3⟩ := hc
    refine ⟨by rw [fb 218 9 (by omega) (by omega)]; exact c1, fun j hj => by rw [fb 219 _ (by omega) (by omega)]; exact c2 j hj, by rw [fb 251 9 (by omega) (by omega)]; exact c3⟩
  obtain ⟨⟨v', M1'⟩, e1', ⟨u, M2⟩, e2, e3, r2, -, k2, c2⟩ := hs M1 hR1 hc1
  rw [e1] at e1'
  cases e1'
  have e3 : v = u := e3
  subst e3
  refine ⟨v, M1, M2, e1, e2, RR_A (fun c k h1 => k2 c k (by simp only [mM, Bool.or_eq_true, Nat.ble_eq]; exact Or.inl h1)) r2, c2 N hN hc1⟩

set_option maxRecDepth 4000 in
theorem law_step  {L : Nat} {xs : Nat → Int32} {i N : Nat} {M : Mm} (hL : L ≤ 3072) (hi : i + 6 ≤ L) (hR : RR M M) (hN : N < 2000000) (hc : CN N M) :
    Go (fZ_law_b18 L xs (nI i) M) (fun r => ∃ M', r = .inl (nI (i + 6), M') ∧ RR M' M' ∧ CN (N + 1000) M') := by
  have gi : ∀ j : Nat, j < 6 → inb (nI i + nI j) L := fun j hj => by rw [nI_add, inb_nI (by omega)]; omega
  have e6 : nI i + 6 = nI (i + 6) := nI_add i 6
  have L6 : ¬ nI L - 6 < nI i := by rw [lit_nI, nI_sub' (by omega), nI_lt' (by omega) (by omega)]; omega
  unfold fZ_law_b18 fZ_law_j1286
  refine Go.no L6 (Go.gd (show inb (nI i) L from (inb_nI (by omega)).mpr (by omega)) ?_)
  by_cases c0 : xs (jix (nI i)) &&& 63 = 0
  · refine Go.yes c0 ?_
    obtain ⟨v, M1, M2, z1, z2, z3, z4⟩ := sim_use hR hN hc (y := fun B => some (fM_state (xs (jix (nI i + 1))) B)) (fun B h1 h2 => sim_state (xs (jix (nI i + 1))) h1)
    refine Go.gd (gi 1 (by omega)) ?_
    have z1 := Option.some.inj z1
    have z2 := Option.some.inj z2
    (try dsimp only at z2)
    (try dsimp only)
    rw [z1]
    refine Go.gd (gi 1 (by omega)) ?_
    (try dsimp only)
    rw [z2]
    refine Go.yes rfl (Go.some ⟨M2, ?_, z3, z4⟩)
    rw [e6]
  refine Go.no c0 ?_
  by_cases c1 : xs (jix (nI i)) &&& 63 = 1
  · refine Go.yes c1 ?_
    obtain ⟨v, M1, M2, z1, z2, z3, z4⟩ := sim_use hR hN hc (y := fun B => fM_door (xs (jix (nI i + 1))) (xs (jix (nI i + 2))) (xs (jix (nI i + 3))) B) (fun B h1 h2 => sim_door (xs (jix (nI i + 1))) (xs (jix (nI i + 2))) (xs (jix (nI i + 3))) h1)
    refine Go.gd (gi 1 (by omega)) ?_
    refine Go.gd (gi 2 (by omega)) ?_
    refine Go.gd (gi 3 (by omega)) ?_
    refine go_bind.mpr ?_
    rw [z1]
    refine Go.some ?_
    refine Go.gd (gi 1 (by omega)) ?_
    refine Go.gd (gi 2 (by omega)) ?_
    refine Go.gd (gi 3 (by omega)) ?_
    (try dsimp only at z2)
    (try dsimp only)
    refine go_bind.mpr ?_
    rw [z2]
    refine Go.some (Go.yes rfl (Go.some ⟨M2, ?_, z3, z4⟩))
    rw [e6]
  refine Go.no c1 ?_
  by_cases c2 : xs (jix (nI i)) &&& 63 = 2
  · refine Go.yes c2 ?_
    obtain ⟨v, M1, M2, z1, z2, z3, z4⟩ := sim_use hR hN hc (y := fun B => fM_set (xs (jix (nI i + 1))) (xs (jix (nI i + 2))) (xs (jix (nI i + 3))) B) (fun B h1 h2 => sim_set (xs (jix (nI i + 1))) (xs (jix (nI i + 2))) (xs (jix (nI i + 3))) h1)
    refine Go.gd (gi 1 (by omega)) ?_
    refine Go.gd (gi 2 (by omega)) ?_
    refine Go.gd (gi 3 (by omega)) ?_
    refine go_bind.mpr ?_
    rw [z1]
    refine Go.some ?_
    refine Go.gd (gi 1 (by omega)) ?_
    refine Go.gd (gi 2 (by omega)) ?_
    refine Go.gd (gi 3 (by omega)) ?_
    (try dsimp only at z2)
    (try dsimp only)
    refine go_bind.mpr ?_
    rw [z2]
    refine Go.some (Go.yes rfl (Go.some ⟨M2, ?_, z3, z4⟩))
    rw [e6]
  refine Go.no c2 ?_
  by_cases c3 : xs (jix (nI i)) &&& 63 = 3
  · refine Go.yes c3 ?_
    obtain ⟨v, M1, M2, z1, z2, z3, z4⟩ := sim_use hR hN hc (y := fun B => fM_post (xs (jix (nI i + 1))) (xs (jix (nI i + 2))) (xs (jix (nI i + 3))) B) (fun B h1 h2 => sim_post (xs (jix (nI i + 1))) (xs (jix (nI i + 2))) (xs (jix (nI i + 3))) h1 hN h2)
    refine Go.gd (gi 1 (by omega)) ?_
    refine Go.gd (gi 2 (by omega)) ?_
    refine Go.gd (gi 3 (by omega)) ?_
    refine go_bind.mpr ?_
    rw [z1]
    refine Go.some ?_
    refine Go.gd (gi 1 (by omega)) ?_
    refine Go.gd (gi 2 (by omega)) ?_
    refine Go.gd (gi 3 (by omega)) ?_
    (try dsimp only at z2)
    (try dsimp only)
    refine go_bind.mpr ?_
    rw [z2]
    refine Go.some (Go.yes rfl (Go.some ⟨M2, ?_, z3, z4⟩))
    rw [e6]
  refine Go.no c3 ?_
  by_cases c4 : xs (jix (nI i)) &&& 63 = 4
  · refine Go.yes c4 ?_
    obtain ⟨v, M1, M2, z1, z2, z3, z4⟩ := sim_use hR hN hc (y := fun B => fM_bring (xs (jix (nI i + 1))) B) (fun B h1 h2 => sim_bring (xs (jix (nI i + 1))) h1)
    refine Go.gd (gi 1 (by omega)) ?_
    refine go_bind.mpr ?_
    rw [z1]
    refine Go.some ?_
    refine Go.gd (gi 1 (by omega)) ?_
    (try dsimp only at z2)
    (try dsimp only)
    refine go_bind.mpr ?_
    rw [z2]
    refine Go.some (Go.yes rfl (Go.some ⟨M2, ?_, z3, z4⟩))
    rw [e6]
  refine Go.no c4 ?_
  by_cases c5 : xs (jix (nI i)) &&& 63 = 5
  · refine Go.yes c5 ?_
    obtain ⟨v, M1, M2, z1, z2, z3, z4⟩ := sim_use hR hN hc (y := fun B => fM_rain (xs (jix (nI i + 1))) B) (fun B h1 h2 => sim_rain (xs (jix (nI i + 1))) h1)
    refine Go.gd (gi 1 (by omega)) ?_
    refine go_bind.mpr ?_
    rw [z1]
    refine Go.some ?_
    refine Go.gd (gi 1 (by omega)) ?_
    (try dsimp only at z2)
    (try dsimp only)
    refine go_bind.mpr ?_
    rw [z2]
    refine Go.some (Go.yes rfl (Go.some ⟨M2, ?_, z3, z4⟩))
    rw [e6]
  refine Go.no c5 ?_
  by_cases c6 : xs (jix (nI i)) &&& 63 = 6
  · refine Go.yes c6 ?_
    obtain ⟨v, M1, M2, z1, z2, z3, z4⟩ := sim_use hR hN hc (y := fun B => fM_days (xs (jix (nI i + 1))) B) (fun B h1 h2 => sim_days (xs (jix (nI i + 1))) h1 hN h2)
    refine Go.gd (gi 1 (by omega)) ?_
    refine go_bind.mpr ?_
    rw [z1]
    refine Go.some ?_
    refine Go.gd (gi 1 (by omega)) ?_
    (try dsimp only at z2)
    (try dsimp only)
    refine go_bind.mpr ?_
    rw [z2]
    refine Go.some (Go.yes rfl (Go.some ⟨M2, ?_, z3, z4⟩))
    rw [e6]
  refine Go.no c6 ?_
  by_cases c7 : xs (jix (nI i)) &&& 63 = 7
  · refine Go.yes c7 ?_
    obtain ⟨v, M1, M2, z1, z2, z3, z4⟩ := sim_use hR hN hc (y := fun B => fM_feed (xs (jix (nI i + 1))) (xs (jix (nI i + 2))) (xs (jix (nI i + 3))) (xs (jix (nI i + 4))) (xs (jix (nI i + 5))) B) (fun B h1 h2 => sim_feed (xs (jix (nI i + 1))) (xs (jix (nI i + 2))) (xs (jix (nI i + 3))) (xs (jix (nI i + 4))) (xs (jix (nI i + 5))) h1)
    refine Go.gd (gi 1 (by omega)) ?_
    refine Go.gd (gi 2 (by omega)) ?_
    refine Go.gd (gi 3 (by omega)) ?_
    refine Go.gd (gi 4 (by omega)) ?_
    refine Go.gd (gi 5 (by omega)) ?_
    refine go_bind.mpr ?_
    rw [z1]
    refine Go.some ?_
    refine Go.gd (gi 1 (by omega)) ?_
    refine Go.gd (gi 2 (by omega)) ?_
    refine Go.gd (gi 3 (by omega)) ?_
    refine Go.gd (gi 4 (by omega)) ?_
    refine Go.gd (gi 5 (by omega)) ?_
    (try dsimp only at z2)
    (try dsimp only)
    refine go_bind.mpr ?_
    rw [z2]
    refine Go.some (Go.yes rfl (Go.some ⟨M2, ?_, z3, z4⟩))
    rw [e6]
  refine Go.no c7 ?_
  by_cases c8 : xs (jix (nI i)) &&& 63 = 8
  · refine Go.yes c8 ?_
    obtain ⟨v, M1, M2, z1, z2, z3, z4⟩ := sim_use hR hN hc (y := fun B => some (fM_end (xs (jix (nI i + 1))) B)) (fun B h1 h2 => sim_end (xs (jix (nI i + 1))) h1)
    refine Go.gd (gi 1 (by omega)) ?_
    have z1 := Option.some.inj z1
    have z2 := Option.some.inj z2
    (try dsimp only at z2)
    (try dsimp only)
    rw [z1]
    refine Go.gd (gi 1 (by omega)) ?_
    (try dsimp only)
    rw [z2]
    refine Go.yes rfl (Go.some ⟨M2, ?_, z3, z4⟩)
    rw [e6]
  refine Go.no c8 ?_
  by_cases c9 : xs (jix (nI i)) &&& 63 = 9
  · refine Go.yes c9 ?_
    obtain ⟨v, M1, M2, z1, z2, z3, z4⟩ := sim_use hR hN hc (y := fun B => fM_text (xs (jix (nI i + 1))) B) (fun B h1 h2 => sim_text (xs (jix (nI i + 1))) h1)
    refine Go.gd (gi 1 (by omega)) ?_
    refine go_bind.mpr ?_
    rw [z1]
    refine Go.some ?_
    refine Go.gd (gi 1 (by omega)) ?_
    (try dsimp only at z2)
    (try dsimp only)
    refine go_bind.mpr ?_
    rw [z2]
    refine Go.some (Go.yes rfl (Go.some ⟨M2, ?_, z3, z4⟩))
    rw [e6]
  refine Go.no c9 ?_
  by_cases c10 : xs (jix (nI i)) &&& 63 = 10
  · refine Go.yes c10 ?_
    obtain ⟨v, M1, M2, z1, z2, z3, z4⟩ := sim_use hR hN hc (x := some (fK_fault (xs (jix (nI i + 1))) M, M)) (y := fun B => some (fM_fault (xs (jix (nI i + 1))) B)) (fun B h1 h2 => sim_fault (xs (jix (nI i + 1))) h1)
    cases z1
    refine Go.gd (gi 1 (by omega)) ?_
    have z2 := Option.some.inj z2
    (try dsimp only at z2)
    (try dsimp only)
    refine Go.gd (gi 1 (by omega)) ?_
    rw [z2]
    refine Go.yes rfl (Go.some ⟨M2, ?_, z3, z4⟩)
    rw [e6]
  refine Go.no c10 ?_
  by_cases c11 : xs (jix (nI i)) &&& 63 = 11
  · refine Go.yes c11 ?_
    obtain ⟨v, M1, M2, z1, z2, z3, z4⟩ := sim_use hR hN hc (x := (fK_of (xs (jix (nI i + 1))) (xs (jix (nI i + 2))) M).bind fun v => some (v, M)) (y := fun B => fM_of (xs (jix (nI i + 1))) (xs (jix (nI i + 2))) B) (fun B h1 h2 => sim_of (xs (jix (nI i + 1))) (xs (jix (nI i + 2))) h1)
    obtain ⟨v', y1, y2⟩ := bd z1
    cases y2
    refine Go.gd (gi 1 (by omega)) ?_
    refine Go.gd (gi 2 (by omega)) ?_
    refine go_bind.mpr ?_
    rw [y1]
    refine Go.some ?_
    refine Go.gd (gi 1 (by omega)) ?_
    refine Go.gd (gi 2 (by omega)) ?_
    (try dsimp only at z2)
    (try dsimp only)
    refine go_bind.mpr ?_
    rw [z2]
    refine Go.some (Go.yes rfl (Go.some ⟨M2, ?_, z3, z4⟩))
    rw [e6]
  refine Go.no c11 ?_
  by_cases c12 : xs (jix (nI i)) &&& 63 = 12
  · refine Go.yes c12 ?_
    obtain ⟨v, M1, M2, z1, z2, z3, z4⟩ := sim_use hR hN hc (y := fun B => fM_letter (xs (jix (nI i + 1))) (xs (jix (nI i + 2))) B) (fun B h1 h2 => sim_letter (xs (jix (nI i + 1))) (xs (jix (nI i + 2))) h1)
    refine Go.gd (gi 1 (by omega)) ?_
    refine Go.gd (gi 2 (by omega)) ?_
    refine go_bind.mpr ?_
    rw [z1]
    refine Go.some ?_
    refine Go.gd (gi 1 (by omega)) ?_
    refine Go.gd (gi 2 (by omega)) ?_
    (try dsimp only at z2)
    (try dsimp only)
    refine go_bind.mpr ?_
    rw [z2]
    refine Go.some (Go.yes rfl (Go.some ⟨M2, ?_, z3, z4⟩))
    rw [e6]
  refine Go.no c12 ?_
  by_cases c13 : xs (jix (nI i)) &&& 63 = 13
  · refine Go.yes c13 ?_
    obtain ⟨v, M1, M2, z1, z2, z3, z4⟩ := sim_use hR hN hc (x := (fK_given (xs (jix (nI i + 1))) M).bind fun v => some (v, M)) (y := fun B => fM_given (xs (jix (nI i + 1))) B) (fun B h1 h2 => sim_given (xs (jix (nI i + 1))) h1)
    obtain ⟨v', y1, y2⟩ := bd z1
    cases y2
    refine Go.gd (gi 1 (by omega)) ?_
    refine go_bind.mpr ?_
    rw [y1]
    refine Go.some ?_
    refine Go.gd (gi 1 (by omega)) ?_
    (try dsimp only at z2)
    (try dsimp only)
    refine go_bind.mpr ?_
    rw [z2]
    refine Go.some (Go.yes rfl (Go.some ⟨M2, ?_, z3, z4⟩))
    rw [e6]
  refine Go.no c13 ?_
  by_cases c14 : xs (jix (nI i)) &&& 63 = 14
  · refine Go.yes c14 ?_
    obtain ⟨v, M1, M2, z1, z2, z3, z4⟩ := sim_use hR hN hc (x := (fK_book (xs (jix (nI i + 1))) (xs (jix (nI i + 2))) M).bind fun v => some (v, M)) (y := fun B => fM_book (xs (jix (nI i + 1))) (xs (jix (nI i + 2))) B) (fun B h1 h2 => sim_book (xs (jix (nI i + 1))) (xs (jix (nI i + 2))) h1)
    obtain ⟨v', y1, y2⟩ := bd z1
    cases y2
    refine Go.gd (gi 1 (by omega)) ?_
    refine Go.gd (gi 2 (by omega)) ?_
    refine go_bind.mpr ?_
    rw [y1]
    refine Go.some ?_
    refine Go.gd (gi 1 (by omega)) ?_
    refine Go.gd (gi 2 (by omega)) ?_
    (try dsimp only at z2)
    (try dsimp only)
    refine go_bind.mpr ?_
    rw [z2]
    refine Go.some (Go.yes rfl (Go.some ⟨M2, ?_, z3, z4⟩))
    rw [e6]
  refine Go.no c14 ?_
  by_cases c15 : xs (jix (nI i)) &&& 63 = 15
  · refine Go.yes c15 ?_
    obtain ⟨v, M1, M2, z1, z2, z3, z4⟩ := sim_use hR hN hc (y := fun B => fM_goes (xs (jix (nI i + 1))) (xs (jix (nI i + 2))) B) (fun B h1 h2 => sim_goes (xs (jix (nI i + 1))) (xs (jix (nI i + 2))) h1 hN h2)
    refine Go.gd (gi 1 (by omega)) ?_
    refine Go.gd (gi 2 (by omega)) ?_
    refine go_bind.mpr ?_
    rw [z1]
    refine Go.some ?_
    refine Go.gd (gi 1 (by omega)) ?_
    refine Go.gd (gi 2 (by omega)) ?_
    (try dsimp only at z2)
    (try dsimp only)
    refine go_bind.mpr ?_
    rw [z2]
    refine Go.some (Go.yes rfl (Go.some ⟨M2, ?_, z3, z4⟩))
    rw [e6]
  refine Go.no c15 ?_
  by_cases c16 : xs (jix (nI i)) &&& 63 = 16
  · refine Go.yes c16 ?_
    obtain ⟨v, M1, M2, z1, z2, z3, z4⟩ := sim_use hR hN hc (y := fun B => fM_shortest (xs (jix (nI i + 1))) (xs (jix (nI i + 2))) B) (fun B h1 h2 => sim_shortest (xs (jix (nI i + 1))) (xs (jix (nI i + 2))) h1)
    refine Go.gd (gi 1 (by omega)) ?_
    refine Go.gd (gi 2 (by omega)) ?_
    refine go_bind.mpr ?_
    rw [z1]
    refine Go.some ?_
    refine Go.gd (gi 1 (by omega)) ?_
    refine Go.gd (gi 2 (by omega)) ?_
    (try dsimp only at z2)
    (try dsimp only)
    refine go_bind.mpr ?_
    rw [z2]
    refine Go.some (Go.yes rfl (Go.some ⟨M2, ?_, z3, z4⟩))
    rw [e6]
  refine Go.no c16 ?_
  by_cases c17 : xs (jix (nI i)) &&& 63 = 17
  · refine Go.yes c17 ?_
    obtain ⟨v, M1, M2, z1, z2, z3, z4⟩ := sim_use hR hN hc (y := fun B => fM_blow (xs (jix (nI i + 1))) B) (fun B h1 h2 => sim_blow (xs (jix (nI i + 1))) h1)
    refine Go.gd (gi 1 (by omega)) ?_
    refine go_bind.mpr ?_
    rw [z1]
    refine Go.some ?_
    refine Go.gd (gi 1 (by omega)) ?_
    (try dsimp only at z2)
    (try dsimp only)
    refine go_bind.mpr ?_
    rw [z2]
    refine Go.some (Go.yes rfl (Go.some ⟨M2, ?_, z3, z4⟩))
    rw [e6]
  refine Go.no c17 ?_
  by_cases c18 : xs (jix (nI i)) &&& 63 = 18
  · refine Go.yes c18 ?_
    obtain ⟨v, M1, M2, z1, z2, z3, z4⟩ := sim_use hR hN hc (y := fun B => fM_bears (xs (jix (nI i + 1))) (xs (jix (nI i + 2))) B) (fun B h1 h2 => sim_bears (xs (jix (nI i + 1))) (xs (jix (nI i + 2))) h1)
    refine Go.gd (gi 1 (by omega)) ?_
    refine Go.gd (gi 2 (by omega)) ?_
    refine go_bind.mpr ?_
    rw [z1]
    refine Go.some ?_
    refine Go.gd (gi 1 (by omega)) ?_
    refine Go.gd (gi 2 (by omega)) ?_
    (try dsimp only at z2)
    (try dsimp only)
    refine go_bind.mpr ?_
    rw [z2]
    refine Go.some (Go.yes rfl (Go.some ⟨M2, ?_, z3, z4⟩))
    rw [e6]
  refine Go.no c18 ?_
  by_cases c19 : xs (jix (nI i)) &&& 63 = 19
  · refine Go.yes c19 ?_
    obtain ⟨v, M1, M2, z1, z2, z3, z4⟩ := sim_use hR hN hc (y := fun B => fM_carries (xs (jix (nI i + 1))) (xs (jix (nI i + 2))) B) (fun B h1 h2 => sim_carries (xs (jix (nI i + 1))) (xs (jix (nI i + 2))) h1)
    refine Go.gd (gi 1 (by omega)) ?_
    refine Go.gd (gi 2 (by omega)) ?_
    refine go_bind.mpr ?_
    rw [z1]
    refine Go.some ?_
    refine Go.gd (gi 1 (by omega)) ?_
    refine Go.gd (gi 2 (by omega)) ?_
    (try dsimp only at z2)
    (try dsimp only)
    refine go_bind.mpr ?_
    rw [z2]
    refine Go.some (Go.yes rfl (Go.some ⟨M2, ?_, z3, z4⟩))
    rw [e6]
  refine Go.no c19 ?_
  by_cases c20 : xs (jix (nI i)) &&& 63 = 20
  · refine Go.yes c20 ?_
    obtain ⟨v, M1, M2, z1, z2, z3, z4⟩ := sim_use hR hN hc (y := fun B => fM_owes (xs (jix (nI i + 1))) (xs (jix (nI i + 2))) (xs (jix (nI i + 3))) B) (fun B h1 h2 => sim_owes (xs (jix (nI i + 1))) (xs (jix (nI i + 2))) (xs (jix (nI i + 3))) h1)
    refine Go.gd (gi 1 (by omega)) ?_
    refine Go.gd (gi 2 (by omega)) ?_
    refine Go.gd (gi 3 (by omega)) ?_
    refine go_bind.mpr ?_
    rw [z1]
    refine Go.some ?_
    refine Go.gd (gi 1 (by omega)) ?_
    refine Go.gd (gi 2 (by omega)) ?_
    refine Go.gd (gi 3 (by omega)) ?_
    (try dsimp only at z2)
    (try dsimp only)
    refine go_bind.mpr ?_
    rw [z2]
    refine Go.some (Go.yes rfl (Go.some ⟨M2, ?_, z3, z4⟩))
    rw [e6]
  refine Go.no c20 ?_
  by_cases c21 : xs (jix (nI i)) &&& 63 = 21
  · refine Go.yes c21 ?_
    obtain ⟨v, M1, M2, z1, z2, z3, z4⟩ := sim_use hR hN hc (y := fun B => fM_net (xs (jix (nI i + 1))) B) (fun B h1 h2 => sim_net (xs (jix (nI i + 1))) h1)
    refine Go.gd (gi 1 (by omega)) ?_
    refine go_bind.mpr ?_
    rw [z1]
    refine Go.some ?_
    refine Go.gd (gi 1 (by omega)) ?_
    (try dsimp only at z2)
    (try dsimp only)
    refine go_bind.mpr ?_
    rw [z2]
    refine Go.some (Go.yes rfl (Go.some ⟨M2, ?_, z3, z4⟩))
    rw [e6]
  refine Go.no c21 ?_
  by_cases c22 : xs (jix (nI i)) &&& 63 = 22
  · refine Go.yes c22 ?_
    obtain ⟨v, M1, M2, z1, z2, z3, z4⟩ := sim_use hR hN hc (x := (fK_chain (xs (jix (nI i + 1))) (xs (jix (nI i + 2))) (xs (jix (nI i + 3))) (xs (jix (nI i + 4)))).bind fun v => some (v, M)) (y := fun B => fM_chain (xs (jix (nI i + 1))) (xs (jix (nI i + 2))) (xs (jix (nI i + 3))) (xs (jix (nI i + 4))) B) (fun B h1 h2 => sim_chain (xs (jix (nI i + 1))) (xs (jix (nI i + 2))) (xs (jix (nI i + 3))) (xs (jix (nI i + 4))) h1)
    obtain ⟨v', y1, y2⟩ := bd z1
    cases y2
    refine Go.gd (gi 1 (by omega)) ?_
    refine Go.gd (gi 2 (by omega)) ?_
    refine Go.gd (gi 3 (by omega)) ?_
    refine Go.gd (gi 4 (by omega)) ?_
    refine go_bind.mpr ?_
    rw [y1]
    refine Go.some ?_
    refine Go.gd (gi 1 (by omega)) ?_
    refine Go.gd (gi 2 (by omega)) ?_
    refine Go.gd (gi 3 (by omega)) ?_
    refine Go.gd (gi 4 (by omega)) ?_
    (try dsimp only at z2)
    (try dsimp only)
    refine go_bind.mpr ?_
    rw [z2]
    refine Go.some (Go.yes rfl (Go.some ⟨M2, ?_, z3, z4⟩))
    rw [e6]
  refine Go.no c22 ?_
  by_cases c23 : xs (jix (nI i)) &&& 63 = 23
  · refine Go.yes c23 ?_
    obtain ⟨v, M1, M2, z1, z2, z3, z4⟩ := sim_use hR hN hc (y := fun B => fM_has (xs (jix (nI i + 1))) (xs (jix (nI i + 2))) B) (fun B h1 h2 => sim_has (xs (jix (nI i + 1))) (xs (jix (nI i + 2))) h1)
    refine Go.gd (gi 1 (by omega)) ?_
    refine Go.gd (gi 2 (by omega)) ?_
    refine go_bind.mpr ?_
    rw [z1]
    refine Go.some ?_
    refine Go.gd (gi 1 (by omega)) ?_
    refine Go.gd (gi 2 (by omega)) ?_
    (try dsimp only at z2)
    (try dsimp only)
    refine go_bind.mpr ?_
    rw [z2]
    refine Go.some (Go.yes rfl (Go.some ⟨M2, ?_, z3, z4⟩))
    rw [e6]
  refine Go.no c23 ?_
  by_cases c24 : xs (jix (nI i)) &&& 63 = 24
  · refine Go.yes c24 ?_
    obtain ⟨v, M1, M2, z1, z2, z3, z4⟩ := sim_use hR hN hc (y := fun B => fM_spell (xs (jix (nI i + 1))) B) (fun B h1 h2 => sim_spell (xs (jix (nI i + 1))) h1)
    refine Go.gd (gi 1 (by omega)) ?_
    refine go_bind.mpr ?_
    rw [z1]
    refine Go.some ?_
    refine Go.gd (gi 1 (by omega)) ?_
    (try dsimp only at z2)
    (try dsimp only)
    refine go_bind.mpr ?_
    rw [z2]
    refine Go.some (Go.yes rfl (Go.some ⟨M2, ?_, z3, z4⟩))
    rw [e6]
  refine Go.no c24 ?_
  by_cases c25 : xs (jix (nI i)) &&& 63 = 25
  · refine Go.yes c25 ?_
    obtain ⟨v, M1, M2, z1, z2, z3, z4⟩ := sim_use hR hN hc (x := (fK_lays (xs (jix (nI i + 1))) M).bind fun v => some (v, M)) (y := fun B => fM_lays (xs (jix (nI i + 1))) B) (fun B h1 h2 => sim_lays (xs (jix (nI i + 1))) h1)
    obtain ⟨v', y1, y2⟩ := bd z1
    cases y2
    refine Go.gd (gi 1 (by omega)) ?_
    refine go_bind.mpr ?_
    rw [y1]
    refine Go.some ?_
    refine Go.gd (gi 1 (by omega)) ?_
    (try dsimp only at z2)
    (try dsimp only)
    refine go_bind.mpr ?_
    rw [z2]
    refine Go.some (Go.yes rfl (Go.some ⟨M2, ?_, z3, z4⟩))
    rw [e6]
  refine Go.no c25 ?_
  by_cases c26 : xs (jix (nI i)) &&& 63 = 26
  · refine Go.yes c26 ?_
    obtain ⟨v, M1, M2, z1, z2, z3, z4⟩ := sim_use hR hN hc (y := fun B => fM_answer (xs (jix (nI i + 1))) (xs (jix (nI i + 2))) B) (fun B h1 h2 => sim_answer (xs (jix (nI i + 1))) (xs (jix (nI i + 2))) h1)
    refine Go.gd (gi 1 (by omega)) ?_
    refine Go.gd (gi 2 (by omega)) ?_
    refine go_bind.mpr ?_
    rw [z1]
    refine Go.some ?_
    refine Go.gd (gi 1 (by omega)) ?_
    refine Go.gd (gi 2 (by omega)) ?_
    (try dsimp only at z2)
    (try dsimp only)
    refine go_bind.mpr ?_
    rw [z2]
    refine Go.some (Go.yes rfl (Go.some ⟨M2, ?_, z3, z4⟩))
    rw [e6]
  refine Go.no c26 ?_
  by_cases c27 : xs (jix (nI i)) &&& 63 = 27
  · refine Go.yes c27 ?_
    obtain ⟨v, M1, M2, z1, z2, z3, z4⟩ := sim_use hR hN hc (x := (fK_likely (xs (jix (nI i + 1))) (xs (jix (nI i + 2))) M).bind fun v => some (v, M)) (y := fun B => fM_likely (xs (jix (nI i + 1))) (xs (jix (nI i + 2))) B) (fun B h1 h2 => sim_likely (xs (jix (nI i + 1))) (xs (jix (nI i + 2))) h1)
    obtain ⟨v', y1, y2⟩ := bd z1
    cases y2
    refine Go.gd (gi 1 (by omega)) ?_
    refine Go.gd (gi 2 (by omega)) ?_
    refine go_bind.mpr ?_
    rw [y1]
    refine Go.some ?_
    refine Go.gd (gi 1 (by omega)) ?_
    refine Go.gd (gi 2 (by omega)) ?_
    (try dsimp only at z2)
    (try dsimp only)
    refine go_bind.mpr ?_
    rw [z2]
    refine Go.some (Go.yes rfl (Go.some ⟨M2, ?_, z3, z4⟩))
    rw [e6]
  refine Go.no c27 ?_
  by_cases c28 : xs (jix (nI i)) &&& 63 = 28
  · refine Go.yes c28 ?_
    obtain ⟨v, M1, M2, z1, z2, z3, z4⟩ := sim_use hR hN hc (y := fun B => fM_box (xs (jix (nI i + 1))) B) (fun B h1 h2 => sim_box (xs (jix (nI i + 1))) h1)
    refine Go.gd (gi 1 (by omega)) ?_
    refine go_bind.mpr ?_
    rw [z1]
    refine Go.some ?_
    refine Go.gd (gi 1 (by omega)) ?_
    (try dsimp only at z2)
    (try dsimp only)
    refine go_bind.mpr ?_
    rw [z2]
    refine Go.some (Go.yes rfl (Go.some ⟨M2, ?_, z3, z4⟩))
    rw [e6]
  refine Go.no c28 ?_
  by_cases c29 : xs (jix (nI i)) &&& 63 = 29
  · refine Go.yes c29 ?_
    obtain ⟨v, M1, M2, z1, z2, z3, z4⟩ := sim_use hR hN hc (y := fun B => fM_face (xs (jix (nI i + 1))) (xs (jix (nI i + 2))) B) (fun B h1 h2 => sim_face (xs (jix (nI i + 1))) (xs (jix (nI i + 2))) h1)
    refine Go.gd (gi 1 (by omega)) ?_
    refine Go.gd (gi 2 (by omega)) ?_
    refine go_bind.mpr ?_
    rw [z1]
    refine Go.some ?_
    refine Go.gd (gi 1 (by omega)) ?_
    refine Go.gd (gi 2 (by omega)) ?_
    (try dsimp only at z2)
    (try dsimp only)
    refine go_bind.mpr ?_
    rw [z2]
    refine Go.some (Go.yes rfl (Go.some ⟨M2, ?_, z3, z4⟩))
    rw [e6]
  refine Go.no c29 ?_
  by_cases c30 : xs (jix (nI i)) &&& 63 = 30
  · refine Go.yes c30 ?_
    obtain ⟨v, M1, M2, z1, z2, z3, z4⟩ := sim_use hR hN hc (y := fun B => fM_faces (xs (jix (nI i + 1))) B) (fun B h1 h2 => sim_faces (xs (jix (nI i + 1))) h1)
    refine Go.gd (gi 1 (by omega)) ?_
    refine go_bind.mpr ?_
    rw [z1]
    refine Go.some ?_
    refine Go.gd (gi 1 (by omega)) ?_
    (try dsimp only at z2)
    (try dsimp only)
    refine go_bind.mpr ?_
    rw [z2]
    refine Go.some (Go.yes rfl (Go.some ⟨M2, ?_, z3, z4⟩))
    rw [e6]
  refine Go.no c30 ?_
  by_cases c31 : xs (jix (nI i)) &&& 63 = 31
  · refine Go.yes c31 ?_
    obtain ⟨v, M1, M2, z1, z2, z3, z4⟩ := sim_use hR hN hc (x := (fK_joy (xs (jix (nI i + 1))) M).bind fun v => some (v, M)) (y := fun B => fM_joy (xs (jix (nI i + 1))) B) (fun B h1 h2 => sim_joy (xs (jix (nI i + 1))) h1)
    obtain ⟨v', y1, y2⟩ := bd z1
    cases y2
    refine Go.gd (gi 1 (by omega)) ?_
    refine go_bind.mpr ?_
    rw [y1]
    refine Go.some ?_
    refine Go.gd (gi 1 (by omega)) ?_
    (try dsimp only at z2)
    (try dsimp only)
    refine go_bind.mpr ?_
    rw [z2]
    refine Go.some (Go.yes rfl (Go.some ⟨M2, ?_, z3, z4⟩))
    rw [e6]
  refine Go.no c31 ?_
  by_cases c32 : xs (jix (nI i)) &&& 63 = 32
  · refine Go.yes c32 ?_
    obtain ⟨v, M1, M2, z1, z2, z3, z4⟩ := sim_use hR hN hc (y := fun B => fM_game (xs (jix (nI i + 1))) B) (fun B h1 h2 => sim_game (xs (jix (nI i + 1))) h1)
    refine Go.gd (gi 1 (by omega)) ?_
    refine go_bind.mpr ?_
    rw [z1]
    refine Go.some ?_
    refine Go.gd (gi 1 (by omega)) ?_
    (try dsimp only at z2)
    (try dsimp only)
    refine go_bind.mpr ?_
    rw [z2]
    refine Go.some (Go.yes rfl (Go.some ⟨M2, ?_, z3, z4⟩))
    rw [e6]
  refine Go.no c32 ?_
  by_cases c33 : xs (jix (nI i)) &&& 63 = 33
  · refine Go.yes c33 ?_
    obtain ⟨v, M1, M2, z1, z2, z3, z4⟩ := sim_use hR hN hc (y := fun B => fM_undo  B) (fun B h1 h2 => sim_undo h1)
    refine go_bind.mpr ?_
    rw [z1]
    refine Go.some ?_
    (try dsimp only at z2)
    (try dsimp only)
    refine go_bind.mpr ?_
    rw [z2]
    refine Go.some (Go.yes rfl (Go.some ⟨M2, ?_, z3, z4⟩))
    rw [e6]
  refine Go.no c33 ?_
  by_cases c34 : xs (jix (nI i)) &&& 63 = 34
  · refine Go.yes c34 ?_
    obtain ⟨v, M1, M2, z1, z2, z3, z4⟩ := sim_use hR hN hc (y := fun B => fM_image (if xs (jix (nI i + 1)) = 0 then (0 : Int32) else 1) B) (fun B h1 h2 => sim_image (by split <;> simp) h1)
    refine Go.gd (gi 1 (by omega)) ?_
    refine go_bind.mpr ?_
    rw [z1]
    refine Go.some ?_
    refine Go.gd (gi 1 (by omega)) ?_
    (try dsimp only at z2)
    (try dsimp only)
    refine go_bind.mpr ?_
    rw [z2]
    refine Go.some (Go.yes rfl (Go.some ⟨M2, ?_, z3, z4⟩))
    rw [e6]
  refine Go.no c34 ?_
  by_cases c35 : xs (jix (nI i)) &&& 63 = 35
  · refine Go.yes c35 ?_
    obtain ⟨v, M1, M2, z1, z2, z3, z4⟩ := sim_use hR hN hc (x := some (fK_look (xs (jix (nI i + 1))) M, M)) (y := fun B => some (fM_look (xs (jix (nI i + 1))) B)) (fun B h1 h2 => sim_look (xs (jix (nI i + 1))) h1)
    cases z1
    refine Go.gd (gi 1 (by omega)) ?_
    have z2 := Option.some.inj z2
    (try dsimp only at z2)
    (try dsimp only)
    refine Go.gd (gi 1 (by omega)) ?_
    rw [z2]
    refine Go.yes rfl (Go.some ⟨M2, ?_, z3, z4⟩)
    rw [e6]
  refine Go.no c35 ?_
  refine Go.some ⟨M, ?_, hR, hc.mono (by omega)⟩
  rw [e6]
end PmLawLoop
