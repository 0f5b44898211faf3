section PmOps4
variable {β : Nat → Int32}
theorem aR_bd {c k : Nat} (h : aR c k = true) : c ≠ 130 ∧ c ≠ 131 ∧ c ≠ 7 ∧ (16 ≤ c ∧ c ≤ 30 → c = 16 ∧ k = 13) := by
  simp only [aR, aW, mW, aP, aX, aE, aT, aF, aI, aM, mK, Bool.or_eq_true, Bool.and_eq_true, Nat.ble_eq, Nat.beq_eq, Bool.not_eq_true'] at h
  have n1 : ∀ a b : Nat, Nat.beq a b = false → a ≠ b := fun a b q e => by rw [e, Nat.beq_refl] at q; cases q
  refine ⟨fun e => ?_, fun e => ?_, fun e => ?_, fun e => ?_⟩
  · subst e
    rcases h with ((((((((((h | h) | h) | h) | h) | h) | h) | h) | h) | h))
    all_goals first | omega | (have := n1 _ _ h.1.2; omega) | (have := n1 _ _ h.2; omega) | skip
    all_goals simp_all
  · subst e
    rcases h with ((((((((((h | h) | h) | h) | h) | h) | h) | h) | h) | h))
    all_goals first | omega | (have := n1 _ _ h.1.2; omega) | (have := n1 _ _ h.2; omega) | skip
    all_goals simp_all
  · subst e
    rcases h with ((((((((((h | h) | h) | h) | h) | h) | h) | h) | h) | h))
    all_goals first | omega | (have := n1 _ _ h.1.2; omega) | (have := n1 _ _ h.2; omega) | skip
    all_goals simp_all
  · rcases h with ((((((((((h | h) | h) | h) | h) | h) | h) | h) | h) | h))
    all_goals first | omega | (have := n1 _ _ h.1.2; omega) | (have := n1 _ _ h.2; omega) | skip
    all_goals simp_all
    all_goals omega
theorem bR_bd {c k : Nat} (h : bR c k = true) : c ≠ 220 ∧ c ≠ 236 ∧ c ≠ 237 ∧ (c = 217 → k ≠ 0 ∧ k ≠ 40) := by
  simp only [bR, bW, bP, bX, bE, bT, bF, bI, bM, mM, Bool.or_eq_true, Bool.and_eq_true, Nat.ble_eq, Nat.beq_eq] at h
  omega
theorem sim_letter {A B : Mm} (x y : Int32) (h : RR A B) : Sim A B (fK_letter x y A) (fM_letter x y B) := by
  have h0 : RR A (mput B 217 0 0) := (fin_0 h).1
  obtain ⟨n, m, r, hh, d0, hn⟩ := dr_of (β := fun _ => 0) h0
  have m24 : m ≤ 24 := d0.2.1.1
  have a80 : A 8 0 = nI m := d0.2.1.2.1
  have b10 : mput B 217 0 0 218 10 = nI m := d0.2.1.2.2.1
  unfold Sim fK_letter fM_letter
  simp only [isIn_eq, a80, b10]
  rcases below_cases x (n := m) (by omega) with ⟨w, i, hi, rfl⟩ | ⟨w, -⟩
  rotate_left
  · refine Go.yes (w) ?_
    refine Go.some ?_
    refine Go.yes (w) ?_
    refine Go.some ?_
    exact ⟨rfl, fin_0 h⟩
  obtain ⟨l1, l2, l3, l4, l5, ⟨d, hd, ed⟩, -, -⟩ := d0.2.1.2.2.2.2 i hi
  have ji : jix (nI i) = i := jix_nI (by omega)
  have ii : inb (nI i) 24 := (inb_nI (by omega)).mpr (by omega)
  have la : fM_letterAt (nI i) = nI (54 + 5 * i) := by unfold fM_letterAt; rw [lit_nI, lit_nI, nI_mul', nI_add]
  have kv := kv_rel (ρ := mput B 217 0 0 218) d0.1 d0.2.2.1 hd l3 l4 l5
  have q9 : A (1 + 9) i = nI d := l2.trans ed
  have nw : ¬ fK_isWithin (nI i) 0 (nI m - 1) = 0 := by rw [w]; decide
  have ask : ∀ wd mo : Int32, (wd = 0 ∧ mo = 1000 ∨ wd = 1 ∧ mo = 99 ∨ wd = 2 ∧ mo = 20) → ∃ v A' B', fW_ask 1 wd (nI i) A = some (v, A') ∧ tellB wd (asksM (mput B 217 0 0) d (mput B 217 0 0 218 (56 + 5 * i)) (mput B 217 0 0 218 (57 + 5 * i)) (mput B 217 0 0 218 (58 + 5 * i))) = some (v, B') ∧ (RR A' B' ∧ KF A A' ∧ MF B B' ∧ CNs B B') := by
    intro wd mo hm
    obtain ⟨v, A', B', z1, z2, -, z3, z4⟩ := ask_sim hm (Or.inl rfl) d0.2.2.2.2 (by omega) hd q9 kv
    refine ⟨v, A', B', z1, z2, fin_r h (z3.sub fun c k q => mAA_of ⟨(aR_bd q).1, (aR_bd q).2.1⟩) ?_⟩
    intro c k q
    have := bR_bd q
    rw [z4 c k (mAB_of (by omega)), mput_q (by omega)]
  have s0 : ∀ a : Nat, a < 5 → nI (54 + 5 * i) + nI a = nI (54 + a + 5 * i) := fun a ha => by rw [nI_add]; exact congrArg nI (by omega)
  have ix : ∀ t, t < 5 → inb (nI (54 + t + 5 * i)) 174 := fun t ht => (inb_nI (by omega)).mpr (by omega)
  have jx : ∀ t, t < 5 → jix (nI (54 + t + 5 * i)) = 54 + t + 5 * i := fun t ht => jix_nI (by omega)
  simp only [la, ji]
  refine Go.no (nw) ?_
  have mod : ∀ (t : Nat) (v : Int32), t < 5 → y = nI t → v = mput B 217 0 0 218 (54 + t + 5 * i) → Go (if fK_isWithin (nI i) 0 (nI m - 1) = 0 then some (-1, mput B 217 0 0) else if fK_isWithin y 0 7 = 0 then some (-1, mput B 217 0 0) else if 5 ≤ y then (fM_asksOf (nI i) (mput B 217 0 0)).bind fun Mz5 => if y = 5 then (fM_opensNow Mz5).bind fun qz11 => some (qz11.1, qz11.2) else if y = 6 then (fM_givesNow Mz5).bind fun qz9 => some (qz9.1, qz9.2) else (fM_tiresNow Mz5).bind fun qz7 => some (qz7.1, qz7.2) else if inb (nI (54 + 5 * i) + y) 174 then some (mput B 217 0 0 218 (jix (nI (54 + 5 * i) + y)), mput B 217 0 0) else none) (fun q => (v, A).1 = q.1 ∧ RR (v, A).2 q.2 ∧ KF A (v, A).2 ∧ MF B q.2 ∧ CNs B q.2) := by
    intro t v ht e ev
    subst e
    have w7 : ¬ fK_isWithin (nI t) 0 7 = 0 := by
      rcases within_cases (nI t) 0 7 with ⟨q, -⟩ | ⟨-, q⟩
      · rw [q]; decide
      · exfalso; apply q
        have t0 : Int32.toInt 0 = 0 := by decide
        have t7 : Int32.toInt 7 = 7 := by decide
        rw [nI_toInt' (by omega)]; omega
    rw [s0 t ht]
    refine Go.no (nw) ?_
    refine Go.no (w7) ?_
    refine Go.no (by rw [lit_nI, nI_le' (by omega) (by omega)]; omega) ?_
    refine Go.gd (ix t ht) ?_
    refine Go.some ?_
    rw [jx t ht]
    exact ⟨ev, fin_0 h⟩
  by_cases y0 : y = 0
  · refine Go.yes (y0) ?_
    refine Go.gd (ii) ?_
    refine Go.some ?_
    exact mod 0 _ (by omega) y0 l1
  by_cases y1 : y = 1
  · refine Go.no (y0) ?_
    refine Go.yes (y1) ?_
    refine Go.gd (ii) ?_
    refine Go.some ?_
    exact mod 1 _ (by omega) y1 l2
  by_cases y2 : y = 2
  · refine Go.no (y0) ?_
    refine Go.no (y1) ?_
    refine Go.yes (y2) ?_
    refine Go.gd (ii) ?_
    refine Go.some ?_
    exact mod 2 _ (by omega) y2 l3
  by_cases y3 : y = 3
  · refine Go.no (y0) ?_
    refine Go.no (y1) ?_
    refine Go.no (y2) ?_
    refine Go.yes (y3) ?_
    refine Go.gd (ii) ?_
    refine Go.some ?_
    exact mod 3 _ (by omega) y3 l4
  by_cases y4 : y = 4
  · refine Go.no (y0) ?_
    refine Go.no (y1) ?_
    refine Go.no (y2) ?_
    refine Go.no (y3) ?_
    refine Go.yes (y4) ?_
    refine Go.gd (ii) ?_
    refine Go.some ?_
    exact mod 4 _ (by omega) y4 l5
  by_cases y5 : y = 5
  · obtain ⟨v, A', B', z1, z2, z3⟩ := ask 0 1000 (Or.inl ⟨rfl, rfl⟩)
    have z2 : fM_opensNow _ = some (v, B') := z2
    subst y5
    refine Go.no (by first | decide | (simp; done)) ?_
    refine Go.no (by first | decide | (simp; done)) ?_
    refine Go.no (by first | decide | (simp; done)) ?_
    refine Go.no (by first | decide | (simp; done)) ?_
    refine Go.no (by first | decide | (simp; done)) ?_
    refine Go.yes (by first | rfl | (simp; done)) ?_
    refine go_bind.mpr ?_
    rw [z1]
    refine Go.some ?_
    refine Go.some ?_
    refine Go.no (nw) ?_
    refine Go.no (by first | decide | (simp; done)) ?_
    refine Go.yes (by decide) ?_
    refine go_bind.mpr ?_
    rw [asksOf_eq (by omega) hd ed]
    refine Go.some ?_
    refine Go.yes (by first | rfl | (simp; done)) ?_
    refine go_bind.mpr ?_
    rw [z2]
    refine Go.some ?_
    refine Go.some ?_
    exact ⟨rfl, z3⟩
  by_cases y6 : y = 6
  · obtain ⟨v, A', B', z1, z2, z3⟩ := ask 1 99 (Or.inr (Or.inl ⟨rfl, rfl⟩))
    have z2 : fM_givesNow _ = some (v, B') := z2
    subst y6
    refine Go.no (by first | decide | (simp; done)) ?_
    refine Go.no (by first | decide | (simp; done)) ?_
    refine Go.no (by first | decide | (simp; done)) ?_
    refine Go.no (by first | decide | (simp; done)) ?_
    refine Go.no (by first | decide | (simp; done)) ?_
    refine Go.no (by first | decide | (simp; done)) ?_
    refine Go.yes (by first | rfl | (simp; done)) ?_
    refine go_bind.mpr ?_
    rw [z1]
    refine Go.some ?_
    refine Go.some ?_
    refine Go.no (nw) ?_
    refine Go.no (by first | decide | (simp; done)) ?_
    refine Go.yes (by decide) ?_
    refine go_bind.mpr ?_
    rw [asksOf_eq (by omega) hd ed]
    refine Go.some ?_
    refine Go.no (by first | decide | (simp; done)) ?_
    refine Go.yes (by first | rfl | (simp; done)) ?_
    refine go_bind.mpr ?_
    rw [z2]
    refine Go.some ?_
    refine Go.some ?_
    exact ⟨rfl, z3⟩
  by_cases y7 : y = 7
  · obtain ⟨v, A', B', z1, z2, z3⟩ := ask 2 20 (Or.inr (Or.inr ⟨rfl, rfl⟩))
    have z2 : fM_tiresNow _ = some (v, B') := z2
    subst y7
    refine Go.no (by first | decide | (simp; done)) ?_
    refine Go.no (by first | decide | (simp; done)) ?_
    refine Go.no (by first | decide | (simp; done)) ?_
    refine Go.no (by first | decide | (simp; done)) ?_
    refine Go.no (by first | decide | (simp; done)) ?_
    refine Go.no (by first | decide | (simp; done)) ?_
    refine Go.no (by first | decide | (simp; done)) ?_
    refine Go.yes (by first | rfl | (simp; done)) ?_
    refine go_bind.mpr ?_
    rw [z1]
    refine Go.some ?_
    refine Go.some ?_
    refine Go.no (nw) ?_
    refine Go.no (by first | decide | (simp; done)) ?_
    refine Go.yes (by decide) ?_
    refine go_bind.mpr ?_
    rw [asksOf_eq (by omega) hd ed]
    refine Go.some ?_
    refine Go.no (by first | decide | (simp; done)) ?_
    refine Go.no (by first | decide | (simp; done)) ?_
    refine go_bind.mpr ?_
    rw [z2]
    refine Go.some ?_
    refine Go.some ?_
    exact ⟨rfl, z3⟩
  refine Go.no (y0) ?_
  refine Go.no (y1) ?_
  refine Go.no (y2) ?_
  refine Go.no (y3) ?_
  refine Go.no (y4) ?_
  refine Go.no (y5) ?_
  refine Go.no (y6) ?_
  refine Go.no (y7) ?_
  refine Go.some ?_
  refine Go.no (nw) ?_
  rcases within_nI1 y (a := 0) (b := 7) (by omega) (by omega) with ⟨-, t, -, t7, e⟩ | ⟨q, -⟩
  · exfalso
    have : t = 0 ∨ t = 1 ∨ t = 2 ∨ t = 3 ∨ t = 4 ∨ t = 5 ∨ t = 6 ∨ t = 7 := by omega
    rcases this with rfl | rfl | rfl | rfl | rfl | rfl | rfl | rfl
    · exact y0 e
    · exact y1 e
    · exact y2 e
    · exact y3 e
    · exact y4 e
    · exact y5 e
    · exact y6 e
    · exact y7 e
  · refine Go.yes (q) ?_
    refine Go.some ?_
    exact ⟨rfl, fin_0 h⟩
end PmOps4
