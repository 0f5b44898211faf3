section PmGoes
theorem thinks_eq (B : Mm) : fM_thinks B = some (mput (mrow B 220 (fun k => if k < 174 then B 218 k else B 220 k)) 217 5 1) := by
  apply Go.eq
  unfold fM_thinks
  refine Go.bind (P := fun e => e = mrow B 220 (fun k => if k < 174 then B 218 k else B 220 k)) ?_ (fun e he => Go.some (by rw [he]))
  refine go_for (fun i s => s = (nI i, mrow B 220 (fun k => if k < i then B 218 k else B 220 k))) 174 ?_ ?_ (i := 0) (by omega) ?_ (by omega)
  · intro s hs
    subst hs
    unfold fM_thinks_b2
    exact Go.yes (show (174 : Int32) ≤ nI 174 by decide) (Go.some rfl)
  · intro i s hi hs
    subst hs
    unfold fM_thinks_b2
    dsimp only
    rw [jix_nI (by omega), mrow_put, mrow_r (by omega), nI_1]
    refine Go.no (by rw [lit_nI, nI_le' (by omega) (by omega)]; omega) ?_
    refine Go.gd ((inb_nI (by omega)).mpr (by omega)) ?_
    refine Go.gd ((inb_nI (by omega)).mpr (by omega)) ?_
    refine Go.some ?_
    show (_, _) = (_, _)
    congr 2
    funext k
    by_cases k1 : k = i
    · subst k1
      rw [if_pos rfl, if_pos (by omega)]
    · rw [if_neg k1]
      by_cases k2 : k < i
      · rw [if_pos k2, if_pos (by omega)]
      · rw [if_neg k2, if_neg (by omega)]
  · simp only [Nat.not_lt_zero, if_false]
    rw [mrow_same]; rfl
theorem ends_eq (B : Mm) : fM_endsThought B = some (mput (mrow B 218 (fun k => if k < 174 then B 220 k else B 218 k)) 217 5 0) := by
  apply Go.eq
  unfold fM_endsThought
  refine Go.bind (P := fun e => e = mrow B 218 (fun k => if k < 174 then B 220 k else B 218 k)) ?_ (fun e he => Go.some (by rw [he]))
  refine go_for (fun i s => s = (nI i, mrow B 218 (fun k => if k < i then B 220 k else B 218 k))) 174 ?_ ?_ (i := 0) (by omega) ?_ (by omega)
  · intro s hs
    subst hs
    unfold fM_endsThought_b2
    exact Go.yes (show (174 : Int32) ≤ nI 174 by decide) (Go.some rfl)
  · intro i s hi hs
    subst hs
    unfold fM_endsThought_b2
    dsimp only
    rw [jix_nI (by omega), mrow_put, mrow_r (by omega), nI_1]
    refine Go.no (by rw [lit_nI, nI_le' (by omega) (by omega)]; omega) ?_
    refine Go.gd ((inb_nI (by omega)).mpr (by omega)) ?_
    refine Go.gd ((inb_nI (by omega)).mpr (by omega)) ?_
    refine Go.some ?_
    show (_, _) = (_, _)
    congr 2
    funext k
    by_cases k1 : k = i
    · subst k1
      rw [if_pos rfl, if_pos (by omega)]
    · rw [if_neg k1]
      by_cases k2 : k < i
      · rw [if_pos k2, if_pos (by omega)]
      · rw [if_neg k2, if_neg (by omega)]
  · simp only [Nat.not_lt_zero, if_false]
    rw [mrow_same]; rfl
/-- the relation asks no more of a row of the model's than its 174 cells -/
theorem RR_now {A B B' : Mm} (h : RR A B) (b : ∀ c k, bR c k = true → c ≠ 218 → B' c k = B c k) (b8 : ∀ k, k < 174 → B' 218 k = B 218 k) : RR A B' := by
  obtain ⟨⟨n, ⟨hw, hd, hk⟩, hP⟩, h3, h4, h5, h6, h7, h8⟩ := h
  refine ⟨⟨n, ⟨WR_rho b8 (fun k _ => b 221 k rfl (by omega)) hw, by rw [b 217 6 rfl (by omega)]; exact hd, fun k q => by rw [b 222 k rfl (by omega)]; exact hk k q⟩, RP_congr (fb_rfl _ _) (fun c k q => b c k (by simp [bR, q]) ?_) hP⟩, RX_congr (fb_rfl _ _) (fun c k q => b c k (by simp [bR, q]) ?_) h3, RE_congr (fb_rfl _ _) (fun c k q => b c k (by simp [bR, q]) ?_) h4, RT_congr (fb_rfl _ _) (fun c k q => b c k (by simp [bR, q]) ?_) h5, RF_congr (fb_rfl _ _) (fun c k q => b c k (by simp [bR, q]) ?_) h6, RI_congr (fb_rfl _ _) (fun c k q => b c k (by simp [bR, q]) ?_) h7, RM_congr (fb_rfl _ _) (fun c k q => b c k (by simp [bR, q]) ?_) h8⟩
  all_goals (intro e; subst e; cases q)
theorem sim_goes {A B : Mm} {N : Nat} (x y : Int32) (h : RR A B) (hN : N < 2000000) (hc : CN N B) : Sim A B (fK_goes x y A) (fM_goes x y B) := by
  unfold Sim fK_goes fM_goes
  simp only [isIn_eq]
  rcases within_cases x 1 60 with ⟨w, w1, w2⟩ | ⟨w, -⟩
  rotate_left
  · refine Go.yes (w) ?_
    refine Go.some ?_
    refine Go.yes (w) ?_
    refine Go.some ?_
    exact ⟨rfl, fin_0 h⟩
  refine Go.no (by rw [w]; decide) ?_
  rcases within_nI1 y (a := 0) (b := 3) (by omega) (by omega) with ⟨v, t, -, t3, rfl⟩ | ⟨v, -⟩
  rotate_left
  · refine Go.yes (v) ?_
    refine Go.some ?_
    refine Go.no (by rw [w]; decide) ?_
    refine Go.yes (v) ?_
    refine Go.some ?_
    exact ⟨rfl, fin_0 h⟩
  have v : fK_isWithin (nI t) 0 3 = 1 := v
  refine Go.no (by rw [v]; decide) ?_
  have t1 : Int32.toInt 1 = 1 := by decide
  have t60 : Int32.toInt 60 = 60 := by decide
  obtain ⟨e, rfl, e1, -⟩ := i32_ofs (x := x) (by omega)
  have h0 := h
  obtain ⟨⟨n, ⟨wr, hd, hk⟩, hP⟩, h3, h4, h5, h6, h7, h8⟩ := h0
  obtain ⟨A1, a1, hcp⟩ := copy_go (M := A) (w := 16) (v := 1) (by omega)
  have hcf : FB (mO 16) A A1 := hcp.2.2.2.2.2.2.1
  have fA1 : ∀ c k, (c < 16 ∨ 30 < c ∨ (c = 16 ∧ k = 13)) → A1 c k = A c k := fun c k z => by
    refine hcf c k ?_
    by_cases c1 : c = 16
    · subst c1
      have : k = 13 := by omega
      subst this; rfl
    · have z2 : (Nat.ble 16 c && Nat.ble c (16 + 14)) = false := by
        cases e : (Nat.ble 16 c && Nat.ble c (16 + 14))
        · rfl
        · rw [Bool.and_eq_true, Nat.ble_eq, Nat.ble_eq] at e; omega
      simp only [mO, z2]; rfl
  obtain ⟨B1, hB1⟩ : ∃ B1, B1 = mput (mrow (mput B 217 0 0) 220 (fun k => if k < 174 then B 218 k else B 220 k)) 217 5 1 := ⟨_, rfl⟩
  have fB1 : ∀ c k, c ≠ 220 → (c ≠ 217 ∨ (k ≠ 0 ∧ k ≠ 5)) → B1 c k = B c k := fun c k z1 z2 => by rw [hB1, mput_q (by omega), mrow_r z1, mput_q (by omega)]
  have eB1 : fM_thinks (mput B 217 0 0) = some B1 := by
    rw [thinks_eq, hB1]
    simp only [mput_r (show (218 : Nat) ≠ 217 by omega), mput_r (show (220 : Nat) ≠ 217 by omega)]
  have b220 : ∀ k, k < 174 → B1 220 k = B 218 k := fun k q => by rw [hB1, mput_r (by omega), mrow_in, if_pos q]
  obtain ⟨m, r, hh, hD, hB, hS⟩ : WR A1 16 (B1 218) (B1 221) n := WR_rho (fun k hk => fB1 218 k (by omega) (by omega)) (fun k hk => fB1 221 k (by omega) (by omega)) (WR_cpy hcp wr)
  have d1 : DR 16 (B 222) A1 B1 n m r hh := by
    refine ⟨hD, hB, hS, Or.inr ⟨rfl, by rw [fA1 16 13 (by omega)]; exact h8.2.1, by rw [hB1, mput_same], funext fun k => fB1 222 k (by omega) (by omega)⟩, ?_⟩
    refine RX_congr (fun c k q => by have := aX_bd q; exact fA1 c k (by omega)) (fun c k q => ?_) h3
    refine fB1 c k (by have := bX_bd q; omega) ?_
    by_cases z : c = 217
    · right
      subst z
      refine ⟨fun z => ?_, fun z => ?_⟩ <;> (subst z; cases q)
    · left; exact z
  have hn1 : B1 217 6 = nI n := by rw [fB1 217 6 (by omega) (by omega)]; exact hd
  obtain ⟨⟨c, c1, c2⟩, -⟩ := hc
  have L := go_for2 (f := fun s : Int32 × Mm => fK_goes_b34 (nI e) (nI t) s.1 s.2) (g := fun s : Int32 × Mm => fM_goes_b34 (nI e) (nI t) s.1 s.2)
    (Q := fun A' B' => (∃ m' r' h', DR 16 (B 222) A' B' n m' r' h') ∧ FB (mDD 16) A1 A' ∧ FB mDE B1 B')
    (fun i s t => ∃ A' B', s = (nI i, A') ∧ t = (nI i, B') ∧ (∃ m' r' h', DR 16 (B 222) A' B' n m' r' h') ∧ FB (mDD 16) A1 A' ∧ FB mDE B1 B' ∧ ∃ c', c' ≤ c + 16 * i ∧ B' 218 9 = nI c') e ?_ ?_ (i := 0) (s := (0, A1)) (t := (0, B1)) (by omega) ⟨A1, B1, rfl, rfl, ⟨m, r, hh, d1⟩, fb_rfl _ _, fb_rfl _ _, c, by omega, by rw [fB1 218 9 (by omega) (by omega)]; exact c2⟩ (n := 1000000) (by omega)
  · obtain ⟨A2, l1, B2, l2, ⟨m2, r2, h2, d2⟩, fa, fb⟩ := L
    obtain ⟨B3, hB3⟩ : ∃ B3, B3 = mput (mrow B2 218 (fun k => if k < 174 then B2 220 k else B2 218 k)) 217 5 0 := ⟨_, rfl⟩
    have eB3 : fM_endsThought B2 = some B3 := by rw [ends_eq, hB3]
    have fB3 : ∀ c k, bR c k = true → c ≠ 218 → B3 c k = B c k := by
      intro c k q z
      obtain ⟨y1, y2, y3, y4⟩ := bR_bd q
      by_cases c22 : c = 222
      · subst c22
        rw [hB3, mput_r (by omega), mrow_r (by omega)]
        rcases d2.2.2.2.1 with ⟨z, -⟩ | ⟨-, -, -, z⟩
        · omega
        · rw [z]
      · by_cases c5 : c = 217 ∧ k = 5
        · rw [c5.1, c5.2, hB3, mput_same]; exact h8.2.2.1.symm
        · rw [hB3, mput_q (by omega), mrow_r z, fb c k (mDE_of (by omega) (by omega)), fB1 c k (by omega) (by omega)]
    have b38 : ∀ k, k < 174 → B3 218 k = B 218 k := fun k hk => by
      rw [hB3, mput_r (by omega), mrow_in, if_pos hk, fb 220 k (mDE_of (by omega) (by omega))]
      exact b220 k hk
    have fA2 : ∀ c k, c ≠ 130 → c ≠ 131 → (c < 16 ∨ 30 < c ∨ (c = 16 ∧ k = 13)) → A2 c k = A c k := fun c k z1 z2 z3 => by
      have q : mDD 16 c k = true := by
        unfold mDD
        rw [mDA_of z1 z2 (by omega) (by omega), nbeq (show c ≠ 16 + 6 by omega)]; rfl
      rw [fa c k q, fA1 c k z3]
    have fin : RR A2 B3 ∧ KF A A2 ∧ MF B B3 ∧ CNs B B3 := by
      refine ⟨RR_now (B := B) (RR_congr (B := B) (fun c k q => ?_) (fb_rfl _ _) h) fB3 b38, fun c k q => ?_, fun c k q => ?_, ?_⟩
      · obtain ⟨z1, z2, z3, z4⟩ := aR_bd q
        exact fA2 c k z1 z2 (by omega)
      · simp only [mK, Bool.and_eq_true, Nat.ble_eq] at q
        exact fA2 c k (by omega) (by omega) (by omega)
      · have q2 : bR c k = true := by simp [bR, q]
        simp only [mM, Bool.or_eq_true, Nat.ble_eq] at q
        exact fB3 c k q2 (by omega)
      · exact CNs_of (b38 9 (by omega)) (funext fun k => fB3 219 k rfl (by omega)) (fB3 251 9 rfl (by omega))
    obtain ⟨s1, s2, s3, s4, s5, s6, s7, s8, s9, s10, s11, s12, s13, s14⟩ := d2.2.2.1
    have hl : fM_health B2 = nI h2 := by unfold fM_health; rw [s7]; exact health_nI s2
    have a23 : A2 23 0 = nI m2 := d2.2.1.2.1
    have b23 : B2 218 10 = nI m2 := d2.2.1.2.2.1
    rw [a1]
    refine go_bind.mpr ?_
    refine Go.some ?_
    rw [l1]
    refine go_bind.mpr ?_
    refine Go.some ?_
    try dsimp only
    have ht : t = 0 ∨ t = 1 ∨ t = 2 ∨ t = 3 := by omega
    rcases ht with rfl | rfl | rfl | rfl
    · refine Go.yes (by first | rfl | (simp; done)) ?_
      refine Go.some ?_
      refine Go.no (by rw [w]; decide) ?_
      refine Go.no (by rw [v]; decide) ?_
      refine go_bind.mpr ?_
      rw [eB1]
      refine Go.some ?_
      refine go_bind.mpr ?_
      rw [l2]
      refine Go.some ?_
      refine go_bind.mpr ?_
      refine Go.yes (by first | rfl | (simp; done)) ?_
      refine Go.some ?_
      refine go_bind.mpr ?_
      rw [eB3]
      refine Go.some ?_
      refine Go.some ?_
      exact ⟨s6.trans hl.symm, fin⟩
    · refine Go.no (by first | decide | (simp; done)) ?_
      refine Go.yes (by first | rfl | (simp; done)) ?_
      refine Go.some ?_
      refine Go.no (by rw [w]; decide) ?_
      refine Go.no (by rw [v]; decide) ?_
      refine go_bind.mpr ?_
      rw [eB1]
      refine Go.some ?_
      refine go_bind.mpr ?_
      rw [l2]
      refine Go.some ?_
      refine go_bind.mpr ?_
      refine Go.no (by first | decide | (simp; done)) ?_
      refine Go.yes (by first | rfl | (simp; done)) ?_
      refine Go.some ?_
      refine go_bind.mpr ?_
      rw [eB3]
      refine Go.some ?_
      refine Go.some ?_
      exact ⟨s8, fin⟩
    · refine Go.no (by first | decide | (simp; done)) ?_
      refine Go.no (by first | decide | (simp; done)) ?_
      refine Go.yes (by first | rfl | (simp; done)) ?_
      refine Go.some ?_
      refine Go.no (by rw [w]; decide) ?_
      refine Go.no (by rw [v]; decide) ?_
      refine go_bind.mpr ?_
      rw [eB1]
      refine Go.some ?_
      refine go_bind.mpr ?_
      rw [l2]
      refine Go.some ?_
      refine go_bind.mpr ?_
      refine Go.no (by first | decide | (simp; done)) ?_
      refine Go.no (by first | decide | (simp; done)) ?_
      refine Go.yes (by first | rfl | (simp; done)) ?_
      refine Go.some ?_
      refine go_bind.mpr ?_
      rw [eB3]
      refine Go.some ?_
      refine Go.some ?_
      exact ⟨a23.trans b23.symm, fin⟩
    · refine Go.no (by first | decide | (simp; done)) ?_
      refine Go.no (by first | decide | (simp; done)) ?_
      refine Go.no (by first | decide | (simp; done)) ?_
      refine Go.some ?_
      refine Go.no (by rw [w]; decide) ?_
      refine Go.no (by rw [v]; decide) ?_
      refine go_bind.mpr ?_
      rw [eB1]
      refine Go.some ?_
      refine go_bind.mpr ?_
      rw [l2]
      refine Go.some ?_
      refine go_bind.mpr ?_
      refine Go.no (by first | decide | (simp; done)) ?_
      refine Go.no (by first | decide | (simp; done)) ?_
      refine Go.no (by first | decide | (simp; done)) ?_
      refine Go.some ?_
      refine go_bind.mpr ?_
      rw [eB3]
      refine Go.some ?_
      refine Go.some ?_
      exact ⟨s10, fin⟩
  · rintro s t ⟨A', B', rfl, rfl, q1, q2, q3, -⟩
    refine Go.yes (show nI e ≤ nI e from i32_le.mpr (Int.le_refl _)) (Go.some (Go.yes (show nI e ≤ nI e from i32_le.mpr (Int.le_refl _)) (Go.some ?_)))
    exact ⟨q1, q2, q3⟩
  · rintro i s t hi ⟨A', B', rfl, rfl, ⟨m', r', h', q1⟩, q2, q3, c', c3, c4⟩
    have hn' : B' 217 6 = nI n := by rw [q3 217 6 rfl]; exact hn1
    obtain ⟨⟨v2, A2⟩, z1, ⟨v', B2⟩, z2, z3, ⟨m2, r2, h2, z4⟩, ⟨c'', x1, x2⟩, z5, z6⟩ := day_sim (Or.inr rfl) q1 hn' (by omega) c4
    unfold fK_goes_b34 fM_goes_b34
    dsimp only
    refine Go.no (by rw [nI_le' (by omega) (by omega)]; omega) ?_
    rw [z1]
    refine go_bind.mpr ?_
    refine Go.some ?_
    refine Go.some ?_
    refine Go.no (by rw [nI_le' (by omega) (by omega)]; omega) ?_
    rw [z2]
    refine go_bind.mpr ?_
    refine Go.some ?_
    refine Go.some ?_
    rw [nI_1]
    exact ⟨A2, B2, rfl, rfl, ⟨m2, r2, h2, z4⟩, q2.trans z5, q3.trans z6, c'', by omega, x2⟩
end PmGoes
