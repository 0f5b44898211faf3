section PmOps3
variable {β : Nat → Int32}
/-- the place of a number in the bag, found alike -/
theorem find_sim {A B : Mm} {m : Nat} (x : Int32) (hm : m ≤ 24) (a0 : A 8 0 = nI m) (b0 : B 218 10 = nI m) (hL : ∀ j, j < m → A 9 j = B 218 (54 + 5 * j)) :
    (∃ i, i < m ∧ fB_placeOf 8 x A = some (nI i) ∧ lp 1000000 (fun s => fM_bring_b17 x B s) 0 = some (.inl (nI i))) ∨ (fB_placeOf 8 x A = some (-1) ∧ lp 1000000 (fun s => fM_bring_b17 x B s) 0 = some (.inr ())) := by
  have L := go_for2 (f := fun s : Int32 => fB_placeOf_b2 8 x A s) (g := fun s : Int32 => fM_bring_b17 x B s)
    (Q := fun y y' => (∃ i, i < m ∧ y = .inl (nI i) ∧ y' = .inl (nI i)) ∨ (y = .inr () ∧ y' = .inr ()))
    (fun i s t => s = nI i ∧ t = nI i) m ?_ ?_ (i := 0) (s := 0) (t := 0) (by omega) ⟨rfl, rfl⟩ (n := 1000000) (by omega)
  · obtain ⟨y, e1, y', e2, q⟩ := L
    unfold fB_placeOf
    rw [e1, e2]
    rcases q with ⟨i, hi, rfl, rfl⟩ | ⟨rfl, rfl⟩
    · exact Or.inl ⟨i, hi, rfl, rfl⟩
    · exact Or.inr ⟨rfl, rfl⟩
  · rintro s t ⟨rfl, rfl⟩
    unfold fB_placeOf_b2 fM_bring_b17
    rw [a0, b0]
    refine Go.yes (i32_le.mpr (Int.le_refl _)) ?_
    refine Go.some ?_
    refine Go.yes (i32_le.mpr (Int.le_refl _)) ?_
    refine Go.some ?_
    exact Or.inr ⟨rfl, rfl⟩
  · rintro i s t hi ⟨rfl, rfl⟩
    unfold fB_placeOf_b2 fM_bring_b17
    have la : fM_letterAt (nI i) = nI (54 + 5 * i) := by unfold fM_letterAt; rw [lit_nI, lit_nI, nI_mul', nI_add]
    have h9 : A (8 + 1) i = B 218 (54 + 5 * i) := hL i hi
    simp only [a0, b0, la, jix_nI (show i < 2147483648 by omega), jix_nI (show 54 + 5 * i < 2147483648 by omega), h9, nI_1]
    refine Go.no (by rw [nI_le' (by omega) (by omega)]; omega) ?_
    refine Go.gd ((inb_nI (by omega)).mpr (by omega)) ?_
    by_cases e : B 218 (54 + 5 * i) = x
    · refine Go.yes (e) ?_
      refine Go.some ?_
      refine Go.no (by rw [nI_le' (by omega) (by omega)]; omega) ?_
      refine Go.gd ((inb_nI (by omega)).mpr (by omega)) ?_
      refine Go.yes (e) ?_
      refine Go.some ?_
      exact Or.inl ⟨i, hi, rfl, rfl⟩
    · refine Go.no (e) ?_
      refine Go.some ?_
      refine Go.no (by rw [nI_le' (by omega) (by omega)]; omega) ?_
      refine Go.gd ((inb_nI (by omega)).mpr (by omega)) ?_
      refine Go.no (e) ?_
      refine Go.some ?_
      exact ⟨rfl, rfl⟩
theorem sim_bring {A B : Mm} (x : Int32) (h : RR A B) : Sim A B (fK_bring x A) (fM_bring x B) := by
  have h0 : RR A (mput B 217 0 0) := (fin_0 h).1
  obtain ⟨n, m, r, hh, d0, hn⟩ := dr_of (β := fun _ => 0) h0
  have m24 : m ≤ 24 := d0.2.1.1
  have a80 : A 8 0 = nI m := d0.2.1.2.1
  have b10 : mput B 217 0 0 218 10 = nI m := d0.2.1.2.2.1
  have s2 : hh ≤ 99 := d0.2.2.1.2.1
  have s6 : A 1 5 = nI hh := d0.2.2.1.2.2.2.2.2.1
  have s7 : mput B 217 0 0 218 4 = nI (99 - hh) := d0.2.2.1.2.2.2.2.2.2.1
  have hl : fM_health (mput B 217 0 0) = nI hh := by unfold fM_health; rw [s7]; exact health_nI s2
  unfold Sim fK_bring fM_bring
  dsimp only
  rw [hl]
  rcases find_sim (B := mput B 217 0 0) x m24 a80 b10 (fun j hj => (d0.2.1.2.2.2.2 j hj).1) with ⟨i, hi, f1, f2⟩ | ⟨f1, f2⟩
  rotate_left
  · rw [f1, f2]
    refine go_bind.mpr ?_
    refine Go.some ?_
    refine Go.yes (by first | rfl | (simp; done)) ?_
    refine Go.some ?_
    by_cases hz : nI hh = 0
    · refine Go.yes (hz) ?_
      refine Go.some ?_
      exact ⟨rfl, fin_0 h⟩
    · refine Go.no (hz) ?_
      refine go_bind.mpr ?_
      refine Go.some ?_
      refine Go.some ?_
      exact ⟨rfl, fin_0 h⟩
  rw [f1, f2]
  refine go_bind.mpr ?_
  refine Go.some ?_
  refine Go.no (nI_neg1 (by omega)) ?_
  by_cases hz : nI hh = 0
  · refine Go.yes (by rw [s6]; exact hz) ?_
    refine Go.some ?_
    refine Go.yes (hz) ?_
    refine Go.some ?_
    exact ⟨rfl, fin_0 h⟩
  obtain ⟨A1, a1, B1, b1, r1, k1, k2, k3⟩ := rr_keep h0
  obtain ⟨n', m', r', hh', d1, hn1⟩ := dr_of (β := fun _ => 0) r1
  have mm : m' = m := by
    have e1 : B1 218 10 = nI m' := d1.2.1.2.2.1
    rw [k2 218 10 rfl, b10] at e1
    have := d1.2.1.1
    exact ((nI_eq' (by omega) (by omega)).mp e1).symm
  subst mm
  obtain ⟨v, A2, B2, m2, r2, h2, z1, z2, z3, -, z5, z6, z9⟩ := bring_sim (Or.inl rfl) d1 hi
  obtain ⟨y1, y2, y3⟩ := rr_of r1 hn1 z3 rfl (z5.sub fun c k q => (mDD_bd q).1) (z6.sub fun c k q => (mDE_bd q).1)
  obtain ⟨x1, x2⟩ := kf_mf k1 k2 y2 y3
  refine Go.no (by rw [s6]; exact hz) ?_
  refine go_bind.mpr ?_
  rw [a1]
  refine Go.some ?_
  refine go_bind.mpr ?_
  rw [z1]
  refine Go.some ?_
  refine Go.some ?_
  refine Go.no (hz) ?_
  refine go_bind.mpr ?_
  refine Go.some ?_
  refine go_bind.mpr ?_
  rw [b1]
  refine Go.some ?_
  refine go_bind.mpr ?_
  rw [z2]
  refine Go.some ?_
  refine Go.some ?_
  refine ⟨rfl, y1, x1, x2, fun N' hN' hc' => ?_⟩
  obtain ⟨c1, c2, c3⟩ := (k3 N' (CN_0 hc')).mono (show N' ≤ N' + 1000 by omega)
  refine ⟨?_, ?_, ?_⟩
  · show ∃ c, c ≤ N' + 1000 ∧ B2 218 9 = nI c
    rw [z9]; exact c1
  · show ∀ j, j < 6 → ∃ c, c ≤ N' + 1000 ∧ B2 219 (174 * j + 9) = nI c
    rw [z6.row (c := 219) fun _ => rfl]; exact c2
  · show ∃ c, c ≤ N' + 1000 ∧ B2 251 9 = nI c
    rw [z6 251 9 rfl]; exact c3
theorem undo_eq {B : Mm} {u : Nat} (hu : u ≤ 5) (h : B 217 3 = nI u) : lp 1000000 (fun s => fM_undo_b26 s.1 s.2) (0, B) = some (mrow B 218 (fun k => if k < 174 then B 219 (174 * u + k) else B 218 k)) := by
  apply Go.eq
  refine go_for (fun i s => s = (nI i, mrow B 218 (fun k => if k < i then B 219 (174 * u + k) else B 218 k))) 174 ?_ ?_ (i := 0) (by omega) ?_ (by omega)
  · intro s hs
    subst hs
    unfold fM_undo_b26
    exact Go.yes (show (174 : Int32) ≤ nI 174 by decide) (Go.some rfl)
  · intro i s hi hs
    subst hs
    unfold fM_undo_b26
    have e2 : ∀ f, (174 : Int32) * mrow B 218 f 217 3 + nI i = nI (174 * u + i) := fun f => by
      rw [mrow_r (by omega), h, lit_nI, nI_mul', nI_add]
    dsimp only
    rw [e2, jix_nI (by omega), jix_nI (by omega), mrow_put, mrow_r (by omega), nI_1]
    refine Go.no (by rw [lit_nI, nI_le' (by omega) (by omega)]; omega) ?_
    refine Go.gd ((inb_nI (by omega)).mpr (by omega)) ?_
    refine Go.gd ((inb_nI (by omega)).mpr (by omega)) ?_
    refine Go.some ?_
    show (_, _) = (_, _)
    congr 2
    funext k
    by_cases k1 : k = i
    · subst k1
      rw [if_pos rfl, if_pos (by omega)]
    · rw [if_neg k1]
      by_cases k2 : k < i
      · rw [if_pos k2, if_pos (by omega)]
      · rw [if_neg k2, if_neg (by omega)]
  · simp only [Nat.not_lt_zero, if_false]
    rw [mrow_same]; rfl
theorem sim_undo {A B : Mm} (h : RR A B) : Sim A B (fK_undo A) (fM_undo B) := by
  have h0 := h
  obtain ⟨⟨n, hW, ⟨p, q, p1, q1, e1, e2, e3, e4⟩⟩, h3, h4, h5, h6, h7, h8⟩ := h0
  unfold Sim fK_undo fP_goBack fM_undo
  have b3 : mput B 217 0 0 217 3 = nI p := e3
  dsimp only
  rw [b3, e1]
  by_cases hp : p = 0
  · subst hp
    refine go_bind.mpr ?_
    refine Go.yes (by first | rfl | (simp; done)) ?_
    refine Go.some ?_
    refine Go.gd (by first | decide | (simp; done)) ?_
    refine Go.some ?_
    refine Go.yes (by first | rfl | (simp; done)) ?_
    refine Go.some ?_
    exact ⟨rfl, fin_0 h⟩
  have hp0 : ¬ nI p = 0 := nI_ne0 (by omega) (by omega)
  have w0 := e4 0 (by omega)
  rw [show (q + 6 - 0) % 6 = q by omega] at w0
  have jq : jix (A 31 1) = q := by rw [e2, jix_nI (by omega)]
  obtain ⟨A1, a1, hc⟩ := copy_go (M := A) (w := 1) (v := 33 + 15 * q) (by omega)
  have hcf : FB (mO 1) A A1 := hc.2.2.2.2.2.2.1
  have fA1 : ∀ c k, (15 < c ∨ c = 0 ∨ (c = 1 ∧ k = 13)) → A1 c k = A c k := fun c k z => by
    refine hcf c k ?_
    by_cases c1 : c = 1
    · subst c1
      have : k = 13 := by omega
      subst this; rfl
    · have z2 : (Nat.ble 1 c && Nat.ble c (1 + 14)) = false := by
        cases e : (Nat.ble 1 c && Nat.ble c (1 + 14))
        · rfl
        · rw [Bool.and_eq_true, Nat.ble_eq, Nat.ble_eq] at e; omega
      simp only [mO, z2]; rfl
  have a15 : A1 15 = A 15 := hc.2.2.2.2.2.2.2.2 (Or.inr (kbl_kept q1))
  have wr1 : WR A1 1 (fun k => B 219 (174 * (p - 1 - 0) + k)) (B 221) n := WR_cpy hc w0
  have a31 : A1 31 1 = nI q := by rw [fA1 31 1 (by omega)]; exact e2
  have a30 : A1 31 0 = nI p := by rw [fA1 31 0 (by omega)]; exact e1
  have nq : jrem (nI q + 6 - 1) 6 = nI ((q + 5) % 6) := by
    rw [lit_nI, nI_add, lit_nI, nI_sub' (by omega)]
    exact jrem6 (by omega)
  have np : nI p - 1 = nI (p - 1) := by rw [lit_nI, nI_sub' (by omega)]
  obtain ⟨A2, hA2⟩ : ∃ A2, A2 = mput (mput A1 31 1 (nI ((q + 5) % 6))) 31 0 (nI (p - 1)) := ⟨_, rfl⟩
  obtain ⟨B2, hB2⟩ : ∃ B2, B2 = mrow (mput (mput B 217 0 0) 217 3 (nI (p - 1))) 218 (fun k => if k < 174 then B 219 (174 * (p - 1) + k) else B 218 k) := ⟨_, rfl⟩
  have fA2 : ∀ c k, (15 < c ∨ c = 0 ∨ (c = 1 ∧ k = 13)) → c ≠ 31 → A2 c k = A c k := fun c k z z2 => by rw [hA2, mput_r z2, mput_r z2, fA1 c k z]
  have fB2 : ∀ c k, c ≠ 218 → (c ≠ 217 ∨ (k ≠ 0 ∧ k ≠ 3)) → B2 c k = B c k := fun c k z z2 => by rw [hB2, mrow_r z, mput_q (by omega), mput_q (by omega)]
  refine go_bind.mpr ?_
  refine Go.no (hp0) ?_
  refine Go.gd (by rw [e2, inb_nI (by omega)]; exact q1) ?_
  refine go_bind.mpr ?_
  rw [jq, a1]
  refine Go.some ?_
  refine Go.some ?_
  dsimp only
  rw [a31, nq, mput_s (show (0 : Nat) ≠ 1 by omega), a30, np, ← hA2]
  refine Go.gd (by first | decide | (simp; done)) ?_
  refine Go.some ?_
  refine Go.no (hp0) ?_
  refine go_bind.mpr ?_
  rw [undo_eq (u := p - 1) (by omega) (mput_same _ _ _ _)]
  refine Go.some ?_
  refine Go.some ?_
  have eB : mrow (mput (mput B 217 0 0) 217 3 (nI (p - 1))) 218 (fun k => if k < 174 then mput (mput B 217 0 0) 217 3 (nI (p - 1)) 219 (174 * (p - 1) + k) else mput (mput B 217 0 0) 217 3 (nI (p - 1)) 218 k) = B2 := by
    rw [hB2]
    simp only [mput_r (show (219 : Nat) ≠ 217 by omega), mput_r (show (218 : Nat) ≠ 217 by omega)]
  rw [eB]
  have wr2 : WR A2 1 (B2 218) (B2 221) n := by
    have e1' : WR A2 1 (fun k => B 219 (174 * (p - 1 - 0) + k)) (B 221) n := by
      rw [hA2]
      exact WR_congr (fb_put (fb_put (fb_rfl _ _) rfl) rfl) wr1
    refine WR_rho (fun k hk => ?_) (fun k hk => fB2 221 k (by omega) (by omega)) e1'
    rw [hB2, mrow_in, if_pos hk]; rfl
  show (1 : Int32) = 1 ∧ RR A2 B2 ∧ KF A A2 ∧ MF B B2 ∧ CNs B B2
  refine ⟨rfl, ⟨⟨n, ⟨wr2, by rw [fB2 217 6 (by omega) (by omega)]; exact hW.2.1, fun k hk => ?_⟩, p - 1, (q + 5) % 6, by omega, Nat.mod_lt _ (by omega), ?_, ?_, ?_, fun j hj => ?_⟩, ?_, ?_, ?_, ?_, ?_, ?_⟩, ?_, ?_, ?_⟩
  · rw [hA2, mput_r (by omega), mput_r (by omega), a15, fB2 222 k (by omega) (by omega)]; exact hW.2.2 k hk
  · rw [hA2, mput_same]
  · rw [hA2, mput_s (by omega), mput_same]
  · rw [hB2, mrow_r (by omega), mput_same]
  · have := e4 (j + 1) (by omega)
    rw [show (q + 6 - (j + 1)) % 6 = ((q + 5) % 6 + 6 - j) % 6 by omega, show p - 1 - (j + 1) = p - 1 - 1 - j by omega] at this
    have z6 : ((q + 5) % 6 + 6 - j) % 6 < 6 := Nat.mod_lt _ (by omega)
    generalize ((q + 5) % 6 + 6 - j) % 6 = z at *
    refine WR_rho (fun k hk => fB2 219 _ (by omega) (by omega)) (fun k hk => fB2 221 k (by omega) (by omega)) (WR_congr (fun c k e => ?_) this)
    simp only [mW, Bool.or_eq_true, Bool.and_eq_true, Nat.ble_eq, Nat.beq_eq] at e
    exact fA2 c k (by omega) (by omega)
  · refine RX_congr (fun c k e => ?_) (fun c k e => ?_) h3
    · have := aX_bd e
      exact fA2 c k (by omega) (by omega)
    · refine fB2 c k (by have := bX_bd e; omega) ?_
      by_cases z : c = 217
      · right
        subst z
        refine ⟨fun z => ?_, fun z => ?_⟩ <;> (subst z; cases e)
      · left; exact z
  · refine RE_congr (fun c k e => ?_) (fun c k e => ?_) h4
    · simp only [aE, Bool.and_eq_true, Nat.ble_eq] at e
      exact fA2 c k (by omega) (by omega)
    · simp only [bE, Bool.or_eq_true, Bool.and_eq_true, Nat.ble_eq, Nat.beq_eq] at e
      exact fB2 c k (by omega) (by omega)
  · refine RT_congr (fun c k e => ?_) (fun c k e => ?_) h5
    · simp only [aT, Bool.or_eq_true, Bool.and_eq_true, Nat.beq_eq] at e
      exact fA2 c k (by omega) (by omega)
    · simp only [bT, Bool.or_eq_true, Bool.and_eq_true, Nat.beq_eq] at e
      exact fB2 c k (by omega) (by omega)
  · refine RF_congr (fun c k e => ?_) (fun c k e => ?_) h6
    · simp only [aF, Bool.or_eq_true, Bool.and_eq_true, Nat.beq_eq] at e
      exact fA2 c k (by omega) (by omega)
    · simp only [bF, Bool.or_eq_true, Bool.and_eq_true, Nat.beq_eq] at e
      exact fB2 c k (by omega) (by omega)
  · refine RI_congr (fun c k e => ?_) (fun c k e => ?_) h7
    · simp only [aI, Bool.or_eq_true, Bool.and_eq_true, Nat.ble_eq, Nat.beq_eq] at e
      exact fA2 c k (by omega) (by omega)
    · simp only [bI, Bool.or_eq_true, Bool.and_eq_true, Nat.beq_eq] at e
      exact fB2 c k (by omega) (by omega)
  · refine RM_congr (fun c k e => ?_) (fun c k e => ?_) h8
    · simp only [aM, Bool.or_eq_true, Bool.and_eq_true, Nat.beq_eq] at e
      exact fA2 c k (by omega) (by omega)
    · simp only [bM, Bool.or_eq_true, Bool.and_eq_true, Nat.beq_eq] at e
      exact fB2 c k (by omega) (by omega)
  · intro c k e
    simp only [mK, Bool.and_eq_true, Nat.ble_eq] at e
    exact fA2 c k (by omega) (by omega)
  · intro c k e
    simp only [mM, Bool.or_eq_true, Nat.ble_eq] at e
    exact fB2 c k (by omega) (by omega)
  · rintro N - hN
    obtain ⟨c1, c2, c3⟩ := hN.mono (show N ≤ N + 1000 by omega)
    refine ⟨?_, ?_, ?_⟩
    · show ∃ c, c ≤ N + 1000 ∧ B2 218 9 = nI c
      rw [hB2, mrow_in, if_pos (by omega)]
      exact c2 (p - 1) (by omega)
    · intro j hj
      show ∃ c, c ≤ N + 1000 ∧ B2 219 (174 * j + 9) = nI c
      rw [fB2 219 _ (by omega) (by omega)]; exact c2 j hj
    · show ∃ c, c ≤ N + 1000 ∧ B2 251 9 = nI c
      rw [fB2 251 9 (by omega) (by omega)]; exact c3
end PmOps3
