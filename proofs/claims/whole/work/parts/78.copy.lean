section PmCopy
theorem sim_of {A B : Mm} (x y : Int32) (h : RR A B) : Sim A B ((fK_of x y A).bind fun v => some (v, A)) (fM_of x y B) := by
  have h0 := h
  obtain ⟨⟨n, ⟨⟨m, r, hh, ⟨n1, n2, n3⟩, ⟨b1, b2, b3, b4, b5⟩, -⟩, hd, -⟩, -⟩, ⟨-, -, -, t1, t2⟩, -⟩ := h0
  have n2' : A 2 0 = nI n := n2
  have b2' : A 8 0 = nI m := b2
  have m1 : mput B 217 0 0 217 6 = nI n := hd
  unfold Sim fK_of fM_of
  rcases isDoor_eq n1 n2' m1 x with ⟨i1, i2, d, d1, rfl⟩ | ⟨i1, i2⟩
  rotate_left
  · rw [i1]
    refine go_bind.mpr ?_
    refine go_bind.mpr ?_
    refine Go.some ?_
    refine Go.yes (by first | rfl | (simp; done)) ?_
    refine Go.some ?_
    refine Go.some ?_
    refine Go.yes (i2) ?_
    refine Go.some ?_
    exact ⟨rfl, fin_0 h⟩
  rw [i1]
  have i2' : ¬ fM_isDoor (nI d) (mput B 217 0 0) = 0 := by rw [i2]; decide
  have jd : jix (nI d) = d := jix_nI (by omega)
  have bd : inb (nI d) 12 := (inb_nI (by omega)).mpr (by omega)
  have e18 : (18 : Int32) + nI d = nI (18 + d) := nI_add 18 d
  have e30 : (30 : Int32) + nI d = nI (30 + d) := nI_add 30 d
  have e42 : (42 : Int32) + nI d = nI (42 + d) := nI_add 42 d
  have q := n3 d (by omega)
  simp only [Nat.reduceAdd] at q
  refine go_bind.mpr ?_
  refine go_bind.mpr ?_
  refine Go.some ?_
  refine Go.no (by first | decide | (simp; done)) ?_
  by_cases y0 : y = 0
  · refine Go.yes (y0) ?_
    refine Go.gd (bd) ?_
    refine Go.some ?_
    refine Go.some ?_
    refine Go.no (i2') ?_
    refine Go.yes (y0) ?_
    refine Go.gd (by rw [e18, inb_nI (by omega)]; omega) ?_
    refine Go.some ?_
    refine ⟨?_, fin_0 h⟩
    show A 3 (jix (nI d)) = mput B 217 0 0 218 (jix (18 + nI d))
    rw [e18, jd, jix_nI (by omega), mput_r (by omega)]
    exact q.1
  by_cases y1 : y = 1
  · refine Go.no (y0) ?_
    refine Go.yes (y1) ?_
    refine Go.gd (bd) ?_
    refine Go.some ?_
    refine Go.some ?_
    refine Go.no (i2') ?_
    refine Go.no (y0) ?_
    refine Go.yes (y1) ?_
    refine Go.gd (bd) ?_
    refine Go.some ?_
    refine ⟨?_, fin_0 h⟩
    show A 4 (jix (nI d)) = mput B 217 0 0 221 (jix (nI d))
    rw [jd, mput_r (by omega)]
    exact q.2.1
  by_cases y2 : y = 2
  · refine Go.no (y0) ?_
    refine Go.no (y1) ?_
    refine Go.yes (y2) ?_
    refine Go.gd (bd) ?_
    refine Go.some ?_
    refine Go.some ?_
    refine Go.no (i2') ?_
    refine Go.no (y0) ?_
    refine Go.no (y1) ?_
    refine Go.yes (y2) ?_
    refine Go.gd (by rw [e30, inb_nI (by omega)]; omega) ?_
    refine Go.some ?_
    refine ⟨?_, fin_0 h⟩
    show A 5 (jix (nI d)) = mput B 217 0 0 218 (jix (30 + nI d))
    rw [e30, jd, jix_nI (by omega), mput_r (by omega)]
    exact q.2.2.1
  by_cases y3 : y = 3
  · refine Go.no (y0) ?_
    refine Go.no (y1) ?_
    refine Go.no (y2) ?_
    refine Go.yes (y3) ?_
    refine Go.gd (bd) ?_
    refine Go.some ?_
    refine Go.some ?_
    refine Go.no (i2') ?_
    refine Go.no (y0) ?_
    refine Go.no (y1) ?_
    refine Go.no (y2) ?_
    refine Go.yes (y3) ?_
    refine Go.gd (by rw [e42, inb_nI (by omega)]; omega) ?_
    refine Go.some ?_
    refine ⟨?_, fin_0 h⟩
    show A 6 (jix (nI d)) = mput B 217 0 0 218 (jix (42 + nI d))
    rw [e42, jd, jix_nI (by omega), mput_r (by omega)]
    exact q.2.2.2.1
  by_cases y4 : y = 4
  · refine Go.no (y0) ?_
    refine Go.no (y1) ?_
    refine Go.no (y2) ?_
    refine Go.no (y3) ?_
    refine Go.yes (y4) ?_
    refine go_bind.mpr ?_
    rw [countFor_eq (nI d) b1 b2']
    refine Go.some ?_
    refine Go.some ?_
    refine Go.some ?_
    refine Go.no (i2') ?_
    refine Go.no (y0) ?_
    refine Go.no (y1) ?_
    refine Go.no (y2) ?_
    refine Go.no (y3) ?_
    refine Go.yes (y4) ?_
    refine go_bind.mpr ?_
    rw [lettersFor_eq (nI d) b1 (show mput B 217 0 0 218 10 = nI m from b3)]
    refine Go.some ?_
    refine Go.some ?_
    refine ⟨?_, fin_0 h⟩
    show nI _ = nI _
    congr 1
    refine cnt_congr fun i hi => ?_
    rw [mput_r (by omega)]
    exact (b5 i hi).2.1
  refine Go.no (y0) ?_
  refine Go.no (y1) ?_
  refine Go.no (y2) ?_
  refine Go.no (y3) ?_
  refine Go.no (y4) ?_
  have t10 : Int32.toInt 10 = 10 := by decide
  have z0 : Int32.toInt 0 = 0 := by decide
  have h9 : (9 : Int32) + nI n = nI (9 + n) := nI_add 9 n
  by_cases y10 : y < 10
  · refine Go.yes (y10) ?_
    refine Go.some ?_
    refine Go.some ?_
    refine Go.no (i2') ?_
    refine Go.no (y0) ?_
    refine Go.no (y1) ?_
    refine Go.no (y2) ?_
    refine Go.no (y3) ?_
    refine Go.no (y4) ?_
    rw [isIn_eq, m1]
    rcases within_cases y 10 (9 + nI n) with ⟨w, w1, w2⟩ | ⟨w, -⟩
    · rw [i32_lt] at y10; omega
    · refine Go.yes (w) ?_
      refine Go.some ?_
      exact ⟨rfl, fin_0 h⟩
  have yl : 10 ≤ y.toInt := by rw [i32_lt] at y10; omega
  have ys : (y - 10).toInt = y.toInt - 10 := by
    have := y.toInt_lt
    rw [i32_sub (by omega) (by omega), t10]
  refine Go.no (y10) ?_
  refine go_bind.mpr ?_
  have mI : fM_isIn y 10 (9 + mput B 217 0 0 217 6) = fK_isWithin y 10 (nI (9 + n)) := by rw [isIn_eq, m1, h9]
  rcases isDoor_eq n1 n2' m1 (y - 10) with ⟨j1, -, e, e1, e2⟩ | ⟨j1, j2⟩
  · rw [j1]
    have ye : y = nI (10 + e) := by
      apply i32_eq.mpr
      rw [nI_toInt' (by omega)]
      have := congrArg Int32.toInt e2
      rw [ys, nI_toInt' (by omega)] at this
      omega
    subst ye
    refine Go.some ?_
    refine Go.no (by first | decide | (simp; done)) ?_
    refine go_bind.mpr ?_
    rw [e2]
    unfold fT_streetBetween
    have i3 : nI d * 12 + nI e = nI (d * 12 + e) := by rw [lit_nI, nI_mul', nI_add]
    have i4 : (12 * nI d + nI (10 + e)) - 10 = nI (d * 12 + e) := by
      rw [lit_nI, nI_mul', nI_add, lit_nI, nI_sub' (by omega)]
      congr 1; omega
    have w : fK_isWithin (nI (10 + e)) 10 (nI (9 + n)) = 1 := by
      rcases within_cases (nI (10 + e)) 10 (nI (9 + n)) with ⟨w, -⟩ | ⟨-, w⟩
      · exact w
      · exfalso; apply w; rw [nI_toInt' (by omega), nI_toInt' (by omega)]; omega
    refine Go.gd (by rw [i3, inb_nI (by omega)]; omega) ?_
    have jj : jix (nI (d * 12 + e)) = d * 12 + e := jix_nI (by omega)
    rw [i3, jj]
    have t := (t2 (d * 12 + e) (by omega)).1
    simp only [Nat.reduceAdd] at t
    by_cases v0 : A 137 (d * 12 + e) = 0
    · refine Go.yes (v0) ?_
      refine Go.some ?_
      refine Go.some ?_
      refine Go.some ?_
      refine Go.no (i2') ?_
      refine Go.no (y0) ?_
      refine Go.no (y1) ?_
      refine Go.no (y2) ?_
      refine Go.no (y3) ?_
      refine Go.no (y4) ?_
      refine Go.no (by rw [mI, w]; decide) ?_
      refine Go.gd (by rw [i4, inb_nI (by omega)]; omega) ?_
      refine Go.yes (by rw [i4, jj, mput_r (by omega), ← t]; exact v0) ?_
      refine Go.some ?_
      exact ⟨rfl, fin_0 h⟩
    · refine Go.no (v0) ?_
      refine Go.some ?_
      refine Go.some ?_
      refine Go.some ?_
      refine Go.no (i2') ?_
      refine Go.no (y0) ?_
      refine Go.no (y1) ?_
      refine Go.no (y2) ?_
      refine Go.no (y3) ?_
      refine Go.no (y4) ?_
      refine Go.no (by rw [mI, w]; decide) ?_
      refine Go.gd (by rw [i4, inb_nI (by omega)]; omega) ?_
      refine Go.no (by rw [i4, jj, mput_r (by omega), ← t]; exact v0) ?_
      refine Go.some ?_
      refine ⟨?_, fin_0 h⟩
      rw [i4, jj, mput_r (by omega)]
      exact t
  · rw [j1]
    have w : fK_isWithin y 10 (nI (9 + n)) = 0 := by
      rcases within_cases y 10 (nI (9 + n)) with ⟨w, w1, w2⟩ | ⟨w, -⟩
      · exfalso
        rw [nI_toInt' (by omega)] at w2
        have := below_cases (y - 10) (n := n) (by omega)
        rw [door_some, n2'] at j1
        rcases this with ⟨q1, -⟩ | ⟨-, q2⟩
        · rw [q1] at j1; cases j1
        · apply q2
          exact ⟨(y.toInt - 10).toNat, by omega, i32_nI (by rw [ys]; omega) (by omega)⟩
      · exact w
    refine Go.some ?_
    refine Go.yes (by first | rfl | (simp; done)) ?_
    refine Go.some ?_
    refine Go.some ?_
    refine Go.no (i2') ?_
    refine Go.no (y0) ?_
    refine Go.no (y1) ?_
    refine Go.no (y2) ?_
    refine Go.no (y3) ?_
    refine Go.no (y4) ?_
    refine Go.yes (by rw [mI, w]) ?_
    refine Go.some ?_
    exact ⟨rfl, fin_0 h⟩
/-! copying a world -/
def mO (w : Nat) (c k : Nat) : Bool := !(Nat.ble w c && Nat.ble c (w + 14)) || (Nat.beq c w && (Nat.ble k 3 || Nat.beq k 13))
def Cpy (M M' : Mm) (w v : Nat) : Prop := M' (w + 1) 0 = M (v + 1) 0 ∧ (∀ k, k < 12 → M' (w + 2) k = M (v + 2) k ∧ M' (w + 3) k = M (v + 3) k ∧ M' (w + 4) k = M (v + 4) k ∧ M' (w + 5) k = M (v + 5) k) ∧
  (M' (w + 7) 0 = M (v + 7) 0 ∧ M' (w + 7) 1 = M (v + 7) 1) ∧ (∀ k, k < 24 → M' (w + 8) k = M (v + 8) k ∧ M' (w + 9) k = M (v + 9) k ∧ M' (w + 10) k = M (v + 10) k ∧ M' (w + 11) k = M (v + 11) k ∧ M' (w + 12) k = M (v + 12) k) ∧
  (∀ k, k < 7 → M' (w + 13) k = M (v + 13) k) ∧ (M' w 4 = M v 4 ∧ M' w 5 = M v 5 ∧ M' w 6 = M v 6 ∧ M' w 7 = M v 7 ∧ M' w 8 = M v 8 ∧ M' w 9 = M v 9 ∧ M' w 10 = M v 10 ∧ M' w 11 = M v 11 ∧ M' w 12 = M v 12) ∧
  FB (mO w) M M' ∧ (kbl w = 600 → kbl v = 600 → ∀ k, k < 600 → M' (w + 14) k = M (v + 14) k) ∧ ((kbl w = 0 ∨ kbl v = 0) → M' (w + 14) = M (w + 14))
theorem WR_cpy {M M' : Mm} {w v n : Nat} {ρ lv : Nat → Int32} (h : Cpy M M' w v) (hr : WR M v ρ lv n) : WR M' w ρ lv n := by
  obtain ⟨c1, c2, ⟨c3, c3'⟩, c4, c5, ⟨c6a, c6b, c6c, c6d, c6e, c6f, c6g, c6h, c6i⟩, -⟩ := h
  obtain ⟨m, r, hh, ⟨d1, d2, d3⟩, ⟨b1, b2, b3, b4, b5⟩, s1, s2, s3, s4, s5, s6, s7, s8, s9, s10, s11, s12, s13, s14⟩ := hr
  refine ⟨m, r, hh, ⟨d1, c1.trans d2, fun d hd => ?_⟩, ⟨b1, c3.trans b2, b3, c3'.trans b4, fun i hi => ?_⟩, s1, s2, fun k hk => (c5 k hk).trans (s3 k hk), c6a.trans s4, s5, c6b.trans s6, s7, c6c.trans s8, c6d.trans s9, c6e.trans s10, c6f.trans s11, c6g.trans s12, c6h.trans s13, c6i.trans s14⟩
  · obtain ⟨q1, q2, q3, q4⟩ := c2 d hd
    rw [q1, q2, q3, q4]; exact d3 d hd
  · obtain ⟨q1, q2, q3, q4, q5⟩ := c4 i (by omega)
    unfold WL
    rw [q1, q2, q3, q4, q5]; exact b5 i hi
theorem fb_put' {S : Nat → Nat → Bool} {M0 M : Mm} {a k : Nat} {v : Int32} (h : FB S M0 M) (ha : S a k = false) : FB S M0 (mput M a k v) := fb_put h ha
theorem mO_out {w c : Nat} (h1 : w + 1 ≤ c) (h2 : c ≤ w + 14) (k : Nat) : mO w c k = false := by
  have h3 : Nat.ble w c = true := Nat.ble_eq.mpr (by omega)
  have h4 : Nat.ble c (w + 14) = true := Nat.ble_eq.mpr h2
  have h5 : Nat.beq c w = false := by
    cases e : Nat.beq c w
    · rfl
    · have := Nat.eq_of_beq_eq_true e; omega
  simp [mO, h3, h4, h5]
theorem mO_sc {w k : Nat} (h1 : 4 ≤ k) (h2 : k ≤ 12) : mO w w k = false := by
  have h3 : Nat.ble w w = true := Nat.ble_eq.mpr (by omega)
  have h4 : Nat.ble w (w + 14) = true := Nat.ble_eq.mpr (by omega)
  have h5 : Nat.ble k 3 = false := by
    cases e : Nat.ble k 3
    · rfl
    · have := Nat.ble_eq.mp e; omega
  have h6 : Nat.beq k 13 = false := by
    cases e : Nat.beq k 13
    · rfl
    · have := Nat.eq_of_beq_eq_true e; omega
  simp [mO, h3, h4, h5, h6]
theorem kbl_cases (w : Nat) : kbl w = 0 ∨ kbl w = 600 := by unfold kbl; split <;> simp
def scp (M : Mm) (w v k : Nat) : Mm := mput M w k (M v k)
theorem scp_r {M : Mm} {w v k c : Nat} (h : c ≠ w) : scp M w v k c = M c := mput_r h
theorem scp_s {M : Mm} {w v k j : Nat} (h : j ≠ k) : scp M w v k w j = M w j := mput_s h
theorem scp_same {M : Mm} {w v k : Nat} : scp M w v k w k = M v k := mput_same _ _ _ _
theorem fb_scp {S : Nat → Nat → Bool} {M0 M : Mm} {w v k : Nat} (h : FB S M0 M) (ha : S w k = false) : FB S M0 (scp M w v k) := fb_put h ha
theorem copyD_eq (w v : Nat) (M : Mm) : fD_copyFrom w v M = mcp (mcp (mcp (mcp (scp M w v 0) (v + 1) (w + 1) 0 0 12) (v + 2) (w + 2) 0 0 12) (v + 3) (w + 3) 0 0 12) (v + 4) (w + 4) 0 0 12 := rfl
theorem copyB_eq (w v : Nat) (M : Mm) : fB_copyFrom w v M = mcp (mcp (mcp (mcp (mcp (scp (scp M w v 0) w v 1) (v + 1) (w + 1) 0 0 24) (v + 2) (w + 2) 0 0 24) (v + 3) (w + 3) 0 0 24) (v + 4) (w + 4) 0 0 24) (v + 5) (w + 5) 0 0 24 := rfl
def cpyT (w v : Nat) (N : Mm) : Mm := scp (scp (scp (scp (scp (scp (scp (scp (scp N w v 4) w v 5) w v 6) w v 7) w v 8) w v 9) w v 10) w v 11) w v 12
def cpyM (w v L : Nat) (M : Mm) : Mm := mcp (mcp (fB_copyFrom (w + 7) (v + 7) (fD_copyFrom (w + 1) (v + 1) M)) (v + 13) (w + 13) 0 0 7) (v + 14) (w + 14) 0 0 L
theorem cpyT_r {w v : Nat} {N : Mm} {c : Nat} (h : c ≠ w) : cpyT w v N c = N c := by
  unfold cpyT
  rw [scp_r h, scp_r h, scp_r h, scp_r h, scp_r h, scp_r h, scp_r h, scp_r h, scp_r h]
theorem cpyT_w {w v : Nat} {N : Mm} (h : v ≠ w) : ∀ k, 4 ≤ k → k ≤ 12 → cpyT w v N w k = N v k := by
  intro k h1 h2
  unfold cpyT
  have : k = 4 ∨ k = 5 ∨ k = 6 ∨ k = 7 ∨ k = 8 ∨ k = 9 ∨ k = 10 ∨ k = 11 ∨ k = 12 := by omega
  rcases this with rfl | rfl | rfl | rfl | rfl | rfl | rfl | rfl | rfl <;> simp (disch := omega) only [scp_s, scp_same, scp_r]
theorem copy_eq (w v : Nat) (M : Mm) : fW_copyFrom w v M = (if ¬ (0 : Int32) < 0 ∧ ¬ (0 : Int32) < 0 ∧ ¬ ((jmin (nI (kbl w)) (nI (kbl v))) : Int32) < 0 ∧ jix 0 + jix (jmin (nI (kbl w)) (nI (kbl v))) ≤ kbl v ∧ jix 0 + jix (jmin (nI (kbl w)) (nI (kbl v))) ≤ kbl w then
  some (cpyT w v (cpyM w v (jix (jmin (nI (kbl w)) (nI (kbl v)))) M)) else none) := rfl
theorem copy_go {M : Mm} {w v : Nat} (hs : w + 14 < v ∨ v + 14 < w) : Go (fW_copyFrom w v M) (fun M' => Cpy M M' w v) := by
  have guard : ∀ a b : Nat, (a = 0 ∨ a = 600) → (b = 0 ∨ b = 600) → ¬ (0 : Int32) < 0 ∧ ¬ (0 : Int32) < 0 ∧ ¬ (jmin (nI a) (nI b) : Int32) < 0 ∧ jix 0 + jix (jmin (nI a) (nI b)) ≤ b ∧ jix 0 + jix (jmin (nI a) (nI b)) ≤ a := by
    rintro a b (rfl | rfl) (rfl | rfl) <;> decide
  rw [copy_eq, if_pos (guard _ _ (kbl_cases w) (kbl_cases v))]
  refine Go.some ?_
  have hvw : v ≠ w := by omega
  have z : ∀ a b : Nat, (a = 0 ∨ a = 600) → (b = 0 ∨ b = 600) → (a = 0 ∨ b = 0) → jix (jmin (nI a) (nI b)) = 0 := by
    rintro a b (rfl | rfl) (rfl | rfl) (h | h) <;> first | omega | decide
  have z6 : ∀ a b : Nat, a = 600 → b = 600 → jix (jmin (nI a) (nI b)) = 600 := by
    rintro a b rfl rfl; decide
  have zk := z (kbl w) (kbl v) (kbl_cases w) (kbl_cases v)
  have z6k := z6 (kbl w) (kbl v)
  clear guard z z6
  generalize jix (jmin (nI (kbl w)) (nI (kbl v))) = L at *
  have hN : cpyM w v L M = mcp (mcp (mcp (mcp (mcp (mcp (mcp (scp (scp (mcp (mcp (mcp (mcp (scp M (w + 1) (v + 1) 0) (v + 2) (w + 2) 0 0 12) (v + 3) (w + 3) 0 0 12) (v + 4) (w + 4) 0 0 12) (v + 5) (w + 5) 0 0 12) (w + 7) (v + 7) 0) (w + 7) (v + 7) 1) (v + 8) (w + 8) 0 0 24) (v + 9) (w + 9) 0 0 24) (v + 10) (w + 10) 0 0 24) (v + 11) (w + 11) 0 0 24) (v + 12) (w + 12) 0 0 24) (v + 13) (w + 13) 0 0 7) (v + 14) (w + 14) 0 0 L := by
    unfold cpyM
    rw [copyD_eq, copyB_eq]
  have r : ∀ c, c ≠ w → cpyT w v (cpyM w v L M) c = cpyM w v L M c := fun c h => cpyT_r h
  have rv : ∀ k, cpyM w v L M v k = M v k := fun k => by rw [hN]; simp (disch := omega) only [mcp_r, scp_r]
  have t : ∀ k, 4 ≤ k → k ≤ 12 → cpyT w v (cpyM w v L M) w k = M v k := fun k h1 h2 => by rw [cpyT_w hvw k h1 h2, rv]
  refine ⟨?_, fun k hk => ⟨?_, ?_, ?_, ?_⟩, ⟨?_, ?_⟩, fun k hk => ⟨?_, ?_, ?_, ?_, ?_⟩, fun k hk => ?_, ⟨t 4 (by omega) (by omega), t 5 (by omega) (by omega), t 6 (by omega) (by omega), t 7 (by omega) (by omega), t 8 (by omega) (by omega), t 9 (by omega) (by omega), t 10 (by omega) (by omega), t 11 (by omega) (by omega), t 12 (by omega) (by omega)⟩, ?_, fun a b k hk => ?_, fun a => ?_⟩
  all_goals try (rw [r _ (by omega), hN]; simp (disch := omega) only [mcp_r, mcp_row, scp_r, scp_s, scp_same]; done)
  · have o := fun c h1 h2 => mO_out (w := w) (c := c) h1 h2
    have p := fun k h1 h2 => mO_sc (w := w) (k := k) h1 h2
    unfold cpyT
    refine fb_scp (fb_scp (fb_scp (fb_scp (fb_scp (fb_scp (fb_scp (fb_scp (fb_scp ?_ (p _ (by omega) (by omega))) (p _ (by omega) (by omega))) (p _ (by omega) (by omega))) (p _ (by omega) (by omega))) (p _ (by omega) (by omega))) (p _ (by omega) (by omega))) (p _ (by omega) (by omega))) (p _ (by omega) (by omega))) (p _ (by omega) (by omega))
    rw [hN]
    refine fb_cp (fb_cp (fb_cp (fb_cp (fb_cp (fb_cp (fb_cp (fb_scp (fb_scp (fb_cp (fb_cp (fb_cp (fb_cp (fb_scp (fb_rfl _ _) (o _ (by omega) (by omega) _)) (o _ (by omega) (by omega))) (o _ (by omega) (by omega))) (o _ (by omega) (by omega))) (o _ (by omega) (by omega))) (o _ (by omega) (by omega) _)) (o _ (by omega) (by omega) _)) (o _ (by omega) (by omega))) (o _ (by omega) (by omega))) (o _ (by omega) (by omega))) (o _ (by omega) (by omega))) (o _ (by omega) (by omega))) (o _ (by omega) (by omega))) (o _ (by omega) (by omega))
  · rw [r _ (by omega), hN, zk a]
    funext k
    rw [mcp_out _ _ _ _ _ (by omega)]
    simp (disch := omega) only [mcp_r, scp_r]
end PmCopy
