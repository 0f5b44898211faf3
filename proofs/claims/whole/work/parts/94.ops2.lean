section PmOps2
variable {β : Nat → Int32}
theorem CN_0 {N : Nat} {B : Mm} (h : CN N B) : CN N (mput B 217 0 0) := by
  unfold CN at *
  rw [mput_r (show (218 : Nat) ≠ 217 by omega), mput_r (show (219 : Nat) ≠ 217 by omega), mput_r (show (251 : Nat) ≠ 217 by omega)]
  exact h
theorem kf_mf {A B A1 B1 A2 B2 : Mm} (k1 : FB aKp A A1) (k2 : FB bKp (mput B 217 0 0) B1) (k3 : KF A1 A2) (k4 : MF B1 B2) : KF A A2 ∧ MF B B2 :=
  ⟨(kf_keep k1).trans k3, FB.trans (FB.trans (fb_put (fb_rfl _ _) rfl) (mf_keep k2)) k4⟩
theorem sim_rain {A B : Mm} (x : Int32) (h : RR A B) : Sim A B (fK_rain x A) (fM_rain x B) := by
  have h0 : RR A (mput B 217 0 0) := (fin_0 h).1
  unfold Sim fK_rain fM_rain
  simp only [isIn_eq]
  rcases within_cases x 0 9 with ⟨w, w1, w2⟩ | ⟨w, -⟩
  rotate_left
  · refine Go.yes (w) ?_
    refine Go.some ?_
    refine Go.yes (w) ?_
    refine Go.some ?_
    exact ⟨rfl, fin_0 h⟩
  obtain ⟨A1, a1, B1, b1, r1, k1, k2, k3⟩ := rr_keep h0
  obtain ⟨n, m, r, hh, d1, hn⟩ := dr_of (β := fun _ => 0) r1
  have d2 : DR 1 (fun _ => 0) (mput A1 1 10 x) (mput B1 218 8 x) n m r hh := by
    refine DR_sc (Or.inl rfl) d1 (fun c k q1 q2 => mput_q (by omega)) (fun c k q1 q2 => mput_q (by omega)) ?_
    obtain ⟨s1, s2, s3, s4, s5, s6, s7, s8, s9, s10, s11, s12, s13, s14⟩ := d1.2.2.1
    refine ⟨s1, s2, fun k hk => ?_, ?_⟩
    · simp (disch := omega) only [mput_q]; exact s3 k hk
    · simp [mput]; exact ⟨s4, s5, s6, s7, s8, s9, s10, s11, s13, s14⟩
  obtain ⟨y1, y2, y3⟩ := rr_of r1 hn d2 rfl (fb_put (fb_rfl _ _) rfl) (fb_put (fb_rfl _ _) rfl)
  obtain ⟨z1, z2⟩ := kf_mf k1 k2 y2 y3
  refine Go.no (by rw [w]; decide) ?_
  refine go_bind.mpr ?_
  rw [a1]
  refine Go.some ?_
  refine Go.some ?_
  refine Go.no (by rw [w]; decide) ?_
  refine go_bind.mpr ?_
  rw [b1]
  refine Go.some ?_
  refine Go.some ?_
  refine ⟨rfl, y1, z1, z2, fun N _ hN => ?_⟩
  have := (k3 N (CN_0 hN)).mono (show N ≤ N + 1000 by omega)
  unfold CN at *
  dsimp only
  rw [mput_s (show (9 : Nat) ≠ 8 by omega), mput_r (show (219 : Nat) ≠ 218 by omega), mput_r (show (251 : Nat) ≠ 218 by omega)]
  exact this
theorem cn_come {N : Nat} {B1 B2 : Mm} {c : Nat} (h : CN N B1) (h9 : B2 218 9 = nI c) (hc : c ≤ N + 16) (b219 : B2 219 = B1 219) (b251 : B2 251 9 = B1 251 9) : CN (N + 16) B2 := by
  obtain ⟨-, d, e⟩ := h.mono (show N ≤ N + 16 by omega)
  exact ⟨⟨c, hc, h9⟩, by rw [b219]; exact d, by rw [b251]; exact e⟩
theorem det {α β : Type} {x : Option α} {y : α → Option β} {P Q : α → β → Prop} (h1 : Go x (fun p => Go (y p) (fun q => P p q))) (h2 : Go x (fun p => Go (y p) (fun q => Q p q))) : Go x (fun p => Go (y p) (fun q => P p q ∧ Q p q)) := by
  obtain ⟨p, e1, q, e2, hp⟩ := h1
  obtain ⟨p', e1', q', e2', hq⟩ := h2
  rw [e1] at e1'
  cases e1'
  rw [e2] at e2'
  cases e2'
  exact ⟨p, e1, q, e2, hp, hq⟩
theorem sim_post {A B : Mm} {N : Nat} (x y z : Int32) (h : RR A B) (hN : N < 2000000) (hc : CN N B) : Sim A B (fK_post x y z A) (fM_post x y z B) := by
  have h0 : RR A (mput B 217 0 0) := (fin_0 h).1
  obtain ⟨n, m, r, hh, d0, hn⟩ := dr_of (β := fun _ => 0) h0
  have n12 : n ≤ 12 := d0.1.1
  have n2 : A 2 0 = nI n := d0.1.2.1
  have m24 : m ≤ 24 := d0.2.1.1
  have a80 : A 8 0 = nI m := d0.2.1.2.1
  have b10 : mput B 217 0 0 218 10 = nI m := d0.2.1.2.2.1
  unfold Sim fK_post fM_post
  simp only [isIn_eq]
  rcases isDoor_eq n12 n2 hn x with ⟨i1, i2, d, hd, rfl⟩ | ⟨i1, i2⟩
  rotate_left
  · rw [i1]
    refine go_bind.mpr ?_
    refine Go.some ?_
    refine go_bind.mpr ?_
    refine Go.yes (by first | rfl | (simp; done)) ?_
    refine Go.some ?_
    refine Go.yes (by first | rfl | (simp; done)) ?_
    refine Go.some ?_
    refine Go.yes (i2) ?_
    refine Go.some ?_
    exact ⟨rfl, fin_0 h⟩
  rw [i1]
  have i2' : ¬ fM_isDoor (nI d) (mput B 217 0 0) = 0 := by rw [i2]; decide
  refine go_bind.mpr ?_
  refine Go.some ?_
  refine go_bind.mpr ?_
  refine Go.no (by first | decide | (simp; done)) ?_
  rw [kind_some]
  rcases within_cases y 0 6 with ⟨v, v1, v2⟩ | ⟨v, -⟩
  rotate_left
  · refine go_bind.mpr ?_
    refine Go.some ?_
    refine Go.yes (v) ?_
    refine Go.some ?_
    refine Go.yes (by first | rfl | (simp; done)) ?_
    refine Go.some ?_
    refine Go.no (i2') ?_
    refine Go.yes (v) ?_
    refine Go.some ?_
    exact ⟨rfl, fin_0 h⟩
  refine go_bind.mpr ?_
  refine Go.some ?_
  refine Go.no (by rw [v]; decide) ?_
  rcases within_cases z 1 99 with ⟨u, u1, u2⟩ | ⟨u, -⟩
  rotate_left
  · refine Go.yes (u) ?_
    refine Go.some ?_
    refine Go.yes (by first | rfl | (simp; done)) ?_
    refine Go.some ?_
    refine Go.no (i2') ?_
    refine Go.no (by rw [v]; decide) ?_
    refine Go.yes (u) ?_
    refine Go.some ?_
    exact ⟨rfl, fin_0 h⟩
  obtain ⟨κ, rfl, κ1, -⟩ := i32_ofs (x := y) (by simpa using v1)
  obtain ⟨μ, rfl, μ1, -⟩ := i32_ofs (x := z) (by have : Int32.toInt 1 = 1 := by decide
                                                 omega)
  have t6 : Int32.toInt 6 = 6 := by decide
  have t1 : Int32.toInt 1 = 1 := by decide
  have t99 : Int32.toInt 99 = 99 := by decide
  refine Go.no (by rw [u]; decide) ?_
  refine Go.some ?_
  refine Go.no (by first | decide | (simp; done)) ?_
  by_cases hm : m < 24
  rotate_left
  · refine Go.no (by rw [a80, lit_nI, nI_lt' (by omega) (by omega)]; exact hm) ?_
    refine Go.some ?_
    refine Go.no (i2') ?_
    refine Go.no (by rw [v]; decide) ?_
    refine Go.no (by rw [u]; decide) ?_
    refine Go.yes (by rw [b10, lit_nI, nI_eq' (by omega) (by omega)]; omega) ?_
    refine Go.some ?_
    exact ⟨rfl, fin_0 h⟩
  obtain ⟨A1, a1, B1, b1, r1, k1, k2, k3⟩ := rr_keep h0
  obtain ⟨n', m', r', hh', d1, hn1⟩ := dr_of (β := fun _ => 0) r1
  have mm : m' = m := by
    have e1 : B1 218 10 = nI m' := d1.2.1.2.2.1
    rw [k2 218 10 rfl, b10] at e1
    have := d1.2.1.1
    exact ((nI_eq' (by omega) (by omega)).mp e1).symm
  subst mm
  obtain ⟨⟨c, c1, c2⟩, -⟩ := k3 N (CN_0 hc)
  obtain ⟨A2, B2, r2, z1, z2, z3, z4, z5, z6, z7⟩ := come_sim (κ := κ) (μ := μ) (d := d) (Or.inl rfl) d1 hm (by omega) c2 (by omega) (by omega) (by omega) (by omega)
  obtain ⟨y1, y2, y3⟩ := rr_of r1 hn1 z3 rfl (z5.sub fun c k q => (mDD_bd q).1) (z6.sub fun c k q => (mDE_bd q).1)
  obtain ⟨x1, x2⟩ := kf_mf k1 k2 y2 y3
  refine Go.yes (by rw [a80, lit_nI, nI_lt' (by omega) (by omega)]; exact hm) ?_
  refine go_bind.mpr ?_
  rw [a1]
  refine Go.some ?_
  refine go_bind.mpr ?_
  rw [z1]
  refine Go.some ?_
  refine Go.some ?_
  refine Go.no (i2') ?_
  refine Go.no (by rw [v]; decide) ?_
  refine Go.no (by rw [u]; decide) ?_
  refine Go.no (by rw [b10, lit_nI, nI_eq' (by omega) (by omega)]; omega) ?_
  refine go_bind.mpr ?_
  rw [b1]
  refine Go.some ?_
  refine go_bind.mpr ?_
  rw [z2]
  refine Go.some ?_
  refine Go.some ?_
  refine ⟨rfl, y1, x1, x2, fun N' hN' hc' => ?_⟩
  obtain ⟨⟨c', c1', c2'⟩, -⟩ := k3 N' (CN_0 hc')
  have cc : c' = c := (nI_eq' (by omega) (by omega)).mp (c2'.symm.trans c2)
  exact (cn_come (k3 N' (CN_0 hc')) z4 (by omega) (z6.row fun _ => rfl) (z6 251 9 rfl)).mono (by omega)
theorem sim_days {A B : Mm} {N : Nat} (x : Int32) (h : RR A B) (hN : N < 2000000) (hc : CN N B) : Sim A B (fK_days x A) (fM_days x B) := by
  have h0 : RR A (mput B 217 0 0) := (fin_0 h).1
  obtain ⟨n, m, r, hh, d0, hn⟩ := dr_of (β := fun _ => 0) h0
  have day : A 1 11 = mput B 217 0 0 218 0 := d0.2.2.1.2.2.2.2.2.2.2.2.2.2.2.2.1
  unfold Sim fK_days fM_days
  simp only [isIn_eq]
  rcases within_cases x 1 60 with ⟨w, w1, w2⟩ | ⟨w, -⟩
  rotate_left
  · refine Go.yes (w) ?_
    refine Go.some ?_
    refine Go.yes (w) ?_
    refine Go.some ?_
    exact ⟨rfl, fin_0 h⟩
  refine Go.no (by rw [w]; decide) ?_
  by_cases hday : mput B 217 0 0 218 0 + x ≤ 9999
  rotate_left
  · refine Go.no (by rw [day]; exact hday) ?_
    refine Go.some ?_
    refine Go.no (by rw [w]; decide) ?_
    refine Go.no (hday) ?_
    refine Go.some ?_
    exact ⟨rfl, fin_0 h⟩
  have t1 : Int32.toInt 1 = 1 := by decide
  have t60 : Int32.toInt 60 = 60 := by decide
  obtain ⟨e, rfl, e1, -⟩ := i32_ofs (x := x) (by omega)
  have loop : ∀ N, N < 2000000 → CN N B → Go (lp 1000000 (fun s => fK_days_b31 (nI e) s.1 s.2.1 s.2.2) (0, 0, A)) (fun y => Go (lp 1000000 (fun s => fM_days_b36 (nI e) s.1 s.2.1 s.2.2) (0, 0, mput B 217 0 0)) (fun y' => (y.1 = y'.1 ∧ RR y.2 y'.2 ∧ KF A y.2 ∧ MF B y'.2) ∧ CN (N + 1000) y'.2)) := by
    intro N hN hc
    refine go_for2 (J := fun i s t => ∃ br A' B', s = (br, nI i, A') ∧ t = (br, nI i, B') ∧ RR A' B' ∧ KF A A' ∧ MF B B' ∧ CN (N + 16 * i) B') (e := e) ?_ ?_ (i := 0) (by omega) ⟨0, A, mput B 217 0 0, rfl, rfl, h0, fb_rfl _ _, fb_put (fb_rfl _ _) rfl, CN_0 hc⟩ (by omega)
    · rintro s t ⟨br, A', B', rfl, rfl, q1, q2, q3, q4⟩
      refine Go.yes (show nI e ≤ nI e from i32_le.mpr (Int.le_refl _)) (Go.some (Go.yes (show nI e ≤ nI e from i32_le.mpr (Int.le_refl _)) (Go.some ?_)))
      exact ⟨⟨rfl, q1, q2, q3⟩, q4.mono (by omega)⟩
    · rintro i s t hi ⟨br, A', B', rfl, rfl, q1, q2, q3, q4⟩
      obtain ⟨A1, a1, B1, b1, r1, k1, k2, k3⟩ := rr_keep q1
      obtain ⟨n', m', r', hh', d1, hn1⟩ := dr_of (β := fun _ => 0) r1
      have q5 := k3 _ q4
      have q5' := q5
      obtain ⟨⟨c, c1, c2⟩, -⟩ := q5'
      obtain ⟨⟨v, A2⟩, z1, ⟨v', B2⟩, z2, z3, ⟨m2, r2, h2, z4⟩, ⟨c', x1, x2⟩, z5, z6⟩ := day_sim (Or.inl rfl) d1 hn1 (by omega) c2
      have z3 : v = v' := z3
      subst z3
      dsimp only at z4 z5 z6 x2
      obtain ⟨y1, y2, y3⟩ := rr_of r1 hn1 z4 rfl z5 z6
      unfold fK_days_b31 fM_days_b36
      dsimp only
      refine Go.no (by rw [nI_le' (by omega) (by omega)]; omega) ?_
      rw [a1]
      refine go_bind.mpr ?_
      refine Go.some ?_
      rw [z1]
      refine go_bind.mpr ?_
      refine Go.some ?_
      refine Go.some ?_
      refine Go.no (by rw [nI_le' (by omega) (by omega)]; omega) ?_
      rw [b1]
      refine go_bind.mpr ?_
      refine Go.some ?_
      rw [z2]
      refine go_bind.mpr ?_
      refine Go.some ?_
      refine Go.some ?_
      rw [nI_1]
      refine ⟨br + v, A2, B2, rfl, rfl, y1, (q2.trans (kf_keep k1)).trans y2, (q3.trans (mf_keep k2)).trans y3, ?_⟩
      exact (cn_come q5 x2 (by omega) (z6.row fun _ => rfl) (z6 251 9 rfl)).mono (by omega)
  obtain ⟨y, l1, y', l2, ⟨l3, l4, l5, l6⟩, -⟩ := loop N hN hc
  refine Go.yes (by rw [day]; exact hday) ?_
  refine go_bind.mpr ?_
  rw [l1]
  refine Go.some ?_
  refine Go.some ?_
  refine Go.no (by rw [w]; decide) ?_
  refine Go.yes (hday) ?_
  refine go_bind.mpr ?_
  rw [l2]
  refine Go.some ?_
  refine Go.some ?_
  refine ⟨l3, l4, l5, l6, fun N' hN' hc' => ?_⟩
  obtain ⟨y2, j1, y2', j2, -, j4⟩ := loop N' hN' hc'
  rw [l1] at j1
  cases j1
  rw [l2] at j2
  cases j2
  exact j4
end PmOps2
