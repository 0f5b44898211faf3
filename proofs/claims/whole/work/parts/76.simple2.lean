section PmSimple2
theorem toInt_lit {n : Nat} (h : n < 2147483648) : (nI n).toInt = n := nI_toInt' h
theorem door_some (x : Int32) (A : Mm) : fK_isDoor x A = some (fK_isWithin x 0 (A 2 0 - 1)) := by
  unfold fK_isDoor
  rcases within_cases x 0 (A 2 0 - 1) with ⟨w, -⟩ | ⟨w, -⟩ <;> simp [w]
theorem nI_pred1 {n : Nat} (h : n < 2147483648) : (nI n - 1).toInt = (n : Int) - 1 := by
  have h1 : Int32.toInt 1 = 1 := by decide
  rw [i32_sub (by rw [nI_toInt' h, h1]; omega) (by rw [nI_toInt' h, h1]; omega), nI_toInt' h, h1]
/-- which numbers lie below n -/
theorem below_cases (x : Int32) {n : Nat} (hn : n < 2147483648) : (fK_isWithin x 0 (nI n - 1) = 1 ∧ ∃ d, d < n ∧ x = nI d) ∨ (fK_isWithin x 0 (nI n - 1) = 0 ∧ ¬ ∃ d, d < n ∧ x = nI d) := by
  have h0 : Int32.toInt 0 = 0 := by decide
  rcases within_cases x 0 (nI n - 1) with ⟨w, w1, w2⟩ | ⟨w, w1⟩
  · rw [nI_pred1 hn] at w2
    rw [h0] at w1
    obtain ⟨d, e, e2, -⟩ := i32_ofs (x := x) w1
    exact Or.inl ⟨w, d, by omega, e⟩
  · refine Or.inr ⟨w, fun ⟨d, h1, h2⟩ => w1 ?_⟩
    rw [h2, nI_pred1 hn, nI_toInt' (by omega), h0]
    omega
theorem isDoor_eq {A B : Mm} {n : Nat} (hn : n ≤ 12) (a : A 2 0 = nI n) (b : B 217 6 = nI n) (x : Int32) : (fK_isDoor x A = some 1 ∧ fM_isDoor x B = 1 ∧ ∃ d, d < n ∧ x = nI d) ∨ (fK_isDoor x A = some 0 ∧ fM_isDoor x B = 0) := by
  rw [door_some, a]
  unfold fM_isDoor
  rw [b]
  rcases below_cases x (n := n) (by omega) with ⟨w, d, h1, rfl⟩ | ⟨w, w1⟩
  · left
    refine ⟨by rw [w], ?_, d, h1, rfl⟩
    rw [if_neg (nI_nneg (by omega)), if_neg (by rw [nI_le' (by omega) (by omega)]; omega)]
  · right
    refine ⟨by rw [w], ?_⟩
    by_cases hx : x < 0
    · rw [if_pos hx]
    · rw [if_neg hx]
      obtain ⟨d, e, e2, e3⟩ := i32_ofs (x := x) (by rw [i32_lt] at hx; have : Int32.toInt 0 = 0 := by decide
                                                    omega)
      rw [if_pos]
      rw [e, nI_le' (by omega) (by omega)]
      exact Nat.le_of_not_lt fun q => w1 ⟨d, q, e⟩
theorem health_nI {h : Nat} (hh : h ≤ 99) : (99 : Int32) - nI (99 - h) = nI h := by
  rw [lit_nI, nI_sub' (by omega)]
  congr 1
  omega
theorem fin_sc {A A' B B' : Mm} {n m r hh : Nat} (h : RR A B) (hD : WD A' 1 (B' 218) (B' 221) n) (hB : WB A' 1 (B' 218) m) (hS : WS A' 1 (B' 218) r hh) (hd : B' 217 6 = nI n) (hk : ∀ k, k < 600 → A' 15 k = B' 222 k)
    (a0 : A' 31 0 = 0) (a1 : A' 31 1 = A 31 1) (b0 : B' 217 3 = 0) (a : FB aNW A A') (b : FB bNW B B') (b9 : B' 218 9 = B 218 9 := by simp (disch := omega) only [mput_q]) (b219 : B' 219 = B 219 := by simp (disch := omega) only [mput_r]) : RR A' B' ∧ KF A A' ∧ MF B B' ∧ CNs B B' := by
  have h0 := h
  obtain ⟨⟨n0, -, hP⟩, -⟩ := h0
  exact fin_w h ⟨n, ⟨⟨m, r, hh, hD, hB, hS⟩, hd, hk⟩, RP_forget hP a0 a1 b0⟩ a b (CNs_of b9 b219 (b 251 9 rfl))
theorem sim_door {A B : Mm} (x y z : Int32) (h : RR A B) : Sim A B (fK_door x y z A) (fM_door x y z B) := by
  have h0 := h
  obtain ⟨⟨n, ⟨⟨m, r, hh, hD, hB, hS⟩, hd, hk⟩, hP⟩, -⟩ := h0
  have hD0 := hD
  obtain ⟨n1, n2, n3⟩ := hD0
  unfold Sim fK_door fM_door
  rw [face_some]
  refine go_bind.mpr (Go.some (go_bind.mpr ?_))
  rcases within_cases x (-9) 9 with ⟨w, w1, w2⟩ | ⟨w, -⟩
  rotate_left
  · exact Go.yes w (Go.some (Go.yes rfl (Go.some (Go.yes (by rw [isIn_eq, w]) (Go.some ⟨rfl, fin_0 h⟩)))))
  refine Go.no (by rw [w]; decide) ?_
  rcases within_cases y 0 9 with ⟨v, v1, v2⟩ | ⟨v, -⟩
  rotate_left
  · exact Go.yes v (Go.some (Go.yes rfl (Go.some (Go.no (by rw [isIn_eq, w]; decide) (Go.yes (by rw [isIn_eq, v]) (Go.some ⟨rfl, fin_0 h⟩))))))
  refine Go.no (by rw [v]; decide) ?_
  rcases within_cases z 0 999 with ⟨u, u1, u2⟩ | ⟨u, -⟩
  rotate_left
  · exact Go.yes u (Go.some (Go.yes rfl (Go.some (Go.no (by rw [isIn_eq, w]; decide) (Go.no (by rw [isIn_eq, v]; decide) (Go.yes (by rw [isIn_eq, u]) (Go.some ⟨rfl, fin_0 h⟩)))))))
  refine Go.no (by rw [u]; decide) (Go.some (Go.no (by decide) ?_))
  have n2' : A 2 0 = nI n := n2
  have m1 : mput B 217 0 0 217 6 = nI n := hd
  by_cases hn : n < 12
  rotate_left
  · refine Go.no (by rw [n2', lit_nI, nI_lt' (by omega) (by omega)]; exact hn) (Go.some (Go.no (by rw [isIn_eq, w]; decide) (Go.no (by rw [isIn_eq, v]; decide) (Go.no (by rw [isIn_eq, u]; decide) (Go.yes ?_ (Go.some ⟨rfl, fin_0 h⟩))))))
    rw [m1, lit_nI, nI_eq' (by omega) (by omega)]; omega
  refine Go.yes (by rw [n2', lit_nI, nI_lt' (by omega) (by omega)]; exact hn) (go_bind.mpr ?_)
  unfold fD_add fP_forget
  have k1 : ∀ v, mput A 31 0 v 2 0 = nI n := fun v => by rw [mput_r (by omega)]; exact n2'
  have k2 : ∀ (M : Mm) b k v, M 2 0 = nI n → b ≠ 2 → mput M b k v 2 0 = nI n := fun M b k v e q => by rw [mput_r (by omega)]; exact e
  have k3 : ∀ (M : Mm) b k v, M 217 6 = nI n → b ≠ 217 → mput M b k v 217 6 = nI n := fun M b k v e q => by rw [mput_r (by omega)]; exact e
  refine Go.yes (by rw [k1, lit_nI, nI_lt' (by omega) (by omega)]; exact hn) ?_
  have jn : jix (nI n) = n := jix_nI (by omega)
  have bn : inb (nI n) 12 := (inb_nI (by omega)).mpr hn
  have b1 : ∀ c, c + n < 174 → inb (nI c + nI n) 174 := fun c hc => by rw [nI_add, inb_nI (by omega)]; exact hc
  have j1 : ∀ c, c + n < 174 → jix (nI c + nI n) = c + n := fun c hc => by rw [nI_add, jix_nI (by omega)]
  refine Go.gd (by rw [k1]; exact bn) (Go.gd (by rw [k2 _ _ _ _ (k1 _) (by omega)]; exact bn) (Go.gd (by rw [k2 _ _ _ _ (k2 _ _ _ _ (k1 _) (by omega)) (by omega)]; exact bn) (Go.gd (by rw [k2 _ _ _ _ (k2 _ _ _ _ (k2 _ _ _ _ (k1 _) (by omega)) (by omega)) (by omega)]; exact bn) (Go.some (Go.some ?_)))))
  refine Go.no (by rw [isIn_eq, w]; decide) (Go.no (by rw [isIn_eq, v]; decide) (Go.no (by rw [isIn_eq, u]; decide) (Go.no (by rw [m1, lit_nI, nI_eq' (by omega) (by omega)]; omega) ?_)))
  refine Go.gd (by rw [m1]; exact b1 18 (by omega)) (Go.gd (by rw [k3 _ _ _ _ m1 (by omega)]; exact b1 30 (by omega)) (Go.gd (by rw [k3 _ _ _ _ (k3 _ _ _ _ m1 (by omega)) (by omega)]; exact b1 42 (by omega)) (Go.gd (by rw [k3 _ _ _ _ (k3 _ _ _ _ (k3 _ _ _ _ m1 (by omega)) (by omega)) (by omega)]; exact bn) (Go.some ?_))))
  have q1 : ∀ k v, mput (mput A 31 0 0) 3 k v 2 0 = nI n := fun k v => k2 _ _ _ _ (k1 _) (by omega)
  have q2 : ∀ k v k' v', mput (mput (mput A 31 0 0) 3 k v) 4 k' v' 2 0 = nI n := fun k v k' v' => k2 _ _ _ _ (q1 _ _) (by omega)
  have q3 : ∀ k v k' v' k2' v2', mput (mput (mput (mput A 31 0 0) 3 k v) 4 k' v') 5 k2' v2' 2 0 = nI n := fun k v k' v' _ _ => k2 _ _ _ _ (q2 _ _ _ _) (by omega)
  have r1 : ∀ k v, mput (mput B 217 0 0) 218 k v 217 6 = nI n := fun k v => k3 _ _ _ _ m1 (by omega)
  have r2 : ∀ k v k' v', mput (mput (mput B 217 0 0) 218 k v) 218 k' v' 217 6 = nI n := fun k v k' v' => k3 _ _ _ _ (r1 _ _) (by omega)
  have r3 : ∀ k v k' v' k2' v2', mput (mput (mput (mput B 217 0 0) 218 k v) 218 k' v') 218 k2' v2' 217 6 = nI n := fun k v k' v' _ _ => k3 _ _ _ _ (r2 _ _ _ _) (by omega)
  have l18 : jix ((18 : Int32) + nI n) = 18 + n := j1 18 (by omega)
  have l30 : jix ((30 : Int32) + nI n) = 30 + n := j1 30 (by omega)
  have l42 : jix ((42 : Int32) + nI n) = 42 + n := j1 42 (by omega)
  simp only [Nat.reduceAdd, k1, q1, q2, q3, jn, m1, r1, r2, r3, l18, l30, l42]
  refine ⟨?_, fin_sc (n := n + 1) (m := m) (r := r) (hh := hh) h ?_ ?_ ?_ ?_ ?_ ?_ ?_ ?_ ?_ ?_⟩
  · simp [mput, n2', hd]
  · refine ⟨by omega, by simp [mput, n2', nI_1], fun d hd2 => ?_⟩
    have q := n3 d hd2
    simp only [Nat.reduceAdd] at q
    by_cases e : d = n
    · subst e
      have t1 : (30 : Nat) + d ≠ 18 + d := by omega
      have t2 : (42 : Nat) + d ≠ 18 + d := by omega
      have t3 : (18 : Nat) + d ≠ 30 + d := by omega
      have t4 : (42 : Nat) + d ≠ 30 + d := by omega
      have t5 : (18 : Nat) + d ≠ 42 + d := by omega
      have t6 : (30 : Nat) + d ≠ 42 + d := by omega
      simp [mput, t1, t2, t3, t4, t5, t6]
      exact ⟨⟨w1, w2⟩, by simpa using u1⟩
    · have t1 : (18 : Nat) + d ≠ 30 + n := by omega
      have t2 : (18 : Nat) + d ≠ 42 + n := by omega
      have t3 : (30 : Nat) + d ≠ 18 + n := by omega
      have t4 : (30 : Nat) + d ≠ 42 + n := by omega
      have t5 : (42 : Nat) + d ≠ 18 + n := by omega
      have t6 : (42 : Nat) + d ≠ 30 + n := by omega
      simp [mput, e, t1, t2, t3, t4, t5, t6]
      exact q
  · exact WB_congr (fun c h1 h2 => by simp (disch := omega) only [mput_r]) (fun k h1 => by simp (disch := omega) only [mput_q]) hB
  · exact WS_congr (by simp (disch := omega) only [mput_r]) (fun k h1 h2 => by simp (disch := omega) only [mput_q]) (fun k h1 => by simp (disch := omega) only [mput_q]) hS
  · simp [mput, hd, nI_1]
  · intro k h1; simp (disch := omega) only [mput_q]; exact hk k h1
  · simp [mput]
  · simp [mput]
  · simp [mput]
  · exact fb_put (fb_put (fb_put (fb_put (fb_put (fb_put (fb_rfl _ _) rfl) rfl) rfl) rfl) rfl) rfl
  · exact fb_put (fb_put (fb_put (fb_put (fb_put (fb_put (fb_put (fb_rfl _ _) rfl) rfl) rfl) rfl) rfl) rfl) rfl
theorem sim_look {A B : Mm} (x : Int32) (h : RR A B) : Sim A B (some (fK_look x A, A)) (some (fM_look x B)) := by
  have h0 := h
  obtain ⟨⟨n, ⟨⟨m, r, hh, ⟨d1, d2, -⟩, ⟨b1, b2, b3, -⟩, s1, s2, s3, s4, s5, s6, s7, s8, s9, s10, s11, s12, s13, s14⟩, hd, -⟩, p, q, p1, p2, p3, p4, p5, -⟩, ⟨l1, ⟨o1, -⟩, ⟨w1, -⟩, t1, -⟩, -⟩ := h0
  have d2' : A 2 0 = nI n := d2
  have b2' : A 8 0 = nI m := b2
  have l1' : A 124 0 = B 225 0 := l1.1
  unfold Sim
  refine Go.some (Go.some ?_)
  have key : (fM_look x B).2 = mput B 217 0 0 := by
    unfold fM_look
    simp only [apply_ite Prod.snd, ite_self]
  rw [key]
  refine ⟨?_, fin_0 h⟩
  show fK_look x A = (fM_look x B).1
  have y0 : fT_linesOf 0 A = A 124 0 := rfl
  have y1 : fT_linesOf 1 A = A 123 1 := rfl
  have y2 : fT_linesOf 2 A = A 123 6 := rfl
  have y3 : fT_linesOf 3 A = A 123 8 := rfl
  unfold fK_look fM_look fM_health
  simp only [y0, y1, y2, y3, mput_r (show (218 : Nat) ≠ 217 by omega), mput_r (show (225 : Nat) ≠ 217 by omega), mput_s (show (6 : Nat) ≠ 0 by omega), mput_s (show (3 : Nat) ≠ 0 by omega), mput_s (show (32 : Nat) ≠ 0 by omega), mput_s (show (34 : Nat) ≠ 0 by omega), mput_s (show (36 : Nat) ≠ 0 by omega), d2', b2', b3, s4, s5, s6, s7, s8, s9, s10, s11, s12, s13, s14, hd, p3, p5, l1', o1, w1, t1, health_nI s2, apply_ite Prod.fst]
theorem sim_given {A B : Mm} (x : Int32) (h : RR A B) : Sim A B ((fK_given x A).bind fun v => some (v, A)) (fM_given x B) := by
  have h0 := h
  obtain ⟨⟨n, ⟨⟨m, r, hh, -, -, s1, s2, s3, -⟩, -⟩, -⟩, -⟩ := h0
  unfold Sim fK_given fM_given
  rw [kind_some]
  refine go_bind.mpr (go_bind.mpr (Go.some ?_))
  rcases within_cases x 0 6 with ⟨w, w1, w2⟩ | ⟨w, -⟩
  rotate_left
  · exact Go.yes w (Go.some (Go.some (Go.yes (by rw [isIn_eq, w]) (Go.some ⟨rfl, fin_0 h⟩))))
  obtain ⟨a, rfl, a1, -⟩ := i32_ofs (x := x) (by simpa using w1)
  have ha : a < 7 := by have : Int32.toInt 6 = 6 := by decide
                        omega
  refine Go.no (by rw [w]; decide) (Go.gd ((inb_nI (by omega)).mpr ha) (Go.some (Go.some (Go.no (by rw [isIn_eq, w]; decide) (Go.gd ?_ (Go.some ⟨?_, fin_0 h⟩))))))
  · rw [lit_nI, nI_add, inb_nI (by omega)]; omega
  · show A 14 (jix (nI a)) = mput B 217 0 0 218 (jix (11 + nI a))
    rw [show (11 : Int32) + nI a = nI (11 + a) from nI_add 11 a, jix_nI (by omega), jix_nI (by omega), mput_r (by omega)]
    exact s3 a ha
theorem sim_book {A B : Mm} (x y : Int32) (h : RR A B) : Sim A B ((fK_book x y A).bind fun v => some (v, A)) (fM_book x y B) := by
  have h0 := h
  obtain ⟨⟨n, ⟨⟨m, r, hh, -, -, s1, s2, s3, s4, s5, -⟩, -, hk⟩, -⟩, -⟩ := h0
  unfold Sim fK_book fM_book
  refine go_bind.mpr ?_
  have e1 : mput B 217 0 0 218 2 = nI r := s5
  rw [s4]
  have e2 : fM_isIn x 0 (mput B 217 0 0 218 2 - 1) = fK_isWithin x 0 (nI r - 1) := by rw [isIn_eq, e1]
  rcases below_cases x (n := r) (by omega) with ⟨w, d, d1, rfl⟩ | ⟨w, w1⟩
  rotate_left
  · exact Go.yes w (Go.some (Go.some (Go.yes (by rw [e2, w]) (Go.some ⟨rfl, fin_0 h⟩))))
  refine Go.no (by rw [w]; decide) ?_
  rcases within_cases y 0 3 with ⟨v, v1, v2⟩ | ⟨v, -⟩
  rotate_left
  · exact Go.yes v (Go.some (Go.some (Go.no (by rw [e2, w]; decide) (Go.yes (by rw [isIn_eq, v]) (Go.some ⟨rfl, fin_0 h⟩)))))
  obtain ⟨a, rfl, a1, -⟩ := i32_ofs (x := y) (by simpa using v1)
  have ha : a < 4 := by have : Int32.toInt 3 = 3 := by decide
                        omega
  have i1 : nI d * 4 + nI a = nI (d * 4 + a) := by rw [lit_nI, nI_mul', nI_add]
  have i2 : 4 * nI d + nI a = nI (d * 4 + a) := by rw [lit_nI, nI_mul', nI_add, Nat.mul_comm]
  have i3 : inb (nI (d * 4 + a)) 600 := (inb_nI (by omega)).mpr (by omega)
  refine Go.no (by rw [v]; decide) (Go.gd (by rw [i1]; exact i3) (Go.some (Go.some (Go.no (by rw [e2, w]; decide) (Go.no (by rw [isIn_eq, v]; decide) (Go.gd (by rw [i2]; exact i3) (Go.some ⟨?_, fin_0 h⟩)))))))
  show A 15 (jix (nI d * 4 + nI a)) = mput B 217 0 0 222 (jix (4 * nI d + nI a))
  rw [i1, i2, mput_r (by omega), jix_nI (by omega)]
  exact hk _ (by omega)
theorem sim_fault {A B : Mm} (x : Int32) (h : RR A B) : Sim A B (some (fK_fault x A, A)) (some (fM_fault x B)) := by
  have h0 := h
  obtain ⟨-, -, -, -, ⟨f1, f2⟩, -⟩ := h0
  unfold Sim
  refine Go.some (Go.some ?_)
  have key : (fM_fault x B).2 = mput B 217 0 0 := by
    unfold fM_fault
    simp only [apply_ite Prod.snd, ite_self]
  rw [key]
  refine ⟨?_, fin_0 h⟩
  show fK_fault x A = (fM_fault x B).1
  unfold fK_fault fM_fault
  simp only [mput_s (show (30 : Nat) ≠ 0 by omega), mput_s (show (31 : Nat) ≠ 0 by omega), f1, f2, apply_ite Prod.fst]
theorem sim_end {A B : Mm} (x : Int32) (h : RR A B) : Sim A B (some (fK_end x A)) (some (fM_end x B)) := by
  have h0 := h
  obtain ⟨-, -, -, ⟨L, L1, L2, L3, L4⟩, -⟩ := h0
  unfold Sim fK_end fM_end
  refine Go.some (Go.some ?_)
  have e : mput B 217 0 0 217 10 = nI L := L3
  simp only [isIn_eq, e, L2]
  rcases within_nI x (b := L) (by omega) with ⟨w, d, d1, rfl⟩ | w
  · rw [w]
    rw [if_neg (by decide), if_neg (by decide)]
    refine ⟨rfl, fin_t h ?_ (fb_put (fb_rfl _ _) rfl) (fb_put (fb_put (fb_rfl _ _) rfl) rfl)⟩
    exact ⟨d, by omega, by simp [mput], by simp [mput], fun k hk => by
      obtain ⟨v, v1, v2, v3⟩ := L4 k (by omega)
      exact ⟨v, v1, by simp [mput]; exact v2, by simp [mput]; exact v3⟩⟩
  · rw [w, if_pos rfl, if_pos rfl]
    exact ⟨rfl, fin_0 h⟩
end PmSimple2
