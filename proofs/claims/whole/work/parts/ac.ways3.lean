section PmWays3
def PI (A B : Mm) (n i : Nat) : Prop := (∀ a b, a < i → b < n → EE A B (12 * a + b) 99) ∧ ∀ a, a < i → A 174 (12 * a + a) = nI 0 ∧ B 238 (12 * a + a) = nI 0
theorem PI.put {A B : Mm} {n i j : Nat} {x y : Int32} (h : PI A B n i) (hn : n ≤ 12) (hi : i < n) (hj : j < n) : PI (mput A 174 (12 * i + j) x) (mput B 238 (12 * i + j) y) n i :=
  ⟨fun a b ha hb => (h.1 a b ha hb).put (by omega), fun a ha => by rw [mput_s (by omega), mput_s (by omega)]; exact h.2 a ha⟩
theorem PI.putA {A B : Mm} {n i j : Nat} {x : Int32} (h : PI A B n i) (hn : n ≤ 12) (hi : i < n) (hj : j < n) : PI (mput A 174 (12 * i + j) x) B n i :=
  ⟨fun a b ha hb => by unfold EE; rw [mput_s (by omega)]; exact h.1 a b ha hb, fun a ha => by rw [mput_s (by omega)]; exact h.2 a ha⟩
theorem init_row {A B : Mm} {n i : Nat} (hn : n ≤ 12) (hi : i < n) (h6 : B 217 6 = nI n) (hs : ∀ k, k < 144 → A 137 k = B 235 k ∧ ∃ s, s ≤ 99 ∧ B 235 k = nI s) (h : PI A B n i) :
    Go (lp 1000000 (fun s => fY_measure_b10 (nI n) (nI i) s.1 s.2) (0, A)) (fun A' => Go (lp 1000000 (fun s => fM_findsWays_b12 (nI i) s.1 s.2) (0, B)) (fun B' => PI A' B' n i ∧ (∀ b, b < n → b ≠ i → EE A' B' (12 * i + b) 99) ∧ B' 238 (12 * i + i) = nI 0 ∧ WF A B A' B')) := by
  refine go_for2 (fun j s t => ∃ A1 B1, s = (nI j, A1) ∧ t = (nI j, B1) ∧ PI A1 B1 n i ∧ (∀ b, b < j → b ≠ i → EE A1 B1 (12 * i + b) 99) ∧ (i < j → B1 238 (12 * i + i) = nI 0) ∧ WF A B A1 B1) n ?_ ?_ (i := 0) (by omega) ⟨A, B, rfl, rfl, h, fun b hb => by omega, fun hb => by omega, WF.rfl' _ _⟩ (by omega)
  · rintro s t ⟨A1, B1, rfl, rfl, k1, k2, k3, w⟩
    unfold fY_measure_b10 fM_findsWays_b12
    dsimp only
    have hx : B1 217 6 ≤ nI n := by rw [w.2 217 (by omega), h6]; exact i32_le.mpr (Int.le_refl _)
    exact Go.yes (i32_le.mpr (Int.le_refl _)) (Go.some (Go.yes hx (Go.some ⟨k1, k2, k3 hi, w⟩)))
  · rintro j s t hj ⟨A1, B1, rfl, rfl, k1, k2, k3, w⟩
    unfold fY_measure_b10 fM_findsWays_b12 fT_streetBetween
    dsimp only
    have h6' : B1 217 6 = nI n := by rw [w.2 217 (by omega)]; exact h6
    have j1 : jix (nI (12 * i + j)) = 12 * i + j := jix_nI (by omega)
    have hl : ¬ nI n ≤ nI j := by rw [nI_le' (by omega) (by omega)]; omega
    have hm : ¬ B1 217 6 ≤ nI j := by rw [h6']; exact hl
    obtain ⟨e1, s, s1, s2⟩ := hs (12 * i + j) (by omega)
    have eA : A1 137 (12 * i + j) = nI s := by rw [w.1 137 (by omega), e1, s2]
    have eB : B1 235 (12 * i + j) = nI s := by rw [w.2 235 (by omega), s2]
    simp only [ix12, ix12', nI_1, j1, eA, eB]
    have g1 : inb (nI (12 * i + j)) 144 := (inb_nI (by omega)).mpr (by omega)
    have g2 : inb (nI (12 * i + j)) 288 := (inb_nI (by omega)).mpr (by omega)
    have fin : ∀ x y : Int32, (j ≠ i → (∃ d, d ≤ 99 ∧ x = nI d ∧ y = nI d) ∨ (x = nI 1000000 ∧ y = nI 100000000)) → (j = i → y = nI 0) → ∃ A2 B2, (nI (j + 1), mput A1 174 (12 * i + j) x) = (nI (j + 1), A2) ∧ (nI (j + 1), mput B1 238 (12 * i + j) y) = (nI (j + 1), B2) ∧ PI A2 B2 n i ∧ (∀ b, b < j + 1 → b ≠ i → EE A2 B2 (12 * i + b) 99) ∧ (i < j + 1 → B2 238 (12 * i + i) = nI 0) ∧ WF A B A2 B2 := by
      intro x y q1 q2
      refine ⟨_, _, rfl, rfl, k1.put hn hi hj, fun b hb hne => ?_, fun hb => ?_, w.put⟩
      · by_cases e : b = j
        · subst e; exact EE.new (q1 hne)
        · exact (k2 b (by omega) hne).put (by omega)
      · by_cases e : j = i
        · subst e; simp [mput, q2]
        · rw [mput_s (by omega)]; exact k3 (by omega)
    have fm : ∀ x : Int32, (j ≠ i → x = if s = 0 then nI 1000000 else nI s) → Go (if nI i = nI j then some (0 : Int32) else if inb (nI (12 * i + j)) 288 then (if nI s = 0 then some (100000000 : Int32) else if inb (nI (12 * i + j)) 288 then some (nI s) else none) else none) (fun y => (j ≠ i → (∃ d, d ≤ 99 ∧ x = nI d ∧ y = nI d) ∨ (x = nI 1000000 ∧ y = nI 100000000)) ∧ (j = i → y = nI 0)) := by
      intro x hx
      by_cases e : j = i
      · subst e
        refine Go.yes (by first | rfl | (simp; done)) ?_
        refine Go.some ?_
        exact ⟨fun q => absurd rfl q, fun _ => rfl⟩
      · by_cases e0 : s = 0
        · refine Go.no (by rw [nI_eq' (by omega) (by omega)]; omega) ?_
          refine Go.gd (g2) ?_
          refine Go.yes (by rw [e0]; rfl) ?_
          refine Go.some ?_
          exact ⟨fun q => Or.inr ⟨by rw [hx q, if_pos e0], rfl⟩, fun q => absurd q e⟩
        · refine Go.no (by rw [nI_eq' (by omega) (by omega)]; omega) ?_
          refine Go.gd (g2) ?_
          refine Go.no (by rw [← nI_zero, nI_eq' (by omega) (by omega)]; exact e0) ?_
          refine Go.gd (g2) ?_
          refine Go.some ?_
          exact ⟨fun q => Or.inl ⟨s, s1, by rw [hx q, if_neg e0], rfl⟩, fun q => absurd q e⟩
    by_cases e0 : s = 0
    · obtain ⟨y, y1, y2, y3⟩ := fm (nI 1000000) (fun _ => by rw [if_pos e0])
      refine Go.no (hl) ?_
      refine go_bind.mpr ?_
      refine Go.gd (g1) ?_
      refine Go.yes (by rw [e0]; rfl) ?_
      refine Go.some ?_
      refine Go.gd (g1) ?_
      refine Go.some ?_
      refine Go.no (hm) ?_
      refine go_bind.mpr ?_
      rw [y1]
      refine Go.some ?_
      refine Go.gd (g1) ?_
      refine Go.some ?_
      exact fin _ _ y2 y3
    · obtain ⟨y, y1, y2, y3⟩ := fm (nI s) (fun _ => by rw [if_neg e0])
      refine Go.no (hl) ?_
      refine go_bind.mpr ?_
      refine Go.gd (g1) ?_
      refine Go.no (by rw [← nI_zero, nI_eq' (by omega) (by omega)]; exact e0) ?_
      refine Go.some ?_
      refine Go.gd (g1) ?_
      refine Go.some ?_
      refine Go.no (hm) ?_
      refine go_bind.mpr ?_
      rw [y1]
      refine Go.some ?_
      refine Go.gd (g1) ?_
      refine Go.some ?_
      rw [if_neg (nI_neg1 (by omega))]
      exact fin _ _ y2 y3
theorem init_go {A B : Mm} {n : Nat} (hn : n ≤ 12) (h6 : B 217 6 = nI n) (hs : ∀ k, k < 144 → A 137 k = B 235 k ∧ ∃ s, s ≤ 99 ∧ B 235 k = nI s) :
    Go (lp 1000000 (fun s => fY_measure_b2 (nI n) s.1 s.2) (0, A)) (fun A' => Go (lp 1000000 (fun s => fM_findsWays_b2 s.1 s.2) (0, B)) (fun B' => DE A' B' n 99 ∧ WF A B A' B')) := by
  refine go_for2 (fun j s t => ∃ A1 B1, s = (nI j, A1) ∧ t = (nI j, B1) ∧ PI A1 B1 n j ∧ WF A B A1 B1) n ?_ ?_ (i := 0) (by omega) ⟨A, B, rfl, rfl, ⟨fun a b hb => by omega, fun a hb => by omega⟩, WF.rfl' _ _⟩ (by omega)
  · rintro s t ⟨A1, B1, rfl, rfl, k1, w⟩
    unfold fY_measure_b2 fM_findsWays_b2
    dsimp only
    have hx : B1 217 6 ≤ nI n := by rw [w.2 217 (by omega), h6]; exact i32_le.mpr (Int.le_refl _)
    exact Go.yes (i32_le.mpr (Int.le_refl _)) (Go.some (Go.yes hx (Go.some ⟨k1, w⟩)))
  · rintro j s t hj ⟨A1, B1, rfl, rfl, k1, w⟩
    unfold fY_measure_b2 fM_findsWays_b2
    dsimp only
    have h6' : B1 217 6 = nI n := by rw [w.2 217 (by omega)]; exact h6
    have j1 : jix (nI (12 * j + j)) = 12 * j + j := jix_nI (by omega)
    have hl : ¬ nI n ≤ nI j := by rw [nI_le' (by omega) (by omega)]; omega
    have hm : ¬ B1 217 6 ≤ nI j := by rw [h6']; exact hl
    obtain ⟨A2, z1, B2, z2, z3, z4, z5, z6⟩ := init_row hn hj h6' (fun k hk => by rw [w.1 137 (by omega), w.2 235 (by omega)]; exact hs k hk) k1
    simp only [ix12, j1]
    refine Go.no (hl) ?_
    refine go_bind.mpr ?_
    rw [z1]
    refine Go.some ?_
    refine Go.gd ((inb_nI (by omega)).mpr (by omega)) ?_
    refine Go.some ?_
    refine Go.no (hm) ?_
    refine go_bind.mpr ?_
    rw [z2]
    refine Go.some ?_
    refine Go.some ?_
    refine ⟨_, B2, by rw [nI_1], by rw [nI_1], ⟨fun a b ha hb => ?_, fun a ha => ?_⟩, fun c q => ?_, (w.trans z6).2⟩
    · by_cases e : a = j
      · subst e
        by_cases e2 : b = a
        · subst e2
          exact Or.inl ⟨0, by omega, by simp [mput]; rfl, z5⟩
        · unfold EE; rw [mput_s (by omega)]; exact z4 b hb e2
      · unfold EE; rw [mput_s (by omega)]; exact z3.1 a b (by omega) hb
    · by_cases e : a = j
      · subst e
        exact ⟨by simp [mput]; rfl, z5⟩
      · rw [mput_s (by omega)]; exact z3.2 a (by omega)
    · rw [mput_r q]; exact (w.trans z6).1 c q
theorem ways_go {A B : Mm} {n : Nat} (hn : n ≤ 12) (h6 : B 217 6 = nI n) (hs : ∀ k, k < 144 → A 137 k = B 235 k ∧ ∃ s, s ≤ 99 ∧ B 235 k = nI s) :
    Go (fY_measure (nI n) A) (fun A' => Go (fM_findsWays B) (fun B' => DE A' B' n 405504 ∧ WF A B A' B')) := by
  obtain ⟨A1, z1, B1, z2, z3, z4⟩ := init_go hn h6 hs
  obtain ⟨A2, y1, B2, y2, y3, y4⟩ := rounds_go hn (by rw [z4.2 217 (by omega)]; exact h6) z3
  unfold fY_measure fM_findsWays
  refine go_bind.mpr ?_
  rw [z1]
  refine Go.some ?_
  refine go_bind.mpr ?_
  rw [y1]
  refine Go.some ?_
  refine Go.some ?_
  refine go_bind.mpr ?_
  rw [z2]
  refine Go.some ?_
  refine go_bind.mpr ?_
  rw [y2]
  refine Go.some ?_
  refine Go.some ?_
  exact ⟨y3, z4.trans y4⟩
end PmWays3
