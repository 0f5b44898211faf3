section PmDay
variable {β : Nat → Int32}
theorem mDA_of {w c k : Nat} (h1 : c ≠ 130) (h2 : c ≠ 131) (h3 : c < w + 2 ∨ w + 14 < c ∨ c = w + 6) (h4 : c ≠ w ∨ k < 4 ∨ 12 < k) : mDA w c k = true := by
  have e3 : (Nat.ble (w + 2) c && Nat.ble c (w + 14) && !Nat.beq c (w + 6)) = false := by
    cases e : (Nat.ble (w + 2) c && Nat.ble c (w + 14) && !Nat.beq c (w + 6))
    · rfl
    · rw [Bool.and_eq_true, Bool.and_eq_true, Nat.ble_eq, Nat.ble_eq] at e
      have e2 := bnot_t e.2
      have : c ≠ w + 6 := fun q => by rw [q, Nat.beq_refl] at e2; cases e2
      omega
  have e4 : (Nat.beq c w && Nat.ble 4 k && Nat.ble k 12) = false := by
    cases e : (Nat.beq c w && Nat.ble 4 k && Nat.ble k 12)
    · rfl
    · rw [Bool.and_eq_true, Bool.and_eq_true, Nat.ble_eq, Nat.ble_eq, Nat.beq_eq] at e; omega
  simp only [mDA, nbeq h1, nbeq h2, e3, e4]; rfl
theorem morning_sim {A B : Mm} {w n m r h c : Nat} (hw : w = 1 ∨ w = 16) (hR : DR w β A B n m r h) (hc : c < 2147480000) (b9 : B 218 9 = nI c) :
    Go (lp 1000000 (fun s => fW_takePost_b2 w s.1 s.2) (0, A)) (fun A' => Go (lp 1000000 (fun s => fM_morning_b9 s.1 s.2) (0, B)) (fun B' => (∃ m' r', DR w β A' B' n m' r' h) ∧ (∃ c', c' ≤ c + 16 ∧ B' 218 9 = nI c') ∧ FB (mDA w) A A' ∧ FB mDB B B' ∧ A' (w + 5) = A (w + 5))) := by
  have hR0 := hR
  obtain ⟨-, -, -, -, -, ⟨p0, p, p1, p2, p3⟩, -⟩ := hR0
  have p0' : A 123 1 = nI p := p0.trans p2
  refine go_for2 (J := fun i s t => ∃ A' B', s = (nI i, A') ∧ t = (nI (4 * i), B') ∧ (∃ m' r', DR w β A' B' n m' r' h) ∧ (∃ c', c' ≤ c + i ∧ B' 218 9 = nI c') ∧ FB (mDA w) A A' ∧ FB mDB B B' ∧ A' (w + 5) = A (w + 5)) (e := p) ?_ ?_ (i := 0) (by omega) ⟨A, B, rfl, rfl, ⟨m, r, hR⟩, ⟨c, by omega, b9⟩, fb_rfl _ _, fb_rfl _ _, rfl⟩ (by omega)
  · rintro s t ⟨A', B', rfl, rfl, h1, ⟨c', c1, c2⟩, h3, h4, h5⟩
    have a1 : A' 123 1 = nI p := by rw [h3 123 1 (mDA_of (by omega) (by omega) (by omega) (by omega))]; exact p0'
    have b1 : B' 217 32 = nI p := by rw [h4 217 32 rfl]; exact p2
    refine Go.yes (by show A' 123 1 ≤ nI p; rw [a1]; exact i32_le.mpr (Int.le_refl _)) (Go.some (Go.yes (by show 4 * B' 217 32 ≤ nI (4 * p); rw [b1, lit_nI, nI_mul']; exact i32_le.mpr (Int.le_refl _)) (Go.some ?_)))
    exact ⟨h1, ⟨c', by omega, c2⟩, h3, h4, h5⟩
  · rintro i s t hi ⟨A', B', rfl, rfl, ⟨m', r', h1⟩, ⟨c', c1, c2⟩, h3, h4, h5⟩
    have a1 : A' 123 1 = nI p := by rw [h3 123 1 (mDA_of (by omega) (by omega) (by omega) (by omega))]; exact p0'
    have b1 : B' 217 32 = nI p := by rw [h4 217 32 rfl]; exact p2
    have fr : ∀ c k, 132 ≤ c → c ≤ 137 → A' c k = A c k := fun c k q1 q2 => h3 c k (mDA_of (by omega) (by omega) (by omega) (by omega))
    have b233 : B' 233 = B 233 := h4.row fun _ => rfl
    obtain ⟨e0, e1, e2, e3, ⟨d, hd, ed⟩, ⟨κ, hκ, eκ⟩, ⟨μ, μ1, hμ, eμ⟩⟩ := p3 i hi
    have i16 : inb (nI i) 16 := (inb_nI (by omega)).mpr (by omega)
    have ji : jix (nI i) = i := jix_nI (by omega)
    have q1 : nI (4 * i) + 1 = nI (4 * i + 1) := nI_add _ 1
    have q2 : nI (4 * i) + 2 = nI (4 * i + 2) := nI_add _ 2
    have q3 : nI (4 * i) + 3 = nI (4 * i + 3) := nI_add _ 3
    have q4 : nI (4 * i) + 4 = nI (4 * (i + 1)) := by rw [lit_nI, nI_add]; exact congrArg nI (by omega)
    have ix : ∀ t, t < 4 → inb (nI (4 * i + t)) 128 := fun t ht => (inb_nI (by omega)).mpr (by omega)
    have jx : ∀ t, t < 4 → jix (nI (4 * i + t)) = 4 * i + t := fun t ht => jix_nI (by omega)
    have j0 : jix (nI (4 * i)) = 4 * i := jx 0 (by omega)
    have x0 : A' 132 i = B 233 (4 * i) := by rw [fr 132 i (by omega) (by omega)]; exact e0
    have x1 : A' 133 i = nI d := by rw [fr 133 i (by omega) (by omega)]; exact e1.trans ed
    have x2 : A' 134 i = nI κ := by rw [fr 134 i (by omega) (by omega)]; exact e2.trans eκ
    have x3 : A' 135 i = nI μ := by rw [fr 135 i (by omega) (by omega)]; exact e3.trans eμ
    have day : A' w 11 = B' 218 0 := h1.2.2.1.2.2.2.2.2.2.2.2.2.2.2.2.1
    have h10 : B' 218 10 = nI m' := h1.2.1.2.2.1
    unfold fW_takePost_b2 fM_morning_b9
    simp only [a1, b1, ji, q1, q2, q3, q4, j0, jx 1 (by omega), jx 2 (by omega), jx 3 (by omega), x0, x1, x2, x3, b233, ed, eκ, eμ, nI_1, day, h10]
    refine Go.no (by rw [nI_le' (by omega) (by omega)]; omega) ?_
    refine Go.gd (i16) ?_
    by_cases hday : B 233 (4 * i) = B' 218 0
    rotate_left
    · refine go_bind.mpr ?_
      refine Go.no (hday) ?_
      refine Go.some ?_
      refine Go.some ?_
      refine Go.no (by rw [lit_nI, nI_mul', nI_le' (by omega) (by omega)]; omega) ?_
      refine Go.gd (ix 0 (by omega)) ?_
      refine go_bind.mpr ?_
      refine Go.no (hday) ?_
      refine Go.some ?_
      refine Go.some ?_
      exact ⟨A', B', rfl, rfl, ⟨m', r', h1⟩, ⟨c', by omega, c2⟩, h3, h4, h5⟩
    have hm24 : m' ≤ 24 := h1.2.1.1
    by_cases hm : m' < 24
    · obtain ⟨A2, B2, r2, z1, z2, z3, z4, z5, z6, z7⟩ := come_sim hw h1 hm (by omega) c2 hd hκ μ1 hμ
      refine go_bind.mpr ?_
      refine Go.yes (hday) ?_
      refine Go.gd (i16) ?_
      refine Go.gd (i16) ?_
      refine Go.gd (i16) ?_
      refine go_bind.mpr ?_
      rw [z1]
      refine Go.some ?_
      refine Go.some ?_
      refine Go.some ?_
      refine Go.no (by rw [lit_nI, nI_mul', nI_le' (by omega) (by omega)]; omega) ?_
      refine Go.gd (ix 0 (by omega)) ?_
      refine go_bind.mpr ?_
      refine Go.yes (hday) ?_
      refine Go.no (by rw [lit_nI, nI_le' (by omega) (by omega)]; omega) ?_
      refine Go.gd (ix 1 (by omega)) ?_
      refine Go.gd (ix 2 (by omega)) ?_
      refine Go.gd (ix 3 (by omega)) ?_
      refine go_bind.mpr ?_
      rw [z2]
      refine Go.some ?_
      refine Go.some ?_
      refine Go.some ?_
      exact ⟨A2, B2, rfl, rfl, ⟨m' + 1, r2, z3⟩, ⟨c' + 1, by omega, z4⟩, h3.trans z5, h4.trans z6, z7.trans h5⟩
    · have e24 : m' = 24 := by omega
      subst e24
      obtain ⟨A2, B2, r2, z1, z2, z3, z4, z5, z6, z7⟩ := lose_sim (nI κ) (nI μ) (d := d) hw h1
      refine go_bind.mpr ?_
      refine Go.yes (hday) ?_
      refine Go.gd (i16) ?_
      refine Go.gd (i16) ?_
      refine Go.gd (i16) ?_
      refine go_bind.mpr ?_
      rw [z1]
      refine Go.some ?_
      refine Go.some ?_
      refine Go.some ?_
      refine Go.no (by rw [lit_nI, nI_mul', nI_le' (by omega) (by omega)]; omega) ?_
      refine Go.gd (ix 0 (by omega)) ?_
      refine go_bind.mpr ?_
      refine Go.yes (hday) ?_
      refine Go.yes (by decide) ?_
      refine Go.gd (ix 1 (by omega)) ?_
      refine go_bind.mpr ?_
      rw [mput_r (show (233 : Nat) ≠ 218 by omega), b233, ed, z2]
      refine Go.some ?_
      refine Go.some ?_
      refine Go.some ?_
      exact ⟨A2, B2, rfl, rfl, ⟨24, r2, z3⟩, ⟨c', by omega, z4.trans c2⟩, h3.trans z5, h4.trans z6, z7.trans h5⟩
end PmDay
