section PmDay5
variable {β : Nat → Int32}
def mDD (w c k : Nat) : Bool := mDA w c k && !Nat.beq c (w + 6)
def mDE (c k : Nat) : Bool := mDB c k && !(Nat.beq c 217 && Nat.beq k 40)
theorem mDD_bd {w c k : Nat} (h : mDD w c k = true) : mDA w c k = true ∧ c ≠ w + 6 := by
  unfold mDD at h
  rw [Bool.and_eq_true] at h
  refine ⟨h.1, fun e => ?_⟩
  rw [e, Nat.beq_refl] at h; cases h.2
theorem mDE_bd {c k : Nat} (h : mDE c k = true) : mDB c k = true ∧ (c ≠ 217 ∨ k ≠ 40) := by
  unfold mDE at h
  rw [Bool.and_eq_true] at h
  refine ⟨h.1, ?_⟩
  refine Classical.byContradiction fun z => ?_
  have z1 : c = 217 := by omega
  have z2 : k = 40 := by omega
  rw [z1, z2] at h; cases h.2
theorem DR_sc {A B : Mm} {w n m r h r' h' : Nat} {A' B' : Mm} (hw : w = 1 ∨ w = 16) (hR : DR w β A B n m r h) (fA : ∀ c k, (c ≠ w ∨ k < 4 ∨ 12 < k) → c ≠ w + 6 → A' c k = A c k) (fB : ∀ c k, (c ≠ 218 ∨ 9 ≤ k) → (c ≠ 217 ∨ k ≠ 40) → B' c k = B c k) (hS : WS A' w (B' 218) r' h') : DR w β A' B' n m r' h' := by
  obtain ⟨hD, hB, -, hT, hX⟩ := hR
  refine ⟨?_, ?_, hS, ?_, ?_⟩
  · exact WD_congr (fun c' h1 h2 => funext fun k => fA c' k (by omega) (by omega)) (fun k h1 h2 => fB 218 k (by omega) (by omega)) (fun k _ => fB 221 k (by omega) (by omega)) hD
  · exact WB_congr (fun c' h1 h2 => funext fun k => fA c' k (by omega) (by omega)) (fun k h1 => fB 218 k (by omega) (by omega)) hB
  · exact Th_congr (fA 1 13 (by omega) (by omega)) (fA 16 13 (by omega) (by omega)) (fun q => funext fun k => fA 15 k (by omega) (by omega)) (fB 217 5 (by omega) (by omega)) (funext fun k => fB 222 k (by omega) (by omega)) hT
  · refine RX_congr (fun c' k q => by have := aX_bd q; exact fA c' k (by omega) (by omega)) (fun c' k q => ?_) hX
    by_cases e : c' = 217
    · subst e
      refine fB 217 k (by omega) ?_
      right
      intro e2
      subst e2
      cases q
    · exact fB c' k (by have := bX_bd q; omega) (by omega)
theorem hl_dn {h : Nat} (hh : h ≤ 99) : fK_held (nI h - 5) 0 99 = nI (h - 5) ∧ fM_held (nI h - 5) 0 99 = nI (h - 5) := by
  have := (hl_ang (γ := 5) hh (by omega)).2
  have e : fM_held (nI h - 5) 0 99 = nI (h - 5) := this
  exact ⟨by rw [← held_eq (by decide)]; exact e, e⟩
theorem hl_u3 {h : Nat} (hh : h ≤ 99) : fK_held (nI h + 3) 0 99 = nI (min 99 (h + 3)) ∧ fM_held (nI h + 3) 0 99 = nI (min 99 (h + 3)) := by
  have e : fM_held (nI h + 3) 0 99 = nI (min 99 (h + 3)) := (hl_up (a := 3) hh (by omega)).2
  exact ⟨by rw [← held_eq (by decide)]; exact e, e⟩
theorem day_sim {A B : Mm} {w n m r h c : Nat} (hw : w = 1 ∨ w = 16) (hR : DR w β A B n m r h) (hn : B 217 6 = nI n) (hc : c < 2147480000) (b9 : B 218 9 = nI c) :
    Go (fW_passDay w A) (fun p => Go (fM_goesBy B) (fun q => p.1 = q.1 ∧ (∃ m' r' h', DR w β p.2 q.2 n m' r' h') ∧ (∃ c', c' ≤ c + 16 ∧ q.2 218 9 = nI c') ∧ FB (mDD w) A p.2 ∧ FB mDE B q.2)) := by
  -- hour 0
  have h0 : DR w β (mput A w 9 0) (mput B 218 3 0) n m r h := by
    refine DR_sc hw hR (fun c k q1 q2 => mput_q (by omega)) (fun c k q1 q2 => mput_q (by omega)) ?_
    exact WS_fin (x := 0) hR.2.2.1 hR.2.2.1.1 (mput_r (by omega)) (fun k q1 q2 q3 => mput_s (by omega)) (by rw [mput_s (by omega)]; exact hR.2.2.1.2.2.2.1) (mput_same _ _ _ _) (mput_same _ _ _ _) (by rw [mput_s (by omega)]; exact hR.2.2.1.2.2.2.2.1) (fun k hk => mput_s (by omega))
  obtain ⟨A1, e1, B1, e2, ⟨m1, r1, h1⟩, ⟨c1, c2, c3⟩, f1, f2, f3⟩ := morning_sim hw h0 hc (by rw [mput_s (by omega)]; exact b9)
  -- the round begins
  obtain ⟨A2, hA2⟩ : ∃ A2, A2 = mcp A1 (w + 5) (w + 6) 0 0 12 := ⟨_, rfl⟩
  obtain ⟨B2, hB2⟩ : ∃ B2, B2 = mput B1 217 40 0 := ⟨_, rfl⟩
  have h2 : DR w β A2 B2 n m1 r1 h := by
    refine DR_sc hw h1 (fun c k q1 q2 => by rw [hA2, mcp_r (by omega)]) (fun c k q1 q2 => by rw [hB2, mput_q (by omega)]) ?_
    have s := h1.2.2.1
    rw [hB2, mput_r (by omega)]
    exact WS_congr (by rw [hA2, mcp_r (by omega)]) (fun k _ _ => by rw [hA2, mcp_r (by omega)]) (fun k _ => rfl) s
  have hG2 : GR w A2 B2 m1 := by
    refine ⟨fun _ => 0, 0, by omega, by rw [hB2, mput_same]; rfl, fun e he => ?_⟩
    refine ⟨?_, by have := h1.2.1.1; show 0 + m1 ≤ 24; omega, by simp⟩
    rw [hA2, mcp_r (by omega), mcp_row _ _ _ _ _ he, nI_zero]; simp
  -- the walks
  have hX := hR.2.2.2.2
  obtain ⟨-, -, ⟨k0, p, p1, p2, p3⟩, -⟩ := hX
  have k0' : A 123 6 = nI p := k0.trans p2
  have fA2 : ∀ c k, mDD w c k = true → A2 c k = A c k := fun c k q => by
    obtain ⟨q1, q2⟩ := mDD_bd q
    have := mDA_bd q1
    rw [hA2, mcp_r (by omega), f1 c k q1, mput_q (by omega)]
  have fB2 : ∀ c k, mDE c k = true → B2 c k = B c k := fun c k q => by
    obtain ⟨q1, q2⟩ := mDE_bd q
    have := mDB_bd q1
    rw [hB2, mput_q (by omega), f2 c k q1, mput_q (by omega)]
  have b29 : B2 218 9 = nI c1 := by rw [hB2, mput_r (by omega)]; exact c3
  have W := go_for2 (f := fun s : Int32 × Int32 × Mm => fW_passDay_b21 w s.1 s.2.1 s.2.2) (g := fun s : Int32 × Int32 × Mm => fM_goesBy_b13 s.1 s.2.1 s.2.2)
    (Q := fun y y' => ∃ br A' B' m' r' h', y = (br, A') ∧ y' = (br, B') ∧ DR w β A' B' n m' r' h' ∧ GR w A' B' m' ∧ FB (mDD w) A A' ∧ FB mDE B B' ∧ B' 218 9 = nI c1)
    (fun i s t => ∃ br A' B' m' r' h', s = (br, nI i, A') ∧ t = (br, nI i, B') ∧ DR w β A' B' n m' r' h' ∧ GR w A' B' m' ∧ FB (mDD w) A A' ∧ FB mDE B B' ∧ B' 218 9 = nI c1) p ?_ ?_ (i := 0) (s := (0, 0, A2)) (t := (0, 0, B2)) (by omega) ⟨0, A2, B2, m1, r1, h, rfl, rfl, h2, hG2, fA2, fB2, b29⟩ (n := 1000000) (by omega)
  · obtain ⟨e, he, e', he', br, A3, B3, m3, r3, h3, rfl, rfl, d3, g3, fa3, fb3, b39⟩ := W
    obtain ⟨A4, a1, B4, a2, ⟨m4, r4, d4⟩, fa4, fb4, x5, x9⟩ := age_sim hw d3
    -- evening: hunger, health
    have s := d4.2.2.1
    obtain ⟨s1, s2, s3, s4, s5, s6, s7, s8, s9, s10, s11, s12, s13, s14⟩ := s
    have hl : (99 : Int32) - B4 218 4 = nI h3 := by rw [s7]; exact health_nI s2
    obtain ⟨u, hu⟩ : ∃ u, u = jmin 99 (B4 218 5 + 5) := ⟨_, rfl⟩
    obtain ⟨h5, hh5, hcl, hmo⟩ : ∃ h5, h5 ≤ 99 ∧ fK_held (if u ≤ 50 then nI h3 + 3 else nI h3 - 5) 0 99 = nI h5 ∧ fM_held (if u ≤ 50 then nI h3 + 3 else nI h3 - 5) 0 99 = nI h5 := by
      by_cases q : u ≤ 50
      · rw [if_pos q]
        exact ⟨min 99 (h3 + 3), by omega, hl_u3 s2⟩
      · rw [if_neg q]
        exact ⟨h3 - 5, by omega, hl_dn s2⟩
    obtain ⟨A5, hA5⟩ : ∃ A5, A5 = mput (mput A4 w 6 u) w 5 (nI h5) := ⟨_, rfl⟩
    obtain ⟨B5, hB5⟩ : ∃ B5, B5 = mput (mput B4 218 5 u) 218 4 (nI (99 - h5)) := ⟨_, rfl⟩
    have fA5 : ∀ c k, (c ≠ w ∨ (k ≠ 5 ∧ k ≠ 6)) → A5 c k = A4 c k := fun c k q => by rw [hA5, mput_q (by omega), mput_q (by omega)]
    have fB5 : ∀ c k, (c ≠ 218 ∨ (k ≠ 5 ∧ k ≠ 4)) → B5 c k = B4 c k := fun c k q => by rw [hB5, mput_q (by omega), mput_q (by omega)]
    have d5 : DR w β A5 B5 n m4 r4 h5 := by
      refine DR_sc hw d4 (fun c k q1 q2 => fA5 c k (by omega)) (fun c k q1 q2 => fB5 c k (by omega)) ?_
      refine ⟨s1, hh5, fun k hk => by rw [fA5 _ _ (by omega), fB5 _ _ (by omega)]; exact s3 k hk, ?_, ?_, ?_, ?_, ?_, ?_, ?_, ?_, ?_, ?_, ?_⟩
      · rw [fA5 _ _ (by omega)]; exact s4
      · rw [fB5 _ _ (by omega)]; exact s5
      · rw [hA5, mput_same]
      · rw [hB5, mput_same]
      · have z6 : A5 w 6 = u := by rw [hA5, mput_s (show (6 : Nat) ≠ 5 by omega), mput_same]
        have z5 : B5 218 5 = u := by rw [hB5, mput_s (show (5 : Nat) ≠ 4 by omega), mput_same]
        rw [z6, z5]
      · rw [fA5 _ _ (by omega), fB5 _ _ (by omega)]; exact s9
      · rw [fA5 _ _ (by omega), fB5 _ _ (by omega)]; exact s10
      · rw [fA5 _ _ (by omega), fB5 _ _ (by omega)]; exact s11
      · rw [fA5 _ _ (by omega), fB5 _ _ (by omega)]; exact s12
      · rw [fA5 _ _ (by omega), fB5 _ _ (by omega)]; exact s13
      · rw [fA5 _ _ (by omega), fB5 _ _ (by omega)]; exact s14
    have hn5 : B5 217 6 = nI n := by rw [fB5 217 6 (by omega), fb4 217 6 rfl, fb3 217 6 rfl]; exact hn
    have g5 : GR w A5 B5 m3 := by
      obtain ⟨f, g, y1, y2, y3⟩ := g3
      refine ⟨f, g, y1, by rw [fB5 217 40 (by omega), fb4 217 40 rfl]; exact y2, fun e he => ?_⟩
      rw [fA5 _ _ (by omega), fA5 _ _ (by omega), x5, fa4 (w + 6) e (mDA_of (by omega) (by omega) (by omega) (by omega))]
      exact y3 e he
    obtain ⟨A6, a6, B6, b6, d6, fa6, fb6, y9⟩ := calm_sim hw d5 hn5 g5
    obtain ⟨A7, hA7⟩ : ∃ A7, A7 = mput A6 w 11 (A6 w 11 + 1) := ⟨_, rfl⟩
    obtain ⟨B7, hB7⟩ : ∃ B7, B7 = mput B6 218 0 (B6 218 0 + 1) := ⟨_, rfl⟩
    have fA7 : ∀ c k, (c ≠ w ∨ k ≠ 11) → A7 c k = A6 c k := fun c k q => by rw [hA7, mput_q (by omega)]
    have fB7 : ∀ c k, (c ≠ 218 ∨ k ≠ 0) → B7 c k = B6 c k := fun c k q => by rw [hB7, mput_q (by omega)]
    have d7 : DR w β A7 B7 n m4 r4 h5 := by
      refine DR_sc hw d6 (fun c k q1 q2 => fA7 c k (by omega)) (fun c k q1 q2 => fB7 c k (by omega)) ?_
      obtain ⟨s1, s2, s3, s4, s5, s6, s7, s8, s9, s10, s11, s12, s13, s14⟩ := d6.2.2.1
      refine ⟨s1, s2, fun k hk => by rw [fA7 _ _ (by omega), fB7 _ _ (by omega)]; exact s3 k hk, ?_, ?_, ?_, ?_, ?_, ?_, ?_, ?_, ?_, ?_, ?_⟩
      · rw [fA7 _ _ (by omega)]; exact s4
      · rw [fB7 _ _ (by omega)]; exact s5
      · rw [fA7 _ _ (by omega)]; exact s6
      · rw [fB7 _ _ (by omega)]; exact s7
      · rw [fA7 _ _ (by omega), fB7 _ _ (by omega)]; exact s8
      · rw [fA7 _ _ (by omega), fB7 _ _ (by omega)]; exact s9
      · rw [fA7 _ _ (by omega), fB7 _ _ (by omega)]; exact s10
      · rw [fA7 _ _ (by omega), fB7 _ _ (by omega)]; exact s11
      · rw [fA7 _ _ (by omega), fB7 _ _ (by omega)]; exact s12
      · rw [hA7, hB7, mput_same, mput_same, s13]
      · rw [fA7 _ _ (by omega), fB7 _ _ (by omega)]; exact s14
    unfold fW_passDay fW_takePost fD_beginRound
    dsimp only
    refine go_bind.mpr ?_
    refine go_bind.mpr ?_
    rw [e1]
    refine Go.some ?_
    refine Go.some ?_
    rw [show w + 1 + 4 = w + 5 from rfl, show w + 1 + 5 = w + 6 from rfl, ← hA2, he]
    refine go_bind.mpr ?_
    refine Go.some ?_
    dsimp only
    rw [a1]
    refine go_bind.mpr ?_
    refine Go.some ?_
    have ua : jmin 99 (A4 w 6 + 5) = u := by rw [s8, hu]
    have ca : fK_held (if mput A4 w 6 u w 6 ≤ 50 then mput A4 w 6 u w 5 + 3 else mput A4 w 6 u w 5 - 5) 0 99 = nI h5 := by
      rw [mput_same, mput_s (by omega), s6]; exact hcl
    rw [ua, ca, ← hA5, a6]
    refine go_bind.mpr ?_
    refine Go.some ?_
    refine Go.some ?_
    rw [← hA7]
    unfold fM_goesBy fM_morning fM_evening fM_hasHealth fM_health
    dsimp only
    refine go_bind.mpr ?_
    refine go_bind.mpr ?_
    rw [e2]
    refine Go.some ?_
    refine Go.some ?_
    rw [← hB2, he']
    refine go_bind.mpr ?_
    refine Go.some ?_
    dsimp only
    rw [a2]
    refine go_bind.mpr ?_
    refine Go.some ?_
    refine go_bind.mpr ?_
    have ub : fM_lesser 99 (B4 218 5 + 5) = u := by rw [← jmin_eq, hu]
    rw [ub, mput_same]
    refine Go.bind (P := fun y => y = (if u ≤ 50 then nI h3 + 3 else nI h3 - 5)) ?_ ?_
    · rw [mput_s (by omega), hl]
      by_cases q : u ≤ 50
      · refine Go.yes (q) ?_
        refine Go.some ?_
        rw [if_pos q]
      · refine Go.no (q) ?_
        refine Go.some ?_
        rw [if_neg q]
    · rintro y rfl
      rw [hmo, show (99 : Int32) - nI h5 = nI (99 - h5) from nI_sub' (a := 99) hh5, ← hB5, b6]
      refine go_bind.mpr ?_
      refine Go.some ?_
      refine Go.some ?_
      refine Go.some ?_
      rw [← hB7]
      refine ⟨rfl, ⟨m4, r4, h5, d7⟩, ⟨c1, c2, ?_⟩, fun c k q => ?_, fun c k q => ?_⟩
      · show B7 218 9 = _
        rw [fB7 218 9 (by omega), y9, fB5 218 9 (by omega), x9]; exact b39
      · obtain ⟨q1, q2⟩ := mDD_bd q
        have := mDA_bd q1
        show A7 c k = _
        rw [fA7 c k (by omega), fa6 c k q1, fA5 c k (by omega), fa4 c k q1, fa3 c k q]
      · obtain ⟨q1, q2⟩ := mDE_bd q
        have := mDB_bd q1
        show B7 c k = _
        rw [fB7 c k (by omega), fb6 c k q1, fB5 c k (by omega), fb4 c k q1, fb3 c k q]
  · rintro s t ⟨br, A', B', m', r', h', rfl, rfl, d, g, fa, fb, b9'⟩
    have a1 : A' 123 6 = nI p := by rw [fa 123 6 (by rcases hw with rfl | rfl <;> rfl)]; exact k0'
    have b1 : B' 217 34 = nI p := by rw [fb 217 34 rfl]; exact p2
    unfold fW_passDay_b21 fM_goesBy_b13
    dsimp only
    simp only [a1, b1]
    refine Go.yes (i32_le.mpr (Int.le_refl _)) ?_
    refine Go.some ?_
    refine Go.yes (i32_le.mpr (Int.le_refl _)) ?_
    refine Go.some ?_
    exact ⟨br, A', B', m', r', h', rfl, rfl, d, g, fa, fb, b9'⟩
  · rintro i s t hi ⟨br, A', B', m', r', h', rfl, rfl, d, g, fa, fb, b9'⟩
    have a1 : A' 123 6 = nI p := by rw [fa 123 6 (by rcases hw with rfl | rfl <;> rfl)]; exact k0'
    have b1 : B' 217 34 = nI p := by rw [fb 217 34 rfl]; exact p2
    obtain ⟨w1, dd, hdd, w2⟩ := p3 i hi
    have a136 : A' 136 i = nI dd := by rw [fa 136 i (by rcases hw with rfl | rfl <;> rfl)]; exact w1.trans w2
    have b234 : B' 234 i = nI dd := by rw [fb 234 i rfl]; exact w2
    have ji : jix (nI i) = i := jix_nI (by omega)
    obtain ⟨⟨v, A3⟩, z1, ⟨v', B3⟩, z2, z3, ⟨m3, r3, h3, z4, z5, -⟩, z6, z7, z9⟩ := visit_sim hw d hdd g
    have z3 : v = v' := z3
    subst z3
    dsimp only at z4 z5 z6 z7 z9
    unfold fW_passDay_b21 fM_goesBy_b13
    dsimp only
    simp only [a1, b1, ji, a136, b234, nI_1]
    refine Go.no (by rw [nI_le' (by omega) (by omega)]; omega) ?_
    refine Go.gd ((inb_nI (by omega)).mpr (by omega)) ?_
    rw [z1]
    refine go_bind.mpr ?_
    refine Go.some ?_
    refine Go.some ?_
    refine Go.no (by rw [nI_le' (by omega) (by omega)]; omega) ?_
    refine Go.gd ((inb_nI (by omega)).mpr (by omega)) ?_
    rw [z2]
    refine go_bind.mpr ?_
    refine Go.some ?_
    refine Go.some ?_
    refine ⟨br + v, A3, B3, m3, r3, h3, rfl, rfl, z4, z5, fun c k q => ?_, fun c k q => ?_, ?_⟩
    · rw [z6 c k (mDD_bd q).1, fa c k q]
    · obtain ⟨q1, q2⟩ := mDE_bd q
      rw [z7 c k q1 q2, fb c k q]
    · exact z9.trans b9'
end PmDay5
