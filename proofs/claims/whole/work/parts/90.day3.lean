section PmDay3
variable {β : Nat → Int32}
theorem WS_lost {A B : Mm} {w r h : Nat} (hw : w = 1 ∨ w = 16) (hS : WS A w (B 218) r h) : WS (mput A w 8 (A w 8 + 1)) w (mput B 218 7 (B 218 7 + 1) 218) r h := by
  obtain ⟨s1, s2, s3, s4, s5, s6, s7, s8, s9, s10, s11, s12, s13, s14⟩ := hS
  have fA : ∀ c' k, (c' ≠ w ∨ k ≠ 8) → mput A w 8 (A w 8 + 1) c' k = A c' k := fun c' k h2 => mput_q (by omega)
  have fB : ∀ c' k, (c' ≠ 218 ∨ k ≠ 7) → mput B 218 7 (B 218 7 + 1) c' k = B c' k := fun c' k h1 => mput_q (by omega)
  refine ⟨s1, s2, fun k hk => by rw [fA _ k (by omega), fB _ _ (by omega)]; exact s3 k hk, ?_, ?_, ?_, ?_, ?_, ?_, ?_, ?_, ?_, ?_, ?_⟩
  · rw [fA _ _ (by omega)]; exact s4
  · rw [fB _ _ (by omega)]; exact s5
  · rw [fA _ _ (by omega)]; exact s6
  · rw [fB _ _ (by omega)]; exact s7
  · rw [fA _ _ (by omega), fB _ _ (by omega)]; exact s8
  · rw [fA _ _ (by omega), fB _ _ (by omega)]; exact s9
  · rw [mput_same, mput_same, s10]
  · rw [fA _ _ (by omega), fB _ _ (by omega)]; exact s11
  · rw [fA _ _ (by omega), fB _ _ (by omega)]; exact s12
  · rw [fA _ _ (by omega), fB _ _ (by omega)]; exact s13
  · rw [fA _ _ (by omega), fB _ _ (by omega)]; exact s14
theorem DR_lost {A B : Mm} {w n m r h : Nat} (hw : w = 1 ∨ w = 16) (hR : DR w β A B n m r h) : DR w β (mput A w 8 (A w 8 + 1)) (mput B 218 7 (B 218 7 + 1)) n m r h := by
  obtain ⟨hD, hB, hS, hT, hX⟩ := hR
  have fA : ∀ c' k, (c' ≠ w ∨ k ≠ 8) → mput A w 8 (A w 8 + 1) c' k = A c' k := fun c' k h2 => mput_q (by omega)
  have fB : ∀ c' k, (c' ≠ 218 ∨ k ≠ 7) → mput B 218 7 (B 218 7 + 1) c' k = B c' k := fun c' k h1 => mput_q (by omega)
  exact ⟨WD_congr (fun c' h1 h2 => funext fun k => fA c' k (by omega)) (fun k h1 h2 => fB 218 k (by omega)) (fun k _ => fB 221 k (by omega)) hD,
    WB_congr (fun c' h1 h2 => funext fun k => fA c' k (by omega)) (fun k h1 => fB 218 k (by omega)) hB, WS_lost hw hS,
    Th_congr (fA 1 13 (by omega)) (fA 16 13 (by omega)) (fun q => funext fun k => fA 15 k (by omega)) (fB 217 5 (by omega)) (funext fun k => fB 222 k (by omega)) hT,
    RX_congr (fun c' k q => by have := aX_bd q; exact fA c' k (by omega)) (fun c' k q => by have := bX_bd q; exact fB c' k (by omega)) hX⟩
theorem DR_rem {A B : Mm} {w n m r h i : Nat} (hw : w = 1 ∨ w = 16) (hR : DR w β A B n m r h) (hi : i < m) : ∃ A' B', fB_remove (w + 7) (nI i) A = some A' ∧ fM_goesOut (nI i) B = some B' ∧ DR w β A' B' n (m - 1) r h ∧ FB (mDA w) A A' ∧ FB mDB B B' ∧ A' (w + 5) = A (w + 5) ∧ B' 218 9 = B 218 9 := by
  obtain ⟨hD, ⟨b1, b2, b3, b4, b5⟩, hS, hT, hX⟩ := hR
  obtain ⟨A', B', z1, z2, z3, z4, z5, z6, z7⟩ := rem2 b1 hi b2 b3 b5
  have fA : ∀ c k, ¬ (w + 8 ≤ c ∧ c ≤ w + 12) → (c ≠ w + 7 ∨ k ≠ 0) → A' c k = A c k := fun c k h1 h2 => z6 c k (mRA_of h1 h2)
  have fB : ∀ c k, (c = 218 → k ≠ 10 ∧ k < 54) → B' c k = B c k := fun c k q => z7 c k (mRB_of q)
  refine ⟨A', B', z1, z2, ⟨?_, ⟨by omega, z3, z4, ?_, z5⟩, ?_, ?_, ?_⟩, ?_, ?_, ?_, fB 218 9 (by omega)⟩
  · exact WD_congr (fun c' h1 h2 => funext fun k => fA c' k (by omega) (by omega)) (fun k h1 h2 => fB 218 k (by omega)) (fun k _ => fB 221 k (by omega)) hD
  · rw [fA _ _ (by omega) (by omega), fB 218 9 (by omega)]; exact b4
  · exact WS_congr (funext fun k => fA _ k (by omega) (by omega)) (fun k _ _ => fA w k (by omega) (by omega)) (fun k _ => fB 218 k (by omega)) hS
  · exact Th_congr (fA 1 13 (by omega) (by omega)) (fA 16 13 (by omega) (by omega)) (fun q => funext fun k => fA 15 k (by omega) (by omega)) (fB 217 5 (by omega)) (funext fun k => fB 222 k (by omega)) hT
  · exact RX_congr (fun c' k q => by have := aX_bd q; exact fA c' k (by omega) (by omega)) (fun c' k q => by have := bX_bd q; exact fB c' k (by omega)) hX
  · intro c k q
    have := mDA_bd q
    exact fA c k (by omega) (by omega)
  · intro c k q
    have := mDB_bd q
    exact fB c k (by omega)
  · funext k; exact fA _ k (by omega) (by omega)
theorem DR_age {A B : Mm} {w n m r h i : Nat} (hw : w = 1 ∨ w = 16) (hR : DR w β A B n m r h) (hi : i < m) : DR w β (mput A (w + 12) i (A (w + 12) i + 1)) (mput B 218 (58 + 5 * i) (B 218 (58 + 5 * i) + 1)) n m r h := by
  obtain ⟨hD, ⟨b1, b2, b3, b4, b5⟩, hS, hT, hX⟩ := hR
  have fA : ∀ c' k, (c' ≠ w + 12 ∨ k ≠ i) → mput A (w + 12) i (A (w + 12) i + 1) c' k = A c' k := fun c' k h2 => mput_q (by omega)
  have fB : ∀ c' k, (c' ≠ 218 ∨ k ≠ 58 + 5 * i) → mput B 218 (58 + 5 * i) (B 218 (58 + 5 * i) + 1) c' k = B c' k := fun c' k h1 => mput_q (by omega)
  refine ⟨?_, ⟨b1, ?_, ?_, ?_, fun j hj => ?_⟩, ?_, ?_, ?_⟩
  · exact WD_congr (fun c' h1 h2 => funext fun k => fA c' k (by omega)) (fun k h1 h2 => fB 218 k (by omega)) (fun k _ => fB 221 k (by omega)) hD
  · rw [fA _ _ (by omega)]; exact b2
  · rw [fB _ _ (by omega)]; exact b3
  · rw [fA _ _ (by omega), fB _ _ (by omega)]; exact b4
  · by_cases e : j = i
    · subst e
      obtain ⟨l1, l2, l3, l4, l5, l6⟩ := b5 j hj
      refine ⟨?_, ?_, ?_, ?_, ?_, ?_⟩
      · rw [fA _ _ (by omega), fB _ _ (by omega)]; exact l1
      · rw [fA _ _ (by omega), fB _ _ (by omega)]; exact l2
      · rw [fA _ _ (by omega), fB _ _ (by omega)]; exact l3
      · rw [fA _ _ (by omega), fB _ _ (by omega)]; exact l4
      · rw [mput_same, mput_same, l5]
      · rw [fB _ _ (by omega), fB _ _ (by omega), fB _ _ (by omega)]; exact l6
    · exact WL_congr (fun c h1 h2 => fA c j (by omega)) (fun k hk => fB 218 _ (by omega)) (b5 j hj)
  · exact WS_congr (funext fun k => fA _ k (by omega)) (fun k _ _ => fA w k (by omega)) (fun k _ => fB 218 k (by omega)) hS
  · exact Th_congr (fA 1 13 (by omega)) (fA 16 13 (by omega)) (fun q => funext fun k => fA 15 k (by omega)) (fB 217 5 (by omega)) (funext fun k => fB 222 k (by omega)) hT
  · exact RX_congr (fun c' k q => by have := aX_bd q; exact fA c' k (by omega)) (fun c' k q => by have := bX_bd q; exact fB c' k (by omega)) hX
theorem age_sim {A B : Mm} {w n m r h : Nat} (hw : w = 1 ∨ w = 16) (hR : DR w β A B n m r h) :
    Go (fW_ageLetters w A) (fun A' => Go (fM_lettersAge B) (fun B' => (∃ m' r', DR w β A' B' n m' r' h) ∧ FB (mDA w) A A' ∧ FB mDB B B' ∧ A' (w + 5) = A (w + 5) ∧ B' 218 9 = B 218 9)) := by
  have L := go_lp2 (f := fun s : Int32 × Int32 × Mm => fW_ageLetters_b10 w s.1 s.2.1 s.2.2) (g := fun s : Int32 × Mm => fM_lettersAge_b2 s.1 s.2)
    (Q := fun A' B' => (∃ m' r', DR w β A' B' n m' r' h) ∧ FB (mDA w) A A' ∧ FB mDB B B' ∧ A' (w + 5) = A (w + 5) ∧ B' 218 9 = B 218 9)
    (fun l s t => ∃ i A' B' m' r', s = (nI i, nI l, A') ∧ t = (nI i, B') ∧ i + l = m' ∧ DR w β A' B' n m' r' h ∧ FB (mDA w) A A' ∧ FB mDB B B' ∧ A' (w + 5) = A (w + 5) ∧ B' 218 9 = B 218 9) ?_ 1000000 m (0, nI m, A) (0, B) (by have := hR.2.1.1; omega) ⟨0, A, B, m, r, rfl, rfl, by omega, hR, fb_rfl _ _, fb_rfl _ _, rfl, rfl⟩
  · obtain ⟨e, he, e', he', q⟩ := L
    unfold fW_ageLetters fM_lettersAge
    dsimp only
    rw [show A (w + 7) 0 = nI m from hR.2.1.2.1, he]
    refine go_bind.mpr ?_
    refine Go.some ?_
    refine Go.some ?_
    refine go_bind.mpr ?_
    rw [he']
    refine Go.some ?_
    refine Go.some ?_
    exact q
  · rintro l s t ⟨i, A', B', m', r', rfl, rfl, hil, h1, h3, h4, h5, h6⟩
    have hm24 : m' ≤ 24 := h1.2.1.1
    have h10 : B' 218 10 = nI m' := h1.2.1.2.2.1
    unfold fW_ageLetters_b10 fM_lettersAge_b2
    cases l with
    | zero =>
      dsimp only
      refine Go.yes (by decide) ?_
      refine Go.some ?_
      refine Go.yes (by rw [h10, nI_le' (by omega) (by omega)]; omega) ?_
      refine Go.some ?_
      exact ⟨⟨m', r', h1⟩, h3, h4, h5, h6⟩
    | succ l =>
      have hi : i < m' := by omega
      have la : fM_letterAt (nI i) = nI (54 + 5 * i) := by unfold fM_letterAt; rw [lit_nI, lit_nI, nI_mul', nI_add]
      have p1 : nI (54 + 5 * i) + 1 = nI (55 + 5 * i) := by rw [nI_1]; exact congrArg nI (by omega)
      have p4 : nI (54 + 5 * i) + 4 = nI (58 + 5 * i) := by rw [lit_nI, nI_add]; exact congrArg nI (by omega)
      have i4 : inb (nI (58 + 5 * i)) 174 := (inb_nI (by omega)).mpr (by omega)
      have i0 : inb (nI (54 + 5 * i)) 174 := (inb_nI (by omega)).mpr (by omega)
      have i1 : inb (nI (55 + 5 * i)) 174 := (inb_nI (by omega)).mpr (by omega)
      have ii : inb (nI i) 24 := (inb_nI (by omega)).mpr (by omega)
      have ji : jix (nI i) = i := jix_nI (by omega)
      have j0 : jix (nI (54 + 5 * i)) = 54 + 5 * i := jix_nI (by omega)
      have j1 : jix (nI (55 + 5 * i)) = 55 + 5 * i := jix_nI (by omega)
      have j4 : jix (nI (58 + 5 * i)) = 58 + 5 * i := jix_nI (by omega)
      have dec : nI (l + 1) + (-1) = nI l := pk_m1 l
      dsimp only
      simp only [ji, la, p1, p4, j0, j1, j4, dec, nI_1, h10]
      have hA := DR_age hw h1 hi
      have l5 := (h1.2.1.2.2.2.2 i hi).2.2.2.2.1
      have fr1 : FB (mDA w) A (mput A' (w + 12) i (A' (w + 12) i + 1)) := fun c k q => by have := mDA_bd q; rw [mput_q (by omega)]; exact h3 c k q
      have fr2 : FB mDB B (mput B' 218 (58 + 5 * i) (B' 218 (58 + 5 * i) + 1)) := fun c k q => by have := mDB_bd q; rw [mput_q (by omega)]; exact h4 c k q
      have a5 : mput A' (w + 12) i (A' (w + 12) i + 1) (w + 5) = A (w + 5) := by rw [mput_r (by omega)]; exact h5
      have b9 : mput B' 218 (58 + 5 * i) (B' 218 (58 + 5 * i) + 1) 218 9 = B 218 9 := by rw [mput_s (by omega)]; exact h6
      have ea : mput A' (w + 12) i (A' (w + 12) i + 1) (w + 12) i = mput B' 218 (58 + 5 * i) (B' 218 (58 + 5 * i) + 1) 218 (58 + 5 * i) := by rw [mput_same, mput_same, l5]
      generalize mput A' (w + 12) i (A' (w + 12) i + 1) = A1 at *
      generalize mput B' 218 (58 + 5 * i) (B' 218 (58 + 5 * i) + 1) = B1 at *
      refine Go.no (nI_nle (by omega) (by omega)) ?_
      refine Go.gd (ii) ?_
      refine Go.gd (ii) ?_
      refine Go.gd (ii) ?_
      refine go_bind.mpr ?_
      by_cases h9 : 9 ≤ A1 (w + 12) i
      · have h9' : 9 ≤ B1 218 (58 + 5 * i) := by rw [← ea]; exact h9
        obtain ⟨l1, l2, -⟩ := hA.2.1.2.2.2.2 i hi
        have hL := DR_lost hw hA
        have c8 : mput A1 w 8 (A1 w 8 + 1) (w + 8) i = B1 218 (54 + 5 * i) := by rw [mput_r (by omega)]; exact l1
        have c9 : mput A1 w 8 (A1 w 8 + 1) (w + 9) i = B1 218 (55 + 5 * i) := by rw [mput_r (by omega)]; exact l2
        have e8 : mput B1 218 7 (B1 218 7 + 1) 218 (54 + 5 * i) = B1 218 (54 + 5 * i) := mput_s (by omega)
        have e9 : mput B1 218 7 (B1 218 7 + 1) 218 (55 + 5 * i) = B1 218 (55 + 5 * i) := mput_s (by omega)
        have s := hL.2.2.1
        obtain ⟨s1r, -, -, s14, s15, -, -, -, -, -, -, -, s113, -⟩ := s
        obtain ⟨A3, B3, r3, m1, m2, m3, m4, m5, m6, m7, m8⟩ := note2 3 (B1 218 (54 + 5 * i)) (B1 218 (55 + 5 * i)) hL.2.2.2.1 s1r s14 s15 s113
        have h33 : DR w β A3 B3 n m' r3 h := DR_note hw hL.1 hL.2.1 hL.2.2.1 hL.2.2.2.2 m3 m4 m5 m6 m7 m8
        obtain ⟨A4, B4, z1, z2, z3, z4, z5, z6, z7⟩ := DR_rem hw h33 hi
        obtain ⟨q1, q2⟩ := note_fr hw m7 m8
        refine Go.yes (h9) ?_
        refine Go.gd (ii) ?_
        refine Go.gd (ii) ?_
        rw [c8, c9, m1]
        refine go_bind.mpr ?_
        refine Go.some ?_
        rw [z1]
        refine go_bind.mpr ?_
        refine Go.some ?_
        refine Go.some ?_
        refine Go.some ?_
        refine Go.no (by rw [nI_le' (by omega) (by omega)]; omega) ?_
        refine Go.gd (i4) ?_
        refine Go.gd (i4) ?_
        refine Go.gd (i4) ?_
        refine Go.yes (h9') ?_
        refine Go.gd (i0) ?_
        refine Go.gd (i1) ?_
        rw [e8, e9, m2]
        refine go_bind.mpr ?_
        refine Go.some ?_
        rw [z2]
        refine go_bind.mpr ?_
        refine Go.some ?_
        refine Go.some ?_
        refine ⟨l, by omega, i, A4, B4, m' - 1, r3, rfl, rfl, by omega, z3, ?_, ?_, ?_, ?_⟩
        · refine FB.trans (FB.trans (M1 := mput A1 w 8 (A1 w 8 + 1)) ?_ q1) z4
          intro c k q
          have := mDA_bd q
          rw [mput_q (by omega)]; exact fr1 c k q
        · refine FB.trans (FB.trans (M1 := mput B1 218 7 (B1 218 7 + 1)) ?_ q2) z5
          intro c k q
          have := mDB_bd q
          rw [mput_q (by omega)]; exact fr2 c k q
        · rw [z6, ← a5]
          funext k
          rw [m7 _ k (mNA_of (by omega) (by omega)), mput_r (by omega)]
        · rw [z7, m8 218 9 (mNB_of (by omega) (by omega)), mput_s (by omega)]; exact b9
      · have h9' : ¬ 9 ≤ B1 218 (58 + 5 * i) := by rw [← ea]; exact h9
        refine Go.no (h9) ?_
        refine Go.some ?_
        refine Go.some ?_
        refine Go.no (by rw [nI_le' (by omega) (by omega)]; omega) ?_
        refine Go.gd (i4) ?_
        refine Go.gd (i4) ?_
        refine Go.gd (i4) ?_
        refine Go.no (h9') ?_
        refine Go.some ?_
        exact ⟨l, by omega, i + 1, A1, B1, m', r', rfl, rfl, by omega, hA, fr1, fr2, a5, b9⟩
end PmDay3
