section PmCome
variable {β : Nat → Int32}
theorem DR_note {A B A' B' : Mm} {w n m r r' h : Nat} (hw : w = 1 ∨ w = 16) (hD : WD A w (B 218) (B 221) n) (hB : WB A w (B 218) m) (hS : WS A w (B 218) r h) (hX : RX A B) (m3 : Th w β A' B') (m4 : r' ≤ 150) (m5 : A' w 4 = nI r') (m6 : B' 218 2 = nI r') (m7 : FB (mNA w) A A') (m8 : FB mNB B B') : DR w β A' B' n m r' h := by
  have fA : ∀ c k, c ≠ w + 14 → (c ≠ w ∨ k ≠ 4) → A' c k = A c k := fun c k h1 h2 => m7 c k (mNA_of h1 h2)
  have fB : ∀ c k, c ≠ 222 → (c ≠ 218 ∨ k ≠ 2) → B' c k = B c k := fun c k h1 h2 => m8 c k (mNB_of h1 h2)
  refine ⟨?_, ?_, ?_, m3, ?_⟩
  · exact WD_congr (fun c h1 h2 => funext fun k => fA c k (by omega) (by omega)) (fun k h1 h2 => fB 218 k (by omega) (by omega)) (fun k _ => fB 221 k (by omega) (by omega)) hD
  · exact WB_congr (fun c h1 h2 => funext fun k => fA c k (by omega) (by omega)) (fun k h1 => fB 218 k (by omega) (by omega)) hB
  · refine WS_fin (x := B 218 3) hS m4 (funext fun k => fA _ k (by omega) (by omega)) (fun k h1 h2 h3 => fA w k (by omega) (by omega)) m5 ?_ (fB 218 3 (by omega) (by omega)) m6 (fun k hk => fB 218 k (by omega) (by omega))
    rw [fA w 9 (by omega) (by omega)]
    exact hS.2.2.2.2.2.2.2.2.2.2.1
  · exact RX_congr (fun c k q => by have := aX_bd q; exact fA c k (by omega) (by omega)) (fun c k q => by have := bX_bd q; exact fB c k (by omega) (by omega)) hX
theorem note_fr {A A' B B' : Mm} {w : Nat} (hw : w = 1 ∨ w = 16) (m7 : FB (mNA w) A A') (m8 : FB mNB B B') : FB (mDA w) A A' ∧ FB mDB B B' :=
  ⟨fun c k q => by have := mDA_bd q; exact m7 c k (mNA_of (by omega) (by omega)), fun c k q => by have := mDB_bd q; exact m8 c k (mNB_of (by omega) (by omega))⟩
theorem come_sim {A B : Mm} {w n m r h c d κ μ : Nat} (hw : w = 1 ∨ w = 16) (hR : DR w β A B n m r h) (hm : m < 24) (hc : c < 2147483000) (b9 : B 218 9 = nI c) (hd : d < 12) (hκ : κ < 7) (μ1 : 1 ≤ μ) (hμ : μ ≤ 99) :
    ∃ A' B' r', fW_arrive w (nI d) (nI κ) (nI μ) A = some (nI c, A') ∧ fM_comes (nI d) (nI κ) (nI μ) B = some (nI c, B') ∧ DR w β A' B' n (m + 1) r' h ∧ B' 218 9 = nI (c + 1) ∧ FB (mDA w) A A' ∧ FB mDB B B' ∧ A' (w + 5) = A (w + 5) := by
  obtain ⟨hD, hB, hS, hT, hX⟩ := hR
  obtain ⟨b1, b2, b3, b4, b5⟩ := hB
  have a71 : A (w + 7) 1 = nI c := b4.trans b9
  obtain ⟨A1, hA1⟩ : ∃ A1, A1 = mput (mput (mput (mput (mput (mput (mput A (w + 8) m (nI c)) (w + 9) m (nI d)) (w + 10) m (nI κ)) (w + 11) m (nI μ)) (w + 12) m 0) (w + 7) 0 (nI (m + 1))) (w + 7) 1 (nI (c + 1)) := ⟨_, rfl⟩
  obtain ⟨B1, hB1⟩ : ∃ B1, B1 = mput (mput (mput (mput (mput (mput (mput B 218 (54 + 5 * m) (nI c)) 218 (55 + 5 * m) (nI d)) 218 (56 + 5 * m) (nI κ)) 218 (57 + 5 * m) (nI μ)) 218 (58 + 5 * m) 0) 218 10 (nI (m + 1))) 218 9 (nI (c + 1)) := ⟨_, rfl⟩
  have fA : ∀ c' k, ¬ (w + 8 ≤ c' ∧ c' ≤ w + 12 ∧ k = m) → (c' ≠ w + 7 ∨ (k ≠ 0 ∧ k ≠ 1)) → A1 c' k = A c' k := fun c' k h1 h2 => by
    rw [hA1]; simp (disch := omega) only [mput_q]
  have fB : ∀ c' k, (c' ≠ 218 ∨ ((k < 54 + 5 * m ∨ 58 + 5 * m < k) ∧ k ≠ 9 ∧ k ≠ 10)) → B1 c' k = B c' k := fun c' k h1 => by
    rw [hB1]; simp (disch := omega) only [mput_q]
  have hD1 : WD A1 w (B1 218) (B1 221) n := WD_congr (fun c' h1 h2 => funext fun k => fA c' k (by omega) (by omega)) (fun k h1 h2 => fB 218 k (by omega)) (fun k _ => fB 221 k (by omega)) hD
  have hS1 : WS A1 w (B1 218) r h := WS_congr (funext fun k => fA _ k (by omega) (by omega)) (fun k _ _ => fA w k (by omega) (by omega)) (fun k _ => fB 218 k (by omega)) hS
  have hX1 : RX A1 B1 := RX_congr (fun c' k q => by have := aX_bd q; exact fA c' k (by omega) (by omega)) (fun c' k q => by have := bX_bd q; exact fB c' k (by omega)) hX
  have hT1 : Th w β A1 B1 := Th_congr (fA 1 13 (by omega) (by omega)) (fA 16 13 (by omega) (by omega)) (fun q => funext fun k => fA 15 k (by omega) (by omega)) (fB 217 5 (by omega)) (funext fun k => fB 222 k (by omega)) hT
  have hB2 : WB A1 w (B1 218) (m + 1) := by
    refine ⟨by omega, ?_, ?_, ?_, fun j hj => ?_⟩
    · rw [hA1]; simp (disch := omega) only [mput_s, mput_same]
    · rw [hB1]; simp (disch := omega) only [mput_s, mput_same]
    · rw [hA1, hB1, mput_same, mput_same]
    · by_cases e : j = m
      · subst e
        rw [hA1, hB1]
        unfold WL
        simp (disch := omega) only [mput_s, mput_same, mput_r]
        exact ⟨trivial, trivial, trivial, trivial, trivial, ⟨d, hd, rfl⟩, ⟨κ, hκ, rfl⟩, ⟨μ, μ1, hμ, rfl⟩⟩
      · exact WL_congr (fun c' h1 h2 => fA c' j (by omega) (by omega)) (fun k hk => fB 218 _ (by omega)) (b5 j (by omega))
  have s1 := hS1
  obtain ⟨s1r, -, -, s14, s15, -, -, -, -, -, -, -, s113, -⟩ := s1
  obtain ⟨A', B', r', m1, m2, m3, m4, m5, m6, m7, m8⟩ := note2 0 (nI c) (nI d) hT1 s1r s14 s15 s113
  obtain ⟨fr1, fr2⟩ := note_fr hw m7 m8
  have jm : jix (nI m) = m := jix_nI (by omega)
  have im : inb (nI m) 24 := (inb_nI (by omega)).mpr hm
  refine ⟨A', B', r', ?_, ?_, DR_note hw hD1 hB2 hS1 hX1 m3 m4 m5 m6 m7 m8, ?_, ?_, ?_, ?_⟩
  · apply Go.eq
    unfold fW_arrive fB_add
    have e0 : ∀ (M : Mm) b k v, M (w + 7) 0 = nI m → b ≠ w + 7 → mput M b k v (w + 7) 0 = nI m := fun M b k v e q => by rw [mput_r (by omega)]; exact e
    have b2' : A (w + 7) 0 = nI m := b2
    simp (disch := omega) only [Nat.add_assoc, Nat.reduceAdd, mput_r, b2', jm, a71, mput_s, mput_same]
    refine go_bind.mpr ?_
    refine Go.yes (by rw [lit_nI, nI_lt' (by omega) (by omega)]; exact hm) ?_
    refine Go.gd (im) ?_
    refine Go.gd (im) ?_
    refine Go.gd (im) ?_
    refine Go.gd (im) ?_
    refine Go.gd (im) ?_
    refine Go.some ?_
    have ec : nI c + 1 - 1 = nI c := by rw [nI_1, nI_pred]
    simp only [nI_1, nI_pred, ec]
    refine go_bind.mpr ?_
    refine Go.no (nI_neg1 (by omega)) ?_
    refine Go.some ?_
    rw [if_neg (nI_neg1 (by omega)), ← hA1, m1]
    refine go_bind.mpr ?_
    refine Go.some ?_
    refine Go.some ?_
    rfl
  · apply Go.eq
    unfold fM_comes
    have la : fM_letterAt (nI m) = nI (54 + 5 * m) := by unfold fM_letterAt; rw [lit_nI, lit_nI, nI_mul', nI_add]
    have p : ∀ a : Nat, a < 5 → nI (54 + 5 * m) + nI a = nI (54 + a + 5 * m) := fun a ha => by rw [nI_add]; exact congrArg nI (by omega)
    have p1 : nI (54 + 5 * m) + 1 = nI (55 + 5 * m) := p 1 (by omega)
    have p2 : nI (54 + 5 * m) + 2 = nI (56 + 5 * m) := p 2 (by omega)
    have p3 : nI (54 + 5 * m) + 3 = nI (57 + 5 * m) := p 3 (by omega)
    have p4 : nI (54 + 5 * m) + 4 = nI (58 + 5 * m) := p 4 (by omega)
    have ix : ∀ t, t < 5 → inb (nI (54 + t + 5 * m)) 174 := fun t ht => (inb_nI (by omega)).mpr (by omega)
    have j4 : jix (nI (54 + 5 * m)) = 54 + 5 * m := jix_nI (by omega)
    have j5 : jix (nI (55 + 5 * m)) = 55 + 5 * m := jix_nI (by omega)
    have j6 : jix (nI (56 + 5 * m)) = 56 + 5 * m := jix_nI (by omega)
    have j7 : jix (nI (57 + 5 * m)) = 57 + 5 * m := jix_nI (by omega)
    have j8 : jix (nI (58 + 5 * m)) = 58 + 5 * m := jix_nI (by omega)
    simp (disch := omega) only [b3, la, p1, p2, p3, p4, j4, j5, j6, j7, j8, b9, mput_s, mput_same, nI_1]
    refine Go.gd (ix 0 (by omega)) ?_
    refine Go.gd (ix 1 (by omega)) ?_
    refine Go.gd (ix 2 (by omega)) ?_
    refine Go.gd (ix 3 (by omega)) ?_
    refine Go.gd (ix 4 (by omega)) ?_
    refine Go.gd (ix 0 (by omega)) ?_
    rw [← hB1, m2]
    refine go_bind.mpr ?_
    refine Go.some ?_
    refine Go.gd (ix 0 (by omega)) ?_
    refine Go.some ?_
    have e54 : B' 218 (54 + 5 * m) = nI c := by
      rw [m8 218 _ (mNB_of (by omega) (by omega)), hB1]
      simp (disch := omega) only [mput_s, mput_same]
    rw [e54]
  · rw [m8 218 9 (mNB_of (by omega) (by omega)), hB1, mput_same]
  · refine FB.trans (fun c' k q => ?_) fr1
    have := mDA_bd q
    exact fA c' k (by omega) (by omega)
  · refine FB.trans (fun c' k q => ?_) fr2
    have := mDB_bd q
    exact fB c' k (by omega)
  · funext k
    rw [m7 _ k (mNA_of (by omega) (by omega)), fA _ k (by omega) (by omega)]
/-- no room: the letter is lost -/
theorem lose_sim {A B : Mm} {w n r h d : Nat} (x2 x3 : Int32) (hw : w = 1 ∨ w = 16) (hR : DR w β A B n 24 r h) :
    ∃ A' B' r', fW_arrive w (nI d) x2 x3 A = some (-1, A') ∧ fM_notes 3 (-1) (nI d) (mput B 218 7 (B 218 7 + 1)) = some B' ∧ DR w β A' B' n 24 r' h ∧ B' 218 9 = B 218 9 ∧ FB (mDA w) A A' ∧ FB mDB B B' ∧ A' (w + 5) = A (w + 5) := by
  obtain ⟨hD, hB, hS, hT, hX⟩ := hR
  have hB0 := hB
  obtain ⟨b1, b2, b3, b4, b5⟩ := hB0
  have s0 := hS
  obtain ⟨s1, s2, s3, s4, s5, s6, s7, s8, s9, s10, s11, s12, s13, s14⟩ := s0
  obtain ⟨A1, hA1⟩ : ∃ A1, A1 = mput A w 8 (A w 8 + 1) := ⟨_, rfl⟩
  obtain ⟨B1, hB1⟩ : ∃ B1, B1 = mput B 218 7 (B 218 7 + 1) := ⟨_, rfl⟩
  have fA : ∀ c' k, (c' ≠ w ∨ k ≠ 8) → A1 c' k = A c' k := fun c' k h2 => by rw [hA1, mput_q (by omega)]
  have fB : ∀ c' k, (c' ≠ 218 ∨ k ≠ 7) → B1 c' k = B c' k := fun c' k h1 => by rw [hB1, mput_q (by omega)]
  have hD1 : WD A1 w (B1 218) (B1 221) n := WD_congr (fun c' h1 h2 => funext fun k => fA c' k (by omega)) (fun k h1 h2 => fB 218 k (by omega)) (fun k _ => fB 221 k (by omega)) hD
  have hB2 : WB A1 w (B1 218) 24 := WB_congr (fun c' h1 h2 => funext fun k => fA c' k (by omega)) (fun k h1 => fB 218 k (by omega)) hB
  have hS1 : WS A1 w (B1 218) r h := by
    refine ⟨s1, s2, fun k hk => by rw [fA _ k (by omega), fB _ _ (by omega)]; exact s3 k hk, ?_, ?_, ?_, ?_, ?_, ?_, ?_, ?_, ?_, ?_, ?_⟩
    · rw [fA _ _ (by omega)]; exact s4
    · rw [fB _ _ (by omega)]; exact s5
    · rw [fA _ _ (by omega)]; exact s6
    · rw [fB _ _ (by omega)]; exact s7
    · rw [fA _ _ (by omega), fB _ _ (by omega)]; exact s8
    · rw [fA _ _ (by omega), fB _ _ (by omega)]; exact s9
    · rw [hA1, hB1, mput_same, mput_same, s10]
    · rw [fA _ _ (by omega), fB _ _ (by omega)]; exact s11
    · rw [fA _ _ (by omega), fB _ _ (by omega)]; exact s12
    · rw [fA _ _ (by omega), fB _ _ (by omega)]; exact s13
    · rw [fA _ _ (by omega), fB _ _ (by omega)]; exact s14
  have hX1 : RX A1 B1 := RX_congr (fun c' k q => by have := aX_bd q; exact fA c' k (by omega)) (fun c' k q => by have := bX_bd q; exact fB c' k (by omega)) hX
  have hT1 : Th w β A1 B1 := Th_congr (fA 1 13 (by omega)) (fA 16 13 (by omega)) (fun q => funext fun k => fA 15 k (by omega)) (fB 217 5 (by omega)) (funext fun k => fB 222 k (by omega)) hT
  have s1' := hS1
  obtain ⟨s1r, -, -, s14', s15, -, -, -, -, -, -, -, s113, -⟩ := s1'
  obtain ⟨A', B', r', m1, m2, m3, m4, m5, m6, m7, m8⟩ := note2 3 (-1) (nI d) hT1 s1r s14' s15 s113
  obtain ⟨fr1, fr2⟩ := note_fr hw m7 m8
  refine ⟨A', B', r', ?_, ?_, DR_note hw hD1 hB2 hS1 hX1 m3 m4 m5 m6 m7 m8, ?_, ?_, ?_, ?_⟩
  · apply Go.eq
    unfold fW_arrive fB_add
    refine go_bind.mpr ?_
    refine Go.no (by rw [b2]; decide) ?_
    refine Go.some ?_
    try dsimp only
    refine go_bind.mpr ?_
    refine Go.yes (by first | rfl | (simp; done)) ?_
    refine Go.some ?_
    try dsimp only
    rw [if_pos rfl, ← hA1, m1]
    refine go_bind.mpr ?_
    refine Go.some ?_
    refine Go.some ?_
    rfl
  · rw [← hB1]; exact m2
  · rw [m8 218 9 (mNB_of (by omega) (by omega)), fB 218 9 (by omega)]
  · refine FB.trans (fun c' k q => ?_) fr1
    have := mDA_bd q
    exact fA c' k (by omega)
  · refine FB.trans (fun c' k q => ?_) fr2
    have := mDB_bd q
    exact fB c' k (by omega)
  · funext k
    rw [m7 _ k (mNA_of (by omega) (by omega)), fA _ k (by omega)]
end PmCome
