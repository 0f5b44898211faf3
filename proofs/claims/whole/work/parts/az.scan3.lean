section PmScan3
def TW (A : Mm) (b : Nat → Nat) (L j : Nat) : Prop := A 162 0 = nI (cs b L + 1) ∧ (∀ p, p < L → sT b p = true → A 165 (cs b p) = nI p ∧ A 166 (cs b p) = nI (en b p L) ∧ (cs b p < j → tK b L p (A 163 (cs b p)) (A 164 (cs b p))) ∧ (j ≤ cs b p → A 163 (cs b p) = nI (cl (b p)) ∧ A 164 (cs b p) = 0)) ∧ A 163 (cs b L) = 2 ∧ A 165 (cs b L) = nI L
theorem digits {b : Nat → Nat} {p L k : Nat} (h : cl (b p) = 1) (h1 : p ≤ k) (h2 : k < en b p L) : 48 ≤ b k ∧ b k ≤ 57 := cl_1.mp (by rw [cl_same h1 h2]; exact h)
theorem weigh_num {A : Mm} {b : Nat → Nat} {p L j : Nat} (hL : L ≤ 400) (hj : j ≤ 400) (hp : p < L) (hb : ∀ k, k < L → A 178 k = jbyte (nI (b k)) ∧ b k < 256) (h4 : en b p L ≤ p + 4) (h1 : cl (b p) = 1) (h66 : A 166 j = nI (en b p L)) (h64 : A 164 j = 0) :
    Go (lp 1000000 (fun s => fO_weigh_b89 (nI j) s.1 s.2) (nI p, A)) (fun A' => A' 164 j = nI (nm b p (en b p L - p)) ∧ (∀ i, i ≠ j → A' 164 i = A 164 i) ∧ ∀ c, c ≠ 164 → A' c = A c) := by
  have gt := en_gt b p L
  have le := en_le b p L hp
  refine go_for (fun k s => ∃ A', s = (nI k, A') ∧ p ≤ k ∧ A' 164 j = nI (nm b p (k - p)) ∧ (∀ i, i ≠ j → A' 164 i = A 164 i) ∧ ∀ c, c ≠ 164 → A' c = A c) (en b p L) ?_ ?_ (i := p) (by omega) ⟨A, rfl, Nat.le_refl _, by rw [Nat.sub_self]; exact h64, fun _ _ => rfl, fun _ _ => rfl⟩ (by omega)
  · rintro s ⟨A', rfl, k1, k2, k3, fr⟩
    unfold fO_weigh_b89
    dsimp only
    rw [jix_nI (by omega)]
    refine Go.gd ((inb_nI (by omega)).mpr (by omega)) ?_
    refine Go.yes (by rw [fr 166 (by omega), h66]; exact i32_le.mpr (Int.le_refl _)) ?_
    refine Go.some ?_
    exact ⟨k2, k3, fr⟩
  · rintro k s hk ⟨A', rfl, k1, k2, k3, fr⟩
    unfold fO_weigh_b89
    dsimp only
    have ij : inb (nI j) 401 := (inb_nI (by omega)).mpr (by omega)
    have dg := digits h1 k1 hk
    have e1 : 10 * nI (nm b p (k - p)) + nI (b k) - 48 = nI (nm b p (k + 1 - p)) := by
      rw [show k + 1 - p = (k - p) + 1 by omega, (lit_nI _ : (10 : Int32) = nI 10), nI_mul', nI_add, (lit_nI _ : (48 : Int32) = nI 48), nI_sub' (by omega)]
      show _ = nI (10 * nm b p (k - p) + (b (p + (k - p)) - 48))
      rw [show p + (k - p) = k by omega]
      exact congrArg nI (by omega)
    simp only [jix_nI (show j < 2147483648 by omega), jix_nI (show k < 2147483648 by omega), fr 166 (by omega), h66, fr 178 (by omega), (hb k (by omega)).1, jb_lo (show b k < 128 by omega), k2, e1, nI_1]
    refine Go.gd (ij) ?_
    refine Go.no (by rw [nI_le' (by omega) (by omega)]; omega) ?_
    refine Go.gd (ij) ?_
    refine Go.gd ((inb_nI (by omega)).mpr (by omega)) ?_
    refine Go.gd (ij) ?_
    refine Go.some ?_
    exact ⟨_, rfl, by omega, mput_same _ _ _ _, fun i hi => by rw [mput_s hi]; exact k3 i hi, fun c hc => by rw [mput_r hc]; exact fr c hc⟩
theorem scan_2 {A : Mm} {b : Nat → Nat} {L : Nat} (hL : L ≤ 400) (hb : ∀ k, k < L → A 178 k = jbyte (nI (b k)) ∧ b k < 256) (h146 : A 146 2 = -1) (h : TW A b L 0) :
    Go (lp 1000000 (fun s => fO_scan_b124 s.1 s.2) (0, A)) (fun A' => TBL A' b L ∧ ∀ c, (c < 162 ∨ 166 < c) → A' c = A c) := by
  have cL := cs_le b L
  refine go_for (fun j s => ∃ A', s = (nI j, A') ∧ TW A' b L j ∧ ∀ c, (c < 162 ∨ 166 < c) → A' c = A c) (cs b L + 1) ?_ ?_ (i := 0) (by omega) ⟨A, rfl, h, fun _ _ => rfl⟩ (by omega)
  · rintro s ⟨A', rfl, ⟨t1, t2, t3, t4⟩, fr⟩
    unfold fO_scan_b124
    dsimp only
    refine Go.yes (by rw [t1]; exact i32_le.mpr (Int.le_refl _)) (Go.some ⟨⟨t1, fun p hp hs => ?_, t3, t4, by rw [fr 146 (by omega)]; exact h146⟩, fr⟩)
    have := cs_lt hp hs
    exact ⟨(t2 p hp hs).1, (t2 p hp hs).2.2.1 (by omega)⟩
  · rintro j s hj ⟨A', rfl, ⟨t1, t2, t3, t4⟩, fr⟩
    unfold fO_scan_b124 fO_weigh fO_weigh_j72
    dsimp only
    have ij : inb (nI j) 401 := (inb_nI (by omega)).mpr (by omega)
    simp only [jix_nI (show j < 2147483648 by omega), nI_1]
    refine Go.no (by rw [t1, nI_le' (by omega) (by omega)]; omega) ?_
    refine go_bind.mpr ?_
    by_cases ej : j = cs b L
    · rw [← ej] at t3 t4
      refine Go.gd (ij) ?_
      refine Go.no (by rw [t3]; decide) ?_
      refine Go.gd (ij) ?_
      refine Go.no (by rw [t3]; decide) ?_
      refine Go.gd (ij) ?_
      refine Go.no (by rw [t3]; decide) ?_
      refine Go.some ?_
      refine Go.some ?_
      rw [ej] at t3 t4
      refine ⟨A', rfl, ⟨t1, fun p hp hs => ?_, t3, t4⟩, fr⟩
      obtain ⟨q1, q2, q3, q4⟩ := t2 p hp hs
      have := cs_lt hp hs
      exact ⟨q1, q2, fun _ => q3 (by omega), fun k => by omega⟩
    obtain ⟨p, p1, p2, p3⟩ := cs_surj (b := b) L j (by omega)
    obtain ⟨q1, q2, -, q4⟩ := t2 p p1 p2
    obtain ⟨q5, q6⟩ := q4 (by omega)
    rw [p3] at q1 q2 q5 q6
    have gt := en_gt b p L
    have le := en_le b p L p1
    have c256 := cl_lt (b p) (hb p p1).2
    have e4 : nI (cl (b p)) = 4 ↔ cl (b p) = 4 := by rw [(lit_nI _ : (4 : Int32) = nI 4), nI_eq' (by omega) (by omega)]
    have e1 : nI (cl (b p)) = 1 ↔ cl (b p) = 1 := by rw [(lit_nI _ : (1 : Int32) = nI 1), nI_eq' (by omega) (by omega)]
    have fin : ∀ {A2 : Mm}, A2 162 = A' 162 → A2 165 = A' 165 → A2 166 = A' 166 → (∀ i, i ≠ j → A2 163 i = A' 163 i ∧ A2 164 i = A' 164 i) → tK b L p (A2 163 j) (A2 164 j) → (∀ c, (c < 162 ∨ 166 < c) → A2 c = A' c) → ∃ A3, (nI (j + 1), A2) = (nI (j + 1), A3) ∧ TW A3 b L (j + 1) ∧ ∀ c, (c < 162 ∨ 166 < c) → A3 c = A c := fun {A2} a2 a5 a6 a34 tk fr2 => by
      refine ⟨A2, rfl, ⟨by rw [a2]; exact t1, fun q hq hs => ?_, by rw [(a34 _ (fun k => ej k.symm)).1]; exact t3, by rw [a5]; exact t4⟩, fun c hc => by rw [fr2 c hc]; exact fr c hc⟩
      obtain ⟨r1, r2, r3, r4⟩ := t2 q hq hs
      rw [a5, a6]
      by_cases z : cs b q = j
      · have : q = p := cs_inj hs p2 (by omega)
        subst this
        exact ⟨r1, r2, fun _ => by rw [z]; exact tk, fun k => by omega⟩
      · rw [(a34 _ z).1, (a34 _ z).2]
        exact ⟨r1, r2, fun k => r3 (by omega), fun k => r4 (by omega)⟩
    refine Go.gd (ij) ?_
    by_cases c4 : cl (b p) = 4
    · refine Go.yes (by rw [q5]; exact e4.mpr c4) ?_
      refine Go.gd (ij) ?_
      refine Go.gd (ij) ?_
      refine go_bind.mpr ?_
      rw [q1, q2]
      obtain ⟨r, r1, r2⟩ := wordOf_eq (A := A') (b := b) gt (fun k h1 h2 => by rw [fr 178 (by omega)]; exact hb k (by omega)) (by omega)
      rw [r1]
      refine Go.some ?_
      refine Go.gd (ij) ?_
      refine Go.some ?_
      refine Go.some ?_
      exact fin (mput_r (by omega)) (mput_r (by omega)) (mput_r (by omega)) (fun i hi => ⟨mput_s hi, by rw [mput_r (by omega)]⟩) (by rw [mput_same]; exact Or.inl ⟨c4, r2⟩) (fun c hc => mput_r (by omega))
    · refine Go.no (by rw [q5]; exact fun k => c4 (e4.mp k)) ?_
      refine Go.gd (ij) ?_
      by_cases c1 : cl (b p) = 1
      · refine Go.yes (by rw [q5]; exact e1.mpr c1) ?_
        refine Go.gd (ij) ?_
        refine Go.gd (ij) ?_
        rw [q1, q2, nI_sub' (by omega)]
        by_cases l : en b p L ≤ p + 4
        · refine Go.yes (by rw [(lit_nI _ : (4 : Int32) = nI 4), nI_le' (by omega) (by omega)]; omega) ?_
          refine Go.gd (ij) ?_
          refine Go.yes (by rw [q5]; exact e1.mpr c1) ?_
          refine Go.gd (ij) ?_
          refine go_bind.mpr ?_
          obtain ⟨A2, z1, z2, z3, z4⟩ := weigh_num (A := A') (b := b) hL (show j ≤ 400 by omega) p1 (fun k hk => by rw [fr 178 (by omega)]; exact hb k hk) l c1 q2 q6
          rw [z1]
          refine Go.some ?_
          refine Go.some ?_
          refine Go.some ?_
          exact fin (z4 162 (by omega)) (z4 165 (by omega)) (z4 166 (by omega)) (fun i hi => ⟨by rw [z4 163 (by omega)], z3 i hi⟩) (by rw [z4 163 (by omega), q5]; exact Or.inr (Or.inl ⟨c1, l, e1.mpr c1, z2⟩)) (fun c hc => z4 c (by omega))
        · refine Go.no (by rw [(lit_nI _ : (4 : Int32) = nI 4), nI_le' (by omega) (by omega)]; omega) ?_
          refine Go.gd (ij) ?_
          refine Go.some ?_
          refine Go.some ?_
          exact fin (mput_r (by omega)) (mput_r (by omega)) (mput_r (by omega)) (fun i hi => ⟨mput_s hi, by rw [mput_r (by omega)]⟩) (by rw [mput_same]; exact Or.inr (Or.inr (Or.inl ⟨c1, by omega, rfl⟩))) (fun c hc => mput_r (by omega))
      · refine Go.no (by rw [q5]; exact fun k => c1 (e1.mp k)) ?_
        refine Go.gd (ij) ?_
        refine Go.no (by rw [q5]; exact fun k => c1 (e1.mp k)) ?_
        refine Go.some ?_
        refine Go.some ?_
        exact fin rfl rfl rfl (fun _ _ => ⟨rfl, rfl⟩) (by rw [q5]; exact Or.inr (Or.inr (Or.inr ⟨c4, c1, rfl⟩))) (fun _ _ => rfl)
theorem scan_go {A : Mm} {b : Nat → Nat} {L : Nat} (hL : L ≤ 400) (hb : ∀ k, k < L → A 178 k = jbyte (nI (b k)) ∧ b k < 256) (h146 : A 146 2 = -1) : Go (fO_scan (nI L) A) (fun A' => TBL A' b L ∧ ∀ c, (c < 162 ∨ 166 < c) → A' c = A c) := by
  have cL := cs_le b L
  unfold fO_scan
  refine Go.bind (scan_1 (A := mput A 162 0 0) (b := b) hL (fun k hk => by rw [mput_r (by omega)]; exact hb k hk) (mput_same _ _ _ _)) ?_
  rintro A1 ⟨⟨s1, s2⟩, fr1⟩
  dsimp only
  rw [add_eq 2 (nI L) (nI L) (by omega) s1]
  refine go_bind.mpr ?_
  refine Go.some ?_
  refine Go.bind (scan_2 (b := b) hL (fun k hk => ?_) (by rw [mput_r (by omega), mput_r (by omega), mput_r (by omega), mput_r (by omega), mput_r (by omega), fr1 146 (by omega), mput_r (by omega)]; exact h146) ?_) (fun A2 h2 => Go.some ⟨h2.1, fun c hc => ?_⟩)
  · rw [mput_r (by omega), mput_r (by omega), mput_r (by omega), mput_r (by omega), mput_r (by omega), fr1 178 (by omega), mput_r (by omega)]; exact hb k hk
  · refine ⟨mput_same _ _ _ _, fun p hp hs => ?_, ?_, ?_⟩
    · obtain ⟨a1, a2, a3, a4⟩ := s2 p hp hs
      have lt := cs_lt hp hs
      rw [mput_r (show 165 ≠ 162 by omega), mput_r (show 165 ≠ 166 by omega), mput_s (by omega), mput_r (show 165 ≠ 164 by omega), mput_r (show 165 ≠ 163 by omega), mput_r (show 166 ≠ 162 by omega), mput_s (by omega), mput_r (show 166 ≠ 165 by omega), mput_r (show 166 ≠ 164 by omega), mput_r (show 166 ≠ 163 by omega)]
      refine ⟨a3, a4, fun k => by omega, fun _ => ?_⟩
      rw [mput_r (show 163 ≠ 162 by omega), mput_r (show 163 ≠ 166 by omega), mput_r (show 163 ≠ 165 by omega), mput_r (show 163 ≠ 164 by omega), mput_s (by omega), mput_r (show 164 ≠ 162 by omega), mput_r (show 164 ≠ 166 by omega), mput_r (show 164 ≠ 165 by omega), mput_s (by omega), mput_r (show 164 ≠ 163 by omega)]
      exact ⟨a1, a2⟩
    · rw [mput_r (by omega), mput_r (by omega), mput_r (by omega), mput_r (by omega), mput_same]
    · rw [mput_r (by omega), mput_r (by omega), mput_same]
  · rw [h2.2 c hc, mput_r (by omega), mput_r (by omega), mput_r (by omega), mput_r (by omega), mput_r (by omega), fr1 c hc, mput_r (by omega)]
end PmScan3
