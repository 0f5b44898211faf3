section PmFw2
def fwN (D : Nat → Nat → Nat) (v a b : Nat) : Nat := min (D a b) (D a v + D v b)
theorem fwK_row {A : Mm} {D : Nat → Nat → Nat} {n v a : Nat} (hn : n ≤ 12) (hv : v < n) (ha : a < n) (hD : ∀ a b, a < n → b < n → D a b ≤ 1000000) (vv : D v v = 0) (h : ∀ a' b', a' < n → b' < n → A 174 (12 * a' + b') = nI (if a' < a then fwN D v a' b' else D a' b')) :
    Go (lp 1000000 (fun s => fY_measure_b93 (nI n) (nI v) (nI a) s.1 s.2) (0, A)) (fun A' => ∀ a' b', a' < n → b' < n → A' 174 (12 * a' + b') = nI (if a' < a + 1 then fwN D v a' b' else D a' b')) := by
  refine go_for (fun i s => ∃ A', s = (nI i, A') ∧ ∀ a' b', a' < n → b' < n → A' 174 (12 * a' + b') = nI (if a' < a ∨ (a' = a ∧ b' < i) then fwN D v a' b' else D a' b')) n ?_ ?_ (i := 0) (by omega) ⟨A, rfl, fun a' b' h1 h2 => ?_⟩ (by omega)
  · rintro s ⟨A', rfl, k⟩
    unfold fY_measure_b93
    dsimp only
    refine Go.yes (i32_le.mpr (Int.le_refl _)) (Go.some fun a' b' h1 h2 => ?_)
    rw [k a' b' h1 h2]
    by_cases c : a' < a + 1
    · rw [if_pos c, if_pos (by omega)]
    · rw [if_neg c, if_neg (by omega)]
  · rintro i s hi ⟨A', rfl, k⟩
    unfold fY_measure_b93
    dsimp only
    have k1 := k a v ha hv
    have k2 := k v i hv hi
    have k3 := k a i ha hi
    rw [if_neg (by omega)] at k3
    have e1 : (if a < a ∨ (a = a ∧ v < i) then fwN D v a v else D a v) = D a v := by
      unfold fwN; split <;> omega
    have e2 : (if v < a ∨ (v = a ∧ i < i) then fwN D v v i else D v i) = D v i := by
      unfold fwN; split <;> omega
    rw [e1] at k1
    rw [e2] at k2
    have d1 := hD a v ha hv
    have d2 := hD v i hv hi
    have d3 := hD a i ha hi
    simp only [ix12, nI_1, jix_nI (show 12 * a + i < 2147483648 by omega), jix_nI (show 12 * a + v < 2147483648 by omega), jix_nI (show 12 * v + i < 2147483648 by omega), k1, k2, k3, nI_add, jmin_nI (show D a i < 2147483648 by omega) (show D a v + D v i < 2147483648 by omega)]
    refine Go.no (by rw [nI_le' (by omega) (by omega)]; omega) ?_
    refine Go.gd ((inb_nI (by omega)).mpr (by omega)) ?_
    refine Go.gd ((inb_nI (by omega)).mpr (by omega)) ?_
    refine Go.gd ((inb_nI (by omega)).mpr (by omega)) ?_
    refine Go.gd ((inb_nI (by omega)).mpr (by omega)) ?_
    refine Go.some ?_
    refine ⟨_, rfl, fun a' b' h1 h2 => ?_⟩
    by_cases e : a' = a ∧ b' = i
    · obtain ⟨rfl, rfl⟩ := e
      rw [mput_same, if_pos (by omega)]; rfl
    · rw [mput_s (by omega), k a' b' h1 h2]
      by_cases c : a' < a ∨ (a' = a ∧ b' < i)
      · rw [if_pos c, if_pos (by omega)]
      · rw [if_neg c, if_neg (by omega)]
  · rw [h a' b' h1 h2]
    by_cases c : a' < a
    · rw [if_pos c, if_pos (by omega)]
    · rw [if_neg c, if_neg (by omega)]
theorem fwK_round {A : Mm} {D : Nat → Nat → Nat} {n v : Nat} (hn : n ≤ 12) (hv : v < n) (hD : ∀ a b, a < n → b < n → D a b ≤ 1000000) (vv : D v v = 0) (h : ∀ a' b', a' < n → b' < n → A 174 (12 * a' + b') = nI (D a' b')) :
    Go (lp 1000000 (fun s => fY_measure_b84 (nI n) (nI v) s.1 s.2) (0, A)) (fun A' => ∀ a' b', a' < n → b' < n → A' 174 (12 * a' + b') = nI (fwN D v a' b')) := by
  refine go_for (fun a s => ∃ A', s = (nI a, A') ∧ ∀ a' b', a' < n → b' < n → A' 174 (12 * a' + b') = nI (if a' < a then fwN D v a' b' else D a' b')) n ?_ ?_ (i := 0) (by omega) ⟨A, rfl, fun a' b' h1 h2 => by rw [if_neg (by omega)]; exact h a' b' h1 h2⟩ (by omega)
  · rintro s ⟨A', rfl, k⟩
    unfold fY_measure_b84
    dsimp only
    refine Go.yes (i32_le.mpr (Int.le_refl _)) (Go.some fun a' b' h1 h2 => ?_)
    rw [k a' b' h1 h2, if_pos h1]
  · rintro a s ha ⟨A', rfl, k⟩
    unfold fY_measure_b84
    dsimp only
    refine Go.no (by rw [nI_le' (by omega) (by omega)]; omega) ?_
    refine Go.bind (fwK_row hn hv ha hD vv k) fun A2 k2 => Go.some ?_
    rw [nI_1]
    exact ⟨A2, rfl, k2⟩
theorem fwK_all {A : Mm} {d : Nat → Nat → Nat} {n : Nat} (hn : n ≤ 12) (h9 : ∀ a b, a < n → b < n → (d a b = 1000000 ∨ d a b ≤ 99)) (h0 : ∀ a, a < n → d a a = 0) (h : ∀ a b, a < n → b < n → A 174 (12 * a + b) = nI (d a b)) :
    Go (lp 1000000 (fun s => fY_measure_b76 (nI n) s.1 s.2) (0, A)) (fun A' => ∀ a b, a < n → b < n → A' 174 (12 * a + b) = nI (FW d n a b)) := by
  refine go_for (fun v s => ∃ A', s = (nI v, A') ∧ ∀ a b, a < n → b < n → A' 174 (12 * a + b) = nI (FW d v a b)) n ?_ ?_ (i := 0) (by omega) ⟨A, rfl, h⟩ (by omega)
  · rintro s ⟨A', rfl, k⟩
    unfold fY_measure_b76
    dsimp only
    exact Go.yes (i32_le.mpr (Int.le_refl _)) (Go.some k)
  · rintro v s hv ⟨A', rfl, k⟩
    unfold fY_measure_b76
    dsimp only
    refine Go.no (by rw [nI_le' (by omega) (by omega)]; omega) ?_
    refine Go.bind (fwK_round hn hv (fun a b ha hb => by have := (fw_bound hn h9 h0 (v := v) (by omega) ha hb).1; omega) (fw_bound hn h9 h0 (v := v) (by omega) hv hv).2 k) fun A2 k2 => Go.some ?_
    rw [nI_1]
    exact ⟨A2, rfl, k2⟩
/-- the ways, with their true bound -/
theorem ways_go2 {A B : Mm} {n : Nat} (hn : n ≤ 12) (h6 : B 217 6 = nI n) (hs : ∀ k, k < 144 → A 137 k = B 235 k ∧ ∃ s, s ≤ 99 ∧ B 235 k = nI s) :
    Go (fY_measure (nI n) A) (fun A' => Go (fM_findsWays B) (fun B' => (∃ d : Nat → Nat → Nat, ∀ a b, a < n → b < n → (d a b = 1000000 ∨ d a b ≤ 1287) ∧ A' 174 (12 * a + b) = nI (d a b) ∧ B' 238 (12 * a + b) = nI (if d a b = 1000000 then 100000000 else d a b)) ∧ WF A B A' B')) := by
  obtain ⟨A1, z1, B1, z2, z3, z4⟩ := init_go hn h6 hs
  obtain ⟨A2, y1, B2, y2, y3, y4⟩ := rounds_go hn (by rw [z4.2 217 (by omega)]; exact h6) z3
  obtain ⟨d, hd⟩ := Classical.axiomOfChoice (r := fun (k : Nat) (c : Nat) => (∃ a b, a < n ∧ b < n ∧ k = 12 * a + b) → A1 174 k = nI c ∧ (c = 1000000 ∨ c ≤ 99)) (fun k => by
    by_cases e : ∃ a b, a < n ∧ b < n ∧ k = 12 * a + b
    · obtain ⟨a, b, ha, hb, rfl⟩ := e
      rcases z3.1 a b ha hb with ⟨c, c1, c2, -⟩ | ⟨c2, -⟩
      · exact ⟨c, fun _ => ⟨c2, Or.inr c1⟩⟩
      · exact ⟨1000000, fun _ => ⟨c2, Or.inl rfl⟩⟩
    · exact ⟨0, fun e' => absurd e' e⟩)
  have hd' : ∀ a b, a < n → b < n → A1 174 (12 * a + b) = nI (d (12 * a + b)) ∧ (d (12 * a + b) = 1000000 ∨ d (12 * a + b) ≤ 99) := fun a b ha hb => hd _ ⟨a, b, ha, hb, rfl⟩
  have d0 : ∀ a, a < n → d (12 * a + a) = 0 := fun a ha => by
    have e := (hd' a a ha ha).1
    rw [(z3.2 a ha).1, nI_eq' (by omega) (by have := (hd' a a ha ha).2; omega)] at e
    exact e.symm
  obtain ⟨A3, w1, w2⟩ := fwK_all (A := A1) (d := fun a b => d (12 * a + b)) hn (fun a b ha hb => (hd' a b ha hb).2) d0 (fun a b ha hb => (hd' a b ha hb).1)
  have e23 : A3 = A2 := by rw [y1] at w1; exact (Option.some.inj w1).symm
  subst e23
  unfold fY_measure fM_findsWays
  refine go_bind.mpr ?_
  rw [z1]
  refine Go.some ?_
  refine go_bind.mpr ?_
  rw [y1]
  refine Go.some ?_
  refine Go.some ?_
  refine go_bind.mpr ?_
  rw [z2]
  refine Go.some ?_
  refine go_bind.mpr ?_
  rw [y2]
  refine Go.some ?_
  refine Go.some ?_
  refine ⟨⟨fun a b => FW (fun a b => d (12 * a + b)) n a b, fun a b ha hb => ?_⟩, z4.trans y4⟩
  have bb := (fw_bound hn (fun a b ha hb => (hd' a b ha hb).2) d0 (v := n) (Nat.le_refl _) ha hb).1
  have wab := w2 a b ha hb
  refine ⟨bb, wab, ?_⟩
  dsimp only
  rcases y3.1 a b ha hb with ⟨c, c1, c2, c3⟩ | ⟨c2, c3⟩
  · rw [wab, nI_eq' (by omega) (by omega)] at c2
    rw [if_neg (by omega), c3, c2]
  · rw [wab, nI_eq' (by omega) (by omega)] at c2
    rw [if_pos c2, c3]
end PmFw2
