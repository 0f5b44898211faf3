section PmWays2
theorem WF.trans {A B A1 B1 A2 B2 : Mm} (h : WF A B A1 B1) (k : WF A1 B1 A2 B2) : WF A B A2 B2 := ⟨fun c q => (k.1 c q).trans (h.1 c q), fun c q => (k.2 c q).trans (h.2 c q)⟩
theorem row_go {A B : Mm} {n v a β : Nat} (hn : n ≤ 12) (hv : v < n) (ha : a < n) (hβ : β ≤ 300000) (h6 : B 217 6 = nI n) (h : DD A B n v β) :
    Go (lp 1000000 (fun s => fY_measure_b93 (nI n) (nI v) (nI a) s.1 s.2) (0, A)) (fun A' => Go (lp 1000000 (fun s => fM_findsWays_b105 (nI v) (nI a) s.1 s.2) (0, B)) (fun B' => DD A' B' n v β ∧ WF A B A' B')) := by
  refine go_for2 (fun i s t => ∃ A1 B1, s = (nI i, A1) ∧ t = (nI i, B1) ∧ DD A1 B1 n v β ∧ WF A B A1 B1) n ?_ ?_ (i := 0) (by omega) ⟨A, B, rfl, rfl, h, WF.rfl' _ _⟩ (by omega)
  · rintro s t ⟨A1, B1, rfl, rfl, k, w⟩
    unfold fY_measure_b93 fM_findsWays_b105
    dsimp only
    have hx : B1 217 6 ≤ nI n := by rw [w.2 217 (by omega), h6]; exact i32_le.mpr (Int.le_refl _)
    exact Go.yes (i32_le.mpr (Int.le_refl _)) (Go.some (Go.yes hx (Go.some ⟨k, w⟩)))
  · rintro i s t hi ⟨A1, B1, rfl, rfl, k, w⟩
    unfold fY_measure_b93 fM_findsWays_b105
    dsimp only
    have h6' : B1 217 6 = nI n := by rw [w.2 217 (by omega)]; exact h6
    have j1 : jix (nI (12 * a + i)) = 12 * a + i := jix_nI (by omega)
    have j2 : jix (nI (12 * a + v)) = 12 * a + v := jix_nI (by omega)
    have j3 : jix (nI (12 * v + i)) = 12 * v + i := jix_nI (by omega)
    simp only [ix12, ix12', nI_1, j1, j2, j3]
    have hl : ¬ nI n ≤ nI i := by rw [nI_le' (by omega) (by omega)]; omega
    have hm : ¬ B1 217 6 ≤ nI i := by rw [h6']; exact hl
    refine Go.no (hl) ?_
    refine Go.gd ((inb_nI (by omega)).mpr (by omega)) ?_
    refine Go.gd ((inb_nI (by omega)).mpr (by omega)) ?_
    refine Go.gd ((inb_nI (by omega)).mpr (by omega)) ?_
    refine Go.gd ((inb_nI (by omega)).mpr (by omega)) ?_
    refine Go.some ?_
    refine Go.no (hm) ?_
    refine Go.gd ((inb_nI (by omega)).mpr (by omega)) ?_
    refine Go.gd ((inb_nI (by omega)).mpr (by omega)) ?_
    refine Go.gd ((inb_nI (by omega)).mpr (by omega)) ?_
    refine Go.gd ((inb_nI (by omega)).mpr (by omega)) ?_
    refine Go.some ?_
    exact ⟨_, _, rfl, rfl, dd_step hn hv ha hi hβ k, w.put⟩
theorem round_go {A B : Mm} {n v β : Nat} (hn : n ≤ 12) (hv : v < n) (hβ : β ≤ 300000) (h6 : B 217 6 = nI n) (h : DE A B n β) :
    Go (lp 1000000 (fun s => fY_measure_b84 (nI n) (nI v) s.1 s.2) (0, A)) (fun A' => Go (lp 1000000 (fun s => fM_findsWays_b95 (nI v) s.1 s.2) (0, B)) (fun B' => DE A' B' n (2 * β) ∧ WF A B A' B')) := by
  refine go_for2 (fun i s t => ∃ A1 B1, s = (nI i, A1) ∧ t = (nI i, B1) ∧ DD A1 B1 n v β ∧ WF A B A1 B1) n ?_ ?_ (i := 0) (by omega) ⟨A, B, rfl, rfl, h.to, WF.rfl' _ _⟩ (by omega)
  · rintro s t ⟨A1, B1, rfl, rfl, k, w⟩
    unfold fY_measure_b84 fM_findsWays_b95
    dsimp only
    have hx : B1 217 6 ≤ nI n := by rw [w.2 217 (by omega), h6]; exact i32_le.mpr (Int.le_refl _)
    exact Go.yes (i32_le.mpr (Int.le_refl _)) (Go.some (Go.yes hx (Go.some ⟨k.to, w⟩)))
  · rintro i s t hi ⟨A1, B1, rfl, rfl, k, w⟩
    unfold fY_measure_b84 fM_findsWays_b95
    dsimp only
    have h6' : B1 217 6 = nI n := by rw [w.2 217 (by omega)]; exact h6
    have hl : ¬ nI n ≤ nI i := by rw [nI_le' (by omega) (by omega)]; omega
    have hm : ¬ B1 217 6 ≤ nI i := by rw [h6']; exact hl
    obtain ⟨A2, z1, B2, z2, z3, z4⟩ := row_go hn hv hi hβ h6' k
    refine Go.no (hl) ?_
    refine go_bind.mpr ?_
    rw [z1]
    refine Go.some ?_
    refine Go.some ?_
    refine Go.no (hm) ?_
    refine go_bind.mpr ?_
    rw [z2]
    refine Go.some ?_
    refine Go.some ?_
    exact ⟨A2, B2, by rw [nI_1], by rw [nI_1], z3, w.trans z4⟩
theorem rounds_go {A B : Mm} {n : Nat} (hn : n ≤ 12) (h6 : B 217 6 = nI n) (h : DE A B n 99) :
    Go (lp 1000000 (fun s => fY_measure_b76 (nI n) s.1 s.2) (0, A)) (fun A' => Go (lp 1000000 (fun s => fM_findsWays_b85 s.1 s.2) (0, B)) (fun B' => DE A' B' n 405504 ∧ WF A B A' B')) := by
  refine go_for2 (fun i s t => ∃ A1 B1, s = (nI i, A1) ∧ t = (nI i, B1) ∧ DE A1 B1 n (99 * 2 ^ i) ∧ WF A B A1 B1) n ?_ ?_ (i := 0) (by omega) ⟨A, B, rfl, rfl, h, WF.rfl' _ _⟩ (by omega)
  · rintro s t ⟨A1, B1, rfl, rfl, k, w⟩
    unfold fY_measure_b76 fM_findsWays_b85
    dsimp only
    have hx : B1 217 6 ≤ nI n := by rw [w.2 217 (by omega), h6]; exact i32_le.mpr (Int.le_refl _)
    have hb : 2 ^ n ≤ 2 ^ 12 := Nat.pow_le_pow_right (by omega) hn
    exact Go.yes (i32_le.mpr (Int.le_refl _)) (Go.some (Go.yes hx (Go.some ⟨⟨fun a b ha hb => (k.1 a b ha hb).mono (by omega), k.2⟩, w⟩)))
  · rintro i s t hi ⟨A1, B1, rfl, rfl, k, w⟩
    unfold fY_measure_b76 fM_findsWays_b85
    dsimp only
    have h6' : B1 217 6 = nI n := by rw [w.2 217 (by omega)]; exact h6
    have hl : ¬ nI n ≤ nI i := by rw [nI_le' (by omega) (by omega)]; omega
    have hm : ¬ B1 217 6 ≤ nI i := by rw [h6']; exact hl
    have hb : 2 ^ i ≤ 2 ^ 11 := Nat.pow_le_pow_right (by omega) (by omega)
    obtain ⟨A2, z1, B2, z2, z3, z4⟩ := round_go hn hi (by omega) h6' k
    refine Go.no (hl) ?_
    refine go_bind.mpr ?_
    rw [z1]
    refine Go.some ?_
    refine Go.some ?_
    refine Go.no (hm) ?_
    refine go_bind.mpr ?_
    rw [z2]
    refine Go.some ?_
    refine Go.some ?_
    refine ⟨A2, B2, by rw [nI_1], by rw [nI_1], ?_, w.trans z4⟩
    have e : 99 * 2 ^ (i + 1) = 2 * (99 * 2 ^ i) := by rw [Nat.pow_succ]; omega
    rw [e]; exact z3
end PmWays2
