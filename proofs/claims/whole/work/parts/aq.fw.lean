section PmFw
/-! the ways' rounds, as numbers; 1000000 is none -/
def FW (d : Nat → Nat → Nat) : Nat → Nat → Nat → Nat
  | 0, a, b => d a b
  | v + 1, a, b => min (FW d v a b) (FW d v a v + FW d v v b)
theorem FW_1 (d : Nat → Nat → Nat) (v a b : Nat) : FW d (v + 1) a b = min (FW d v a b) (FW d v a v + FW d v v b) := rfl
/-- how many of the first v lie between -/
def fwS (D : Nat → Nat → Nat) (v a b : Nat) : Nat := sm (fun u => if D a u < 1000000 ∧ D u b < 1000000 then 1 else 0) v
theorem sm_le {g h : Nat → Nat} : ∀ {n}, (∀ i, i < n → g i ≤ h i) → sm g n ≤ sm h n
  | 0, _ => Nat.le_refl _
  | n + 1, e => by
    rw [sm_1, sm_1]
    have := sm_le (n := n) (fun i hi => e i (by omega))
    have := e n (by omega)
    omega
theorem sm_add (g h : Nat → Nat) : ∀ n, sm (fun i => g i + h i) n = sm g n + sm h n
  | 0 => rfl
  | n + 1 => by rw [sm_1, sm_1, sm_1, sm_add g h n]; omega
theorem fwS_le (D : Nat → Nat → Nat) (v a b : Nat) : fwS D v a b ≤ v := by
  unfold fwS
  induction v with
  | zero => exact Nat.le_refl _
  | succ v ih => rw [sm_1]; split <;> omega
def fwI (D : Nat → Nat → Nat) (n v : Nat) : Prop := (∀ a b, a < n → b < n → (D a b = 1000000 ∨ D a b ≤ 99 * (1 + fwS D v a b))) ∧ (∀ a b u, a < n → b < n → u < v → D a u < 1000000 → D u b < 1000000 → D a b < 1000000) ∧ ∀ a, a < n → D a a = 0
theorem fw_step {D : Nat → Nat → Nat} {n v : Nat} (hn : n ≤ 12) (hv : v < n) (h : fwI D n v) : fwI (fun a b => min (D a b) (D a v + D v b)) n (v + 1) := by
  obtain ⟨h1, h2, h3⟩ := h
  have bd : ∀ a b, a < n → b < n → D a b < 1000000 → D a b ≤ 1287 := fun a b ha hb q => by
    have := h1 a b ha hb
    have := fwS_le D v a b
    omega
  have le : ∀ a b, a < n → b < n → D a b ≤ 1000000 := fun a b ha hb => by
    have := h1 a b ha hb
    have := fwS_le D v a b
    omega
  have vv := h3 v hv
  have fin : ∀ a b, a < n → b < n → (min (D a b) (D a v + D v b) < 1000000 ↔ D a b < 1000000 ∨ (D a v < 1000000 ∧ D v b < 1000000)) := fun a b ha hb => by
    have := bd a v ha hv
    have := bd v b hv hb
    omega
  have fv : ∀ a, a < n → (min (D a v) (D a v + D v v) < 1000000 ↔ D a v < 1000000) := fun a ha => by omega
  have vf : ∀ b, b < n → (min (D v b) (D v v + D v b) < 1000000 ↔ D v b < 1000000) := fun b hb => by omega
  refine ⟨fun a b ha hb => ?_, fun a b u ha hb hu => ?_, fun a ha => ?_⟩
  · dsimp only
    by_cases f : D a b < 1000000
    · right
      have mono : fwS D v a b ≤ fwS (fun a b => min (D a b) (D a v + D v b)) (v + 1) a b := by
        unfold fwS
        rw [sm_1]
        refine Nat.le_trans (sm_le fun u hu => ?_) (Nat.le_add_right _ _)
        dsimp only
        by_cases c : D a u < 1000000 ∧ D u b < 1000000
        · rw [if_pos c, if_pos ⟨(fin a u ha (by omega)).mpr (Or.inl c.1), (fin u b (by omega) hb).mpr (Or.inl c.2)⟩]
          exact Nat.le_refl _
        · rw [if_neg c]; exact Nat.zero_le _
      have := h1 a b ha hb
      omega
    · by_cases g : D a v < 1000000 ∧ D v b < 1000000
      · right
        have e1 := h1 a v ha hv
        have e2 := h1 v b hv hb
        have key : fwS D v a v + fwS D v v b + 1 ≤ fwS (fun a b => min (D a b) (D a v + D v b)) (v + 1) a b := by
          unfold fwS
          rw [sm_1, ← sm_add]
          have last : (if min (D a v) (D a v + D v v) < 1000000 ∧ min (D v b) (D v v + D v b) < 1000000 then 1 else 0) = 1 := if_pos ⟨(fv a ha).mpr g.1, (vf b hb).mpr g.2⟩
          dsimp only
          rw [last]
          refine Nat.add_le_add_right (sm_le fun u hu => ?_) 1
          by_cases c1 : D a u < 1000000 ∧ D u v < 1000000
          · by_cases c2 : D v u < 1000000 ∧ D u b < 1000000
            · exact absurd (h2 a b u ha hb hu c1.1 c2.2) f
            · rw [if_pos c1, if_neg c2, if_pos ⟨(fin a u ha (by omega)).mpr (Or.inl c1.1), (fin u b (by omega) hb).mpr (Or.inr ⟨c1.2, g.2⟩)⟩]
              exact Nat.le_refl _
          · rw [if_neg c1]
            by_cases c2 : D v u < 1000000 ∧ D u b < 1000000
            · rw [if_pos c2, if_pos ⟨(fin a u ha (by omega)).mpr (Or.inr ⟨g.1, c2.1⟩), (fin u b (by omega) hb).mpr (Or.inl c2.2)⟩]
              exact Nat.le_refl _
            · rw [if_neg c2]; exact Nat.zero_le _
        omega
      · left
        have := fin a b ha hb
        have := le a b ha hb
        have k : ¬ min (D a b) (D a v + D v b) < 1000000 := fun q => by
          rcases (fin a b ha hb).mp q with q | q
          · exact f q
          · exact g q
        omega
  · dsimp only
    intro q1 q2
    refine (fin a b ha hb).mpr ?_
    by_cases e : u = v
    · subst e
      exact Or.inr ⟨(fv a ha).mp q1, (vf b hb).mp q2⟩
    · rcases (fin a u ha (by omega)).mp q1 with p1 | ⟨p1, p1'⟩
      · rcases (fin u b (by omega) hb).mp q2 with p2 | ⟨p2, p2'⟩
        · exact Or.inl (h2 a b u ha hb (by omega) p1 p2)
        · exact Or.inr ⟨h2 a v u ha hv (by omega) p1 p2, p2'⟩
      · rcases (fin u b (by omega) hb).mp q2 with p2 | ⟨p2, p2'⟩
        · exact Or.inr ⟨p1, h2 v b u hv hb (by omega) p1' p2⟩
        · exact Or.inr ⟨p1, p2'⟩
  · dsimp only
    have := h3 a ha
    omega
theorem fw_all {d : Nat → Nat → Nat} {n : Nat} (hn : n ≤ 12) (h : ∀ a b, a < n → b < n → (d a b = 1000000 ∨ d a b ≤ 99)) (h0 : ∀ a, a < n → d a a = 0) : ∀ v, v ≤ n → fwI (FW d v) n v
  | 0, _ => ⟨fun a b ha hb => (h a b ha hb).imp id fun q => by show d a b ≤ _; omega, fun a b u _ _ hu => by omega, h0⟩
  | v + 1, hv => fw_step hn (by omega) (fw_all hn h h0 v (by omega))
theorem fw_bound {d : Nat → Nat → Nat} {n : Nat} (hn : n ≤ 12) (h : ∀ a b, a < n → b < n → (d a b = 1000000 ∨ d a b ≤ 99)) (h0 : ∀ a, a < n → d a a = 0) {v a b : Nat} (hv : v ≤ n) (ha : a < n) (hb : b < n) : (FW d v a b = 1000000 ∨ FW d v a b ≤ 1287) ∧ FW d v a a = 0 := by
  obtain ⟨k1, -, k3⟩ := fw_all hn h h0 v hv
  have := k1 a b ha hb
  have := fwS_le (FW d v) v a b
  exact ⟨by omega, k3 a ha⟩
end PmFw
