section PmCarries
def cT (w : Nat → Nat) : Nat → Nat → Nat → Nat
  | 0, k, s => if k = 0 ∧ s = 0 then 1 else 0
  | i + 1, k, s => cT w i k s + (if 1 ≤ k ∧ w i ≤ s then cT w i (k - 1) (s - w i) else 0)
def cS (w : Nat → Nat) (m k : Nat) : Nat → Nat
  | 0 => 0
  | y + 1 => cS w m k y + cT w m k y
theorem cT_1 (w : Nat → Nat) (i k s : Nat) : cT w (i + 1) k s = cT w i k s + (if 1 ≤ k ∧ w i ≤ s then cT w i (k - 1) (s - w i) else 0) := rfl
theorem cS_1 (w : Nat → Nat) (m k y : Nat) : cS w m k (y + 1) = cS w m k y + cT w m k y := rfl
theorem cS_s (w : Nat → Nat) (m k : Nat) : ∀ y, cS w (m + 1) k y = cS w m k y + (if 1 ≤ k then cS w m (k - 1) (y - w m) else 0)
  | 0 => by
    rw [show 0 - w m = 0 by omega]
    show 0 = 0 + (if 1 ≤ k then 0 else 0)
    split <;> rfl
  | y + 1 => by
    rw [cS_1, cS_1, cS_s w m k y, cT_1]
    by_cases h : 1 ≤ k
    · by_cases h2 : w m ≤ y
      · rw [if_pos h, if_pos h, if_pos ⟨h, h2⟩, show y + 1 - w m = (y - w m) + 1 by omega, cS_1]; omega
      · rw [if_pos h, if_pos h, if_neg (fun q => h2 q.2), show y + 1 - w m = 0 by omega, show y - w m = 0 by omega]; omega
    · rw [if_neg h, if_neg h, if_neg (fun q => h q.1)]; omega
theorem cS_le (w : Nat → Nat) : ∀ m k y, cS w m k y ≤ 2 ^ m
  | 0, k, y => by
    have h : ∀ y, cS w 0 k y ≤ (if y = 0 then 0 else 1) := by
      intro y
      induction y with
      | zero => exact Nat.le_refl _
      | succ y ih =>
        rw [cS_1, if_neg (by omega)]
        show _ + (if k = 0 ∧ y = 0 then 1 else 0) ≤ 1
        by_cases e : y = 0
        · rw [if_pos e] at ih; split <;> omega
        · rw [if_neg e] at ih; rw [if_neg (fun q => e q.2)]; omega
    have := h y
    have : (if y = 0 then 0 else 1) ≤ 1 := by split <;> omega
    show _ ≤ 1
    omega
  | m + 1, k, y => by
    rw [cS_s, Nat.pow_succ]
    have a := cS_le w m k y
    have b := cS_le w m (k - 1) (y - w m)
    split <;> omega
theorem cT_le (w : Nat → Nat) (m k s : Nat) : cT w m k s ≤ 2 ^ m := by
  have := cS_le w m k (s + 1)
  rw [cS_1] at this
  omega
theorem cT_0 (w : Nat → Nat) : ∀ i k s, i < k → cT w i k s = 0
  | 0, k, s, h => if_neg (fun q => by omega)
  | i + 1, k, s, h => by
    rw [cT_1, cT_0 w i k s (by omega), cT_0 w i (k - 1) _ (by omega)]
    split <;> rfl
theorem cS_z (w : Nat → Nat) (m k : Nat) : ∀ y, (∀ s, s < y → cT w m k s = 0) → cS w m k y = 0
  | 0, _ => rfl
  | y + 1, h => by rw [cS_1, cS_z w m k y (fun s hs => h s (by omega)), h y (by omega)]
theorem cS_ge (w : Nat → Nat) (m k : Nat) : ∀ y s, s < y → cT w m k s ≤ cS w m k y
  | 0, s, h => by omega
  | y + 1, s, h => by
    rw [cS_1]
    by_cases e : s = y
    · subst e; omega
    · have := cS_ge w m k y s (by omega); omega
/-- how many are chosen, and their weight -/
def cN (p : Nat → Bool) : Nat → Nat
  | 0 => 0
  | m + 1 => cN p m + (if p m = true then 1 else 0)
def cW (p : Nat → Bool) (w : Nat → Nat) : Nat → Nat
  | 0 => 0
  | m + 1 => cW p w m + (if p m = true then w m else 0)
theorem cN_1 (p : Nat → Bool) (m : Nat) : cN p (m + 1) = cN p m + (if p m = true then 1 else 0) := rfl
theorem cW_1 (p : Nat → Bool) (w : Nat → Nat) (m : Nat) : cW p w (m + 1) = cW p w m + (if p m = true then w m else 0) := rfl
theorem cT_pos (p : Nat → Bool) (w : Nat → Nat) : ∀ m, 1 ≤ cT w m (cN p m) (cW p w m)
  | 0 => Nat.le_refl _
  | m + 1 => by
    have := cT_pos p w m
    rw [cT_1, cN_1, cW_1]
    by_cases e : p m = true
    · rw [if_pos e, if_pos e, if_pos ⟨by omega, by omega⟩, Nat.add_sub_cancel, Nat.add_sub_cancel]; omega
    · rw [if_neg e, if_neg e]; exact Nat.le_trans this (Nat.le_add_right _ _)
theorem cT_opt {p : Nat → Bool} {w : Nat → Nat} {v : Nat} : ∀ m, (∀ i, i < m → p i = true → w i ≤ v) → (∀ i, i < m → ¬ p i = true → v ≤ w i) → ∀ k s, 1 ≤ cT w m k s → cW p w m + v * k ≤ s + v * cN p m
  | 0, _, _, k, s, h => by
    have h : 1 ≤ (if k = 0 ∧ s = 0 then 1 else 0) := h
    by_cases e : k = 0 ∧ s = 0
    · rw [e.1, e.2]; exact Nat.le_refl _
    · rw [if_neg e] at h; omega
  | m + 1, a, b, k, s, h => by
    have ih := cT_opt m (fun i hi => a i (by omega)) (fun i hi => b i (by omega))
    have am := a m (by omega)
    have bm := b m (by omega)
    rw [cT_1] at h
    rw [cN_1, cW_1]
    by_cases q : 1 ≤ cT w m k s
    · have := ih k s q
      by_cases e : p m = true
      · rw [if_pos e, if_pos e, Nat.mul_add]; have := am e; omega
      · rw [if_neg e, if_neg e]; exact this
    · by_cases c : 1 ≤ k ∧ w m ≤ s
      · rw [if_pos c] at h
        have i2 := ih (k - 1) (s - w m) (by omega)
        obtain ⟨k, rfl⟩ : ∃ j, k = j + 1 := ⟨k - 1, by omega⟩
        rw [Nat.add_sub_cancel] at i2
        rw [Nat.mul_add]
        by_cases e : p m = true
        · rw [if_pos e, if_pos e, Nat.mul_add]; omega
        · rw [if_neg e, if_neg e, Nat.add_zero, Nat.add_zero]; have := bm e; omega
      · rw [if_neg c] at h; omega
theorem cN_le (p : Nat → Bool) : ∀ m, cN p m ≤ m
  | 0 => Nat.le_refl _
  | m + 1 => by rw [cN_1]; have := cN_le p m; split <;> omega
theorem cN_eq {p q : Nat → Bool} : ∀ m, (∀ i, i < m → p i = q i) → cN p m = cN q m
  | 0, _ => rfl
  | m + 1, h => by rw [cN_1, cN_1, cN_eq m (fun i hi => h i (by omega)), h m (by omega)]
theorem cW_eq {p q : Nat → Bool} (w : Nat → Nat) : ∀ m, (∀ i, i < m → p i = q i) → cW p w m = cW q w m
  | 0, _ => rfl
  | m + 1, h => by rw [cW_1, cW_1, cW_eq w m (fun i hi => h i (by omega)), h m (by omega)]
/-- one more is chosen -/
theorem cN_put {p q : Nat → Bool} {j : Nat} (hp : ¬ p j = true) (hq : q j = true) (h : ∀ i, i ≠ j → p i = q i) : ∀ m, cN q m = cN p m + (if j < m then 1 else 0)
  | 0 => rfl
  | m + 1 => by
    rw [cN_1, cN_1, cN_put hp hq h m]
    by_cases e : m = j
    · subst e; rw [if_pos hq, if_neg hp, if_neg (by omega), if_pos (by omega)]
    · rw [h m e]
      by_cases l : j < m
      · rw [if_pos l, if_pos (show j < m + 1 by omega)]; omega
      · rw [if_neg l, if_neg (show ¬ j < m + 1 by omega)]; omega
theorem cW_put {p q : Nat → Bool} (w : Nat → Nat) {j : Nat} (hp : ¬ p j = true) (hq : q j = true) (h : ∀ i, i ≠ j → p i = q i) : ∀ m, cW q w m = cW p w m + (if j < m then w j else 0)
  | 0 => rfl
  | m + 1 => by
    rw [cW_1, cW_1, cW_put w hp hq h m]
    by_cases e : m = j
    · subst e; rw [if_pos hq, if_neg hp, if_neg (by omega), if_pos (by omega)]
    · rw [h m e]
      by_cases l : j < m
      · rw [if_pos l, if_pos (show j < m + 1 by omega)]; omega
      · rw [if_neg l, if_neg (show ¬ j < m + 1 by omega)]; omega
/-- those that are lighter than v, or as light and before j -/
def gP (w : Nat → Nat) (v j i : Nat) : Bool := decide (w i < v ∨ (w i = v ∧ i < j))
theorem gP_in {w : Nat → Nat} {v j i : Nat} (h : gP w v j i = true) : w i ≤ v := by
  unfold gP at h; have := of_decide_eq_true h; omega
theorem gP_out {w : Nat → Nat} {v j i : Nat} (h : ¬ gP w v j i = true) : v ≤ w i := by
  unfold gP at h; rw [decide_eq_true_eq] at h; omega
theorem gP_same {w : Nat → Nat} {v j : Nat} (h : w j ≠ v) (i : Nat) : gP w v (j + 1) i = gP w v j i := by
  unfold gP
  rw [decide_eq_decide]
  constructor
  · rintro (q | ⟨q, r⟩)
    · exact Or.inl q
    · by_cases e : i = j
      · subst e; exact absurd q h
      · exact Or.inr ⟨q, by omega⟩
  · rintro (q | ⟨q, r⟩)
    · exact Or.inl q
    · exact Or.inr ⟨q, by omega⟩
theorem gP_add {w : Nat → Nat} {v j : Nat} (h : w j = v) : (¬ gP w v j j = true) ∧ gP w v (j + 1) j = true ∧ ∀ i, i ≠ j → gP w v j i = gP w v (j + 1) i := by
  unfold gP
  simp only [decide_eq_true_eq, decide_eq_decide]
  exact ⟨by omega, by omega, fun i hi => by omega⟩
theorem gP_next {w : Nat → Nat} {v m i : Nat} (h : i < m) : gP w v m i = gP w (v + 1) 0 i := by
  unfold gP
  simp only [decide_eq_decide]
  omega
theorem gP_first {w : Nat → Nat} {i : Nat} (h : 1 ≤ w i) : gP w 1 0 i = false := by
  unfold gP
  simp only [decide_eq_false_iff_not]
  omega
theorem cN_no {p : Nat → Bool} : ∀ m, (∀ i, i < m → p i = false) → cN p m = 0
  | 0, _ => rfl
  | m + 1, h => by rw [cN_1, cN_no m (fun i hi => h i (by omega)), h m (by omega)]; rfl
theorem cW_no {p : Nat → Bool} (w : Nat → Nat) : ∀ m, (∀ i, i < m → p i = false) → cW p w m = 0
  | 0, _ => rfl
  | m + 1, h => by rw [cW_1, cW_no w m (fun i hi => h i (by omega)), h m (by omega)]; rfl
theorem cN_all {p : Nat → Bool} : ∀ m, (∀ i, i < m → p i = true) → cN p m = m
  | 0, _ => rfl
  | m + 1, h => by rw [cN_1, cN_all m (fun i hi => h i (by omega)), h m (by omega)]; rfl
/-- what the greedy one ends with -/
def cG (w : Nat → Nat) (m X c : Nat) : Prop := ∃ p g, c = cN p m ∧ g = cW p w m ∧ g ≤ X ∧ (c = m ∨ ∃ v, X < g + v ∧ (∀ i, i < m → p i = true → w i ≤ v) ∧ (∀ i, i < m → ¬ p i = true → v ≤ w i))
theorem cG_best {w : Nat → Nat} {m X c : Nat} (h : cG w m X c) : c ≤ m ∧ 1 ≤ cS w m c (X + 1) ∧ ∀ k, c < k → k ≤ m → cS w m k (X + 1) = 0 := by
  obtain ⟨p, g, rfl, rfl, h3, h4⟩ := h
  refine ⟨cN_le p m, Nat.le_trans (cT_pos p w m) (cS_ge w m _ _ _ (by omega)), fun k h1 h2 => ?_⟩
  rcases h4 with h4 | ⟨v, a, b, c⟩
  · omega
  refine cS_z w m k _ (fun s hs => ?_)
  rcases Nat.eq_zero_or_pos (cT w m k s) with e | e
  · exact e
  · have := cT_opt m b c k s e
    have h5 : v * (cN p m + 1) ≤ v * k := Nat.mul_le_mul_left v h1
    rw [Nat.mul_add] at h5
    omega
end PmCarries
