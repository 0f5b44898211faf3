section PmScan
/-- what a byte is: 3 blank, 1 digit, 4 letter, itself where it is a sign, else 0 -/
def cl (v : Nat) : Nat := if v = 32 ∨ v = 10 then 3 else if 48 ≤ v ∧ v ≤ 57 then 1 else if (97 ≤ v ∧ v ≤ 122) ∨ (65 ≤ v ∧ v ≤ 90) then 4 else if v = 59 ∨ v = 43 ∨ v = 45 ∨ v = 42 ∨ v = 47 ∨ v = 40 ∨ v = 41 ∨ v = 60 ∨ v = 61 ∨ v = 62 then v else 0
/-- goes on with the byte before it -/
def gO (b : Nat → Nat) (k : Nat) : Bool := decide (0 < k ∧ cl (b (k - 1)) = cl (b k) ∧ (cl (b k) = 4 ∨ cl (b k) = 1))
theorem gO_iff {b : Nat → Nat} {k : Nat} : gO b k = true ↔ (0 < k ∧ cl (b (k - 1)) = cl (b k) ∧ (cl (b k) = 4 ∨ cl (b k) = 1)) := by
  unfold gO; rw [decide_eq_true_eq]
/-- a token begins here -/
def sT (b : Nat → Nat) (k : Nat) : Bool := decide (cl (b k) ≠ 3 ∧ ¬ gO b k = true)
theorem sT_iff {b : Nat → Nat} {k : Nat} : sT b k = true ↔ (cl (b k) ≠ 3 ∧ ¬ gO b k = true) := by
  unfold sT; rw [decide_eq_true_eq]
/-- how many begin before k -/
def cs (b : Nat → Nat) : Nat → Nat
  | 0 => 0
  | k + 1 => cs b k + (if sT b k = true then 1 else 0)
theorem cs_1 (b : Nat → Nat) (k : Nat) : cs b (k + 1) = cs b k + (if sT b k = true then 1 else 0) := rfl
theorem cs_le (b : Nat → Nat) : ∀ k, cs b k ≤ k
  | 0 => Nat.le_refl _
  | k + 1 => by rw [cs_1]; have := cs_le b k; split <;> omega
theorem cs_mono {b : Nat → Nat} {p : Nat} : ∀ {x}, p ≤ x → cs b p ≤ cs b x
  | 0, h => by rw [show p = 0 by omega]; exact Nat.le_refl _
  | x + 1, h => by
    by_cases e : p = x + 1
    · rw [e]; exact Nat.le_refl _
    · have := cs_mono (b := b) (p := p) (x := x) (by omega)
      rw [cs_1]; omega
theorem cs_lt {b : Nat → Nat} {p x : Nat} (h : p < x) (hp : sT b p = true) : cs b p < cs b x := by
  have := cs_mono (b := b) (show p + 1 ≤ x from h)
  rw [cs_1, if_pos hp] at this
  omega
theorem cs_inj {b : Nat → Nat} {p q : Nat} (hp : sT b p = true) (hq : sT b q = true) (h : cs b p = cs b q) : p = q := by
  rcases Nat.lt_trichotomy p q with e | e | e
  · have := cs_lt e hp; omega
  · exact e
  · have := cs_lt e hq; omega
theorem cs_surj {b : Nat → Nat} : ∀ x i, i < cs b x → ∃ p, p < x ∧ sT b p = true ∧ cs b p = i
  | 0, i, h => by have : i < 0 := h; omega
  | x + 1, i, h => by
    rw [cs_1] at h
    by_cases e : i < cs b x
    · obtain ⟨p, h1, h2, h3⟩ := cs_surj x i e
      exact ⟨p, by omega, h2, h3⟩
    · by_cases z : sT b x = true
      · rw [if_pos z] at h
        exact ⟨x, by omega, z, by omega⟩
      · rw [if_neg z] at h; omega
/-- none begins between -/
theorem cs_flat {b : Nat → Nat} {s : Nat} : ∀ {p}, s ≤ p → (∀ k, s ≤ k → k < p → ¬ sT b k = true) → cs b p = cs b s
  | 0, h, _ => by rw [show s = 0 by omega]
  | p + 1, h, k => by
    by_cases e : s = p + 1
    · rw [e]
    · rw [cs_1, if_neg (k p (by omega) (by omega)), cs_flat (p := p) (by omega) (fun j h1 h2 => k j h1 (by omega))]; rfl
/-- where the token that begins at p ends, as far as x is read -/
def en (b : Nat → Nat) (p : Nat) : Nat → Nat
  | 0 => p + 1
  | x + 1 => if x ≤ p then p + 1 else if en b p x = x ∧ gO b x = true then x + 1 else en b p x
theorem en_1 (b : Nat → Nat) (p x : Nat) : en b p (x + 1) = if x ≤ p then p + 1 else if en b p x = x ∧ gO b x = true then x + 1 else en b p x := rfl
theorem en_self (b : Nat → Nat) (p : Nat) : en b p (p + 1) = p + 1 := by rw [en_1, if_pos (Nat.le_refl _)]
theorem en_stop {b : Nat → Nat} {p q : Nat} (h : p < q) (hq : sT b q = true) : ∀ {x}, q < x → en b p x ≤ q
  | 0, h2 => by omega
  | x + 1, h2 => by
    rw [en_1, if_neg (by omega)]
    by_cases e : x = q
    · subst e
      rw [if_neg (fun k => (sT_iff.mp hq).2 k.2)]
      have : ∀ y, p < y → en b p y ≤ y := by
        intro y
        induction y with
        | zero => intro h; omega
        | succ y ih =>
          intro h
          rw [en_1]
          by_cases c : y ≤ p
          · rw [if_pos c]; omega
          · rw [if_neg c]
            have := ih (by omega)
            split <;> omega
      exact this x h
    · have := en_stop h hq (x := x) (by omega)
      rw [if_neg (by omega)]
      exact this
theorem en_char {b : Nat → Nat} {p k L : Nat} (h : p < k) (hk : k ≤ L) (h1 : ∀ j, p < j → j < k → gO b j = true) (h2 : k = L ∨ ¬ gO b k = true) : en b p L = k := by
  have up : ∀ y, p < y → y ≤ k → en b p y = y := by
    intro y
    induction y with
    | zero => intro h; omega
    | succ y ih =>
      intro h h'
      rw [en_1]
      by_cases c : y ≤ p
      · rw [if_pos c]; omega
      · rw [if_neg c, if_pos ⟨ih (by omega) (by omega), h1 y (by omega) (by omega)⟩]
  have on : ∀ y, k ≤ y → (y = k ∨ ¬ gO b k = true) → en b p y = k := by
    intro y
    induction y with
    | zero => intro h; omega
    | succ y ih =>
      intro h h'
      by_cases e : y + 1 = k
      · rw [up (y + 1) (by omega) (by omega), e]
      · have g : ¬ gO b k = true := by
          rcases h' with q | q
          · omega
          · exact q
        have i2 := ih (by omega) (Or.inr g)
        rw [en_1, if_neg (by omega), i2, if_neg]
        rintro ⟨q1, q2⟩
        rw [q1] at g
        exact g q2
  exact on L hk (h2.imp (fun q => q.symm) id)
/-- the last one begun still goes on -/
theorem en_last {b : Nat → Nat} : ∀ {x}, 0 < x → cl (b (x - 1)) ≠ 3 → ∃ p, p < x ∧ sT b p = true ∧ cs b p + 1 = cs b x ∧ en b p x = x
  | 0, h, _ => by omega
  | x + 1, _, h => by
    rw [Nat.add_sub_cancel] at h
    by_cases s : sT b x = true
    · exact ⟨x, by omega, s, by rw [cs_1, if_pos s], en_self b x⟩
    · have g : gO b x = true := by
        cases e : gO b x
        · exact absurd (sT_iff.mpr ⟨h, by rw [e]; decide⟩) s
        · rfl
      have g2 := gO_iff.mp g
      obtain ⟨p, p1, p2, p3, p4⟩ := en_last (b := b) (x := x) g2.1 (by rw [g2.2.1]; exact h)
      refine ⟨p, by omega, p2, by rw [cs_1, if_neg s]; exact p3, ?_⟩
      rw [en_1, if_neg (by omega), if_pos ⟨p4, g⟩]
end PmScan
