section PmBears
theorem bit8 {s k : Nat} (hs : s < 256) (hk : k < 8) : (¬ s.testBit k = true → s ||| 2 ^ k = s + 2 ^ k ∧ (s + 2 ^ k).testBit k = true) ∧ (s.testBit k = true → s ||| 2 ^ k = s ∧ 2 ^ k ≤ s ∧ ¬ (s - 2 ^ k).testBit k = true) := by
  have : ∀ s : Fin 256, ∀ k : Fin 8, (¬ s.val.testBit k.val = true → s.val ||| 2 ^ k.val = s.val + 2 ^ k.val ∧ (s.val + 2 ^ k.val).testBit k.val = true) ∧ (s.val.testBit k.val = true → s.val ||| 2 ^ k.val = s.val ∧ 2 ^ k.val ≤ s.val ∧ ¬ (s.val - 2 ^ k.val).testBit k.val = true) := by decide +kernel
  exact this ⟨s, hs⟩ ⟨k, hk⟩
theorem p2pos (k : Nat) : 0 < 2 ^ k := Nat.pow_pos (by omega)
def bst (b : Nat → Int) (a k : Nat) : Nat := if a = 0 then 0 else (min 99 ((a : Int) + b k)).toNat
theorem bst_le (b : Nat → Int) (a k : Nat) : bst b a k ≤ 99 := by
  unfold bst; split <;> omega
/-- the best over the last blow, those before it below s -/
def bmr (b : Nat → Int) (f : Nat → Nat) (T s : Nat) : Nat → Nat
  | 0 => 0
  | j + 1 => max (bmr b f T s j) (if T.testBit j = true ∧ T - 2 ^ j < s then bst b (f (T - 2 ^ j)) j else 0)
theorem bmr_1 (b : Nat → Int) (f : Nat → Nat) (T s j : Nat) : bmr b f T s (j + 1) = max (bmr b f T s j) (if T.testBit j = true ∧ T - 2 ^ j < s then bst b (f (T - 2 ^ j)) j else 0) := rfl
def bme (b : Nat → Int) (a T s : Nat) : Nat → Nat
  | 0 => 0
  | j + 1 => max (bme b a T s j) (if T.testBit j = true ∧ T - 2 ^ j = s then bst b a j else 0)
theorem bme_1 (b : Nat → Int) (a T s j : Nat) : bme b a T s (j + 1) = max (bme b a T s j) (if T.testBit j = true ∧ T - 2 ^ j = s then bst b a j else 0) := rfl
theorem bmr_le (b : Nat → Int) (f : Nat → Nat) (T s : Nat) : ∀ j, bmr b f T s j ≤ 99
  | 0 => by show 0 ≤ 99; omega
  | j + 1 => by
    rw [bmr_1]
    have := bmr_le b f T s j
    have := bst_le b (f (T - 2 ^ j)) j
    split <;> omega
theorem bmr_congr {b : Nat → Int} {f g : Nat → Nat} {T s : Nat} (h : ∀ U, U < s → f U = g U) : ∀ j, bmr b f T s j = bmr b g T s j
  | 0 => rfl
  | j + 1 => by
    rw [bmr_1, bmr_1, bmr_congr h j]
    by_cases e : T.testBit j = true ∧ T - 2 ^ j < s
    · rw [if_pos e, if_pos e, h _ e.2]
    · rw [if_neg e, if_neg e]
theorem bmr_next {b : Nat → Int} {f : Nat → Nat} {T s : Nat} : ∀ j, bmr b f T (s + 1) j = max (bmr b f T s j) (bme b (f s) T s j)
  | 0 => rfl
  | j + 1 => by
    rw [bmr_1, bmr_1, bme_1, bmr_next j]
    by_cases e : T.testBit j = true
    · rcases Nat.lt_trichotomy (T - 2 ^ j) s with q | q | q
      · rw [if_pos ⟨e, by omega⟩, if_pos ⟨e, q⟩, if_neg (by omega)]; omega
      · rw [if_pos ⟨e, by omega⟩, if_neg (by omega), if_pos ⟨e, q⟩, q]; omega
      · rw [if_neg (by omega), if_neg (by omega), if_neg (by omega)]; omega
    · rw [if_neg (fun q => e q.1), if_neg (fun q => e q.1), if_neg (fun q => e q.1)]; omega
/-- nothing lies at or above T -/
theorem bmr_big {b : Nat → Int} {f : Nat → Nat} {T s s' : Nat} (h : T ≤ s) (h' : T ≤ s') : ∀ j, (∀ i, i < j → T.testBit i = true → 2 ^ i ≤ T) → bmr b f T s j = bmr b f T s' j
  | 0, _ => rfl
  | j + 1, q => by
    rw [bmr_1, bmr_1, bmr_big h h' j (fun i hi => q i (by omega))]
    by_cases e : T.testBit j = true
    · have a := q j (by omega) e
      have := p2pos j
      rw [if_pos ⟨e, by omega⟩, if_pos ⟨e, by omega⟩]
    · rw [if_neg (fun q => e q.1), if_neg (fun q => e q.1)]
theorem bmr_zero {b : Nat → Int} {f : Nat → Nat} {T : Nat} : ∀ j, bmr b f T 0 j = 0
  | 0 => rfl
  | j + 1 => by rw [bmr_1, bmr_zero j, if_neg (by omega)]; rfl
theorem bme_z {b : Nat → Int} {T s : Nat} : ∀ j, bme b 0 T s j = 0
  | 0 => rfl
  | j + 1 => by
    rw [bme_1, bme_z j]
    show max 0 (if _ then 0 else 0) = 0
    split <;> rfl
/-- the law of the table -/
def bR2 (b : Nat → Int) (n s0 h0 : Nat) (f : Nat → Nat) (N : Nat) : Prop := ∀ T, T < N → f T = max (if T = s0 then h0 else 0) (bmr b f T T n)
theorem bR2_uniq {b : Nat → Int} {n s0 h0 N : Nat} {f g : Nat → Nat} (h : bR2 b n s0 h0 f N) (k : bR2 b n s0 h0 g N) : ∀ T, T < N → f T = g T := by
  have : ∀ m T, T ≤ m → T < N → f T = g T := by
    intro m
    induction m with
    | zero =>
      intro T h1 h2
      have : T = 0 := by omega
      subst this
      rw [h 0 h2, k 0 h2, bmr_zero, bmr_zero]
    | succ m ih =>
      intro T h1 h2
      rw [h T h2, k T h2, bmr_congr (fun U hU => ih U (by omega) (by omega))]
  exact fun T hT => this T T (Nat.le_refl _) hT
end PmBears
