section PmFaces
/-! sums -/
def sm (g : Nat → Nat) : Nat → Nat
  | 0 => 0
  | n + 1 => sm g n + g n
theorem sm_1 (g : Nat → Nat) (n : Nat) : sm g (n + 1) = sm g n + g n := rfl
theorem sm_congr {g h : Nat → Nat} : ∀ {n}, (∀ i, i < n → g i = h i) → sm g n = sm h n
  | 0, _ => rfl
  | n + 1, e => by rw [sm_1, sm_1, sm_congr (fun i hi => e i (by omega)), e n (by omega)]
theorem sm_mul (k : Nat) (g : Nat → Nat) : ∀ n, sm (fun i => k * g i) n = k * sm g n
  | 0 => rfl
  | n + 1 => by rw [sm_1, sm_1, sm_mul k g n, Nat.mul_add]
theorem sm_4 (g : Nat → Nat) : ∀ n, sm g (4 * n) = sm (fun h => g (4 * h)) n + sm (fun h => g (4 * h + 1)) n + sm (fun h => g (4 * h + 2)) n + sm (fun h => g (4 * h + 3)) n
  | 0 => rfl
  | n + 1 => by
    show sm g (4 * n + 4) = _
    rw [sm_1, sm_1, sm_1, sm_1, sm_4 g n, sm_1, sm_1, sm_1, sm_1]
    show _ = sm (fun h => g (4 * h)) n + g (4 * n) + (sm (fun h => g (4 * h + 1)) n + g (4 * n + 1)) + (sm (fun h => g (4 * h + 2)) n + g (4 * n + 2)) + (sm (fun h => g (4 * h + 3)) n + g (4 * n + 3))
    omega
theorem sm_zero {g : Nat → Nat} : ∀ {n}, sm g n = 0 ↔ ∀ i, i < n → g i = 0
  | 0 => ⟨fun _ i hi => by omega, fun _ => rfl⟩
  | n + 1 => by
    rw [sm_1]
    constructor
    · intro h i hi
      by_cases e : i = n
      · subst e; omega
      · exact sm_zero.mp (show sm g n = 0 by omega) i (by omega)
    · intro h
      rw [sm_zero.mpr (fun i hi => h i (by omega)), h n (by omega)]
theorem sm_front (g : Nat → Nat) : ∀ n, sm g (n + 1) = g 0 + sm (fun j => g (j + 1)) n
  | 0 => by show 0 + g 0 = g 0 + 0; omega
  | n + 1 => by rw [sm_1, sm_front g n, sm_1]; omega
theorem sm_lin (d f b : Nat → Nat) (c : Nat) : ∀ n, sm (fun l => d l * (f l + b l * c)) n = sm (fun l => d l * f l) n + sm (fun l => d l * b l) n * c
  | 0 => by show 0 = 0 + 0 * c; omega
  | n + 1 => by
    rw [sm_1, sm_1, sm_1, sm_lin d f b c n, Nat.mul_add, Nat.add_mul, ← Nat.mul_assoc]
    omega
/-- what a kind's letter weighs -/
def w4 (d : Nat) : Nat := if d = 0 then 3 else if d = 1 then 2 else 1
theorem w4_pos (d : Nat) : 1 ≤ w4 d := by
  unfold w4
  split
  · omega
  · split <;> omega
def fsum (v : Nat → Nat) : Nat → Nat → Nat
  | 0, _ => 0
  | r + 1, c => c % 4 * v (5 - r) + fsum v r (c / 4)
def fk4 : Nat → Nat → Nat
  | 0, _ => 1
  | r + 1, c => w4 (c % 4) * fk4 r (c / 4)
theorem fk4_pos : ∀ r c, 1 ≤ fk4 r c
  | 0, _ => Nat.le_refl _
  | r + 1, c => by
    show 1 ≤ w4 (c % 4) * fk4 r (c / 4)
    exact Nat.mul_pos (w4_pos _) (fk4_pos r _)
def fW (v : Nat → Nat) (t r s : Nat) : Nat := sm (fun c => if s + fsum v r c = t then fk4 r c else 0) (4 ^ r)
theorem fW_step (v : Nat → Nat) (t r s d : Nat) (hd : d < 4) : sm (fun h => if s + fsum v (r + 1) (4 * h + d) = t then fk4 (r + 1) (4 * h + d) else 0) (4 ^ r) = w4 d * fW v t r (s + d * v (5 - r)) := by
  unfold fW
  rw [← sm_mul]
  refine sm_congr fun h _ => ?_
  show (if s + ((4 * h + d) % 4 * v (5 - r) + fsum v r ((4 * h + d) / 4)) = t then w4 ((4 * h + d) % 4) * fk4 r ((4 * h + d) / 4) else 0) = _
  rw [show (4 * h + d) % 4 = d by omega, show (4 * h + d) / 4 = h by omega, ← Nat.add_assoc]
  by_cases e : s + d * v (5 - r) + fsum v r h = t
  · rw [if_pos e, if_pos e]
  · rw [if_neg e, if_neg e, Nat.mul_zero]
theorem fW_1 (v : Nat → Nat) (t r s : Nat) : fW v t (r + 1) s = w4 0 * fW v t r (s + 0 * v (5 - r)) + w4 1 * fW v t r (s + 1 * v (5 - r)) + w4 2 * fW v t r (s + 2 * v (5 - r)) + w4 3 * fW v t r (s + 3 * v (5 - r)) := by
  rw [← fW_step v t r s 0 (by omega), ← fW_step v t r s 1 (by omega), ← fW_step v t r s 2 (by omega), ← fW_step v t r s 3 (by omega)]
  unfold fW
  rw [Nat.pow_succ, Nat.mul_comm, sm_4]
  rfl
theorem fW_le (v : Nat → Nat) (t : Nat) : ∀ r s, fW v t r s ≤ 7 ^ r
  | 0, s => by
    show 0 + (if s + 0 = t then 1 else 0) ≤ 1
    split <;> omega
  | r + 1, s => by
    rw [fW_1, Nat.pow_succ]
    have a := fW_le v t r (s + 0 * v (5 - r))
    have b := fW_le v t r (s + 1 * v (5 - r))
    have c := fW_le v t r (s + 2 * v (5 - r))
    have d := fW_le v t r (s + 3 * v (5 - r))
    have e0 : w4 0 = 3 := rfl
    have e1 : w4 1 = 2 := rfl
    have e2 : w4 2 = 1 := rfl
    have e3 : w4 3 = 1 := rfl
    rw [e0, e1, e2, e3]
    omega
theorem fW_pos {v : Nat → Nat} {t r s : Nat} : fW v t r s ≠ 0 ↔ ∃ c, c < 4 ^ r ∧ s + fsum v r c = t := by
  constructor
  · intro h
    refine Classical.byContradiction fun q => h ?_
    refine sm_zero.mpr fun c hc => if_neg fun e => q ⟨c, hc, e⟩
  · rintro ⟨c, hc, e⟩ h
    have := sm_zero.mp h c hc
    rw [if_pos e] at this
    have := fk4_pos r c
    omega
/-- a letter l has kind d in some way to go on -/
def Sol (v : Nat → Nat) (t r s l d : Nat) : Prop := 6 - r ≤ l ∧ ∃ c, c < 4 ^ r ∧ s + fsum v r c = t ∧ c / 4 ^ (l - (6 - r)) % 4 = d
theorem Sol_1 {v : Nat → Nat} {t r s l d : Nat} (hr : r < 6) : Sol v t (r + 1) s l d ↔ ∃ e, e < 4 ∧ ((l = 5 - r ∧ d = e ∧ fW v t r (s + e * v (5 - r)) ≠ 0) ∨ Sol v t r (s + e * v (5 - r)) l d) := by
  constructor
  · rintro ⟨h1, c, c1, c2, c3⟩
    have q1 : c / 4 < 4 ^ r := by rw [Nat.pow_succ] at c1; omega
    have q2 : s + c % 4 * v (5 - r) + fsum v r (c / 4) = t := by rw [Nat.add_assoc]; exact c2
    refine ⟨c % 4, by omega, ?_⟩
    by_cases e : l = 5 - r
    · refine Or.inl ⟨e, ?_, fW_pos.mpr ⟨c / 4, q1, q2⟩⟩
      rw [show l - (6 - (r + 1)) = 0 by omega, Nat.pow_zero, Nat.div_one] at c3
      exact c3.symm
    · refine Or.inr ⟨by omega, c / 4, q1, q2, ?_⟩
      rw [show l - (6 - (r + 1)) = (l - (6 - r)) + 1 by omega, Nat.pow_succ, Nat.mul_comm _ 4, ← Nat.div_div_eq_div_mul] at c3
      exact c3
  · rintro ⟨e, he, (⟨rfl, rfl, h⟩ | ⟨h1, c, c1, c2, c3⟩)⟩
    · obtain ⟨c, c1, c2⟩ := fW_pos.mp h
      refine ⟨by omega, 4 * c + d, by rw [Nat.pow_succ]; omega, ?_, ?_⟩
      · show s + ((4 * c + d) % 4 * v (5 - r) + fsum v r ((4 * c + d) / 4)) = t
        rw [show (4 * c + d) % 4 = d by omega, show (4 * c + d) / 4 = c by omega, ← Nat.add_assoc]; exact c2
      · rw [show 5 - r - (6 - (r + 1)) = 0 by omega, Nat.pow_zero, Nat.div_one]; omega
    · refine ⟨by omega, 4 * c + e, by rw [Nat.pow_succ]; omega, ?_, ?_⟩
      · show s + ((4 * c + e) % 4 * v (5 - r) + fsum v r ((4 * c + e) / 4)) = t
        rw [show (4 * c + e) % 4 = e by omega, show (4 * c + e) / 4 = c by omega, ← Nat.add_assoc]; exact c2
      · rw [show l - (6 - (r + 1)) = (l - (6 - r)) + 1 by omega, Nat.pow_succ, Nat.mul_comm _ 4, ← Nat.div_div_eq_div_mul, show (4 * c + e) / 4 = c by omega]
        exact c3
theorem fsum_sm (v : Nat → Nat) : ∀ r c, r ≤ 6 → fsum v r c = sm (fun j => c / 4 ^ j % 4 * v (6 - r + j)) r
  | 0, c, _ => rfl
  | r + 1, c, h => by
    show c % 4 * v (5 - r) + fsum v r (c / 4) = _
    rw [sm_front, fsum_sm v r (c / 4) (by omega), Nat.pow_zero, Nat.div_one, show 6 - (r + 1) + 0 = 5 - r by omega]
    congr 1
    refine sm_congr fun j _ => ?_
    rw [Nat.div_div_eq_div_mul, Nat.pow_succ, Nat.mul_comm (4 ^ j), show 6 - r + j = 6 - (r + 1) + (j + 1) by omega]
/-! packed sums -/
def pk64 (e : Nat → Nat) : Nat → Nat
  | 0 => 0
  | i + 1 => pk64 e i + e i * 64 ^ i
theorem pk64_1 (e : Nat → Nat) (i : Nat) : pk64 e (i + 1) = pk64 e i + e i * 64 ^ i := rfl
theorem pk64_lt {e : Nat → Nat} : ∀ p, (∀ i, i < p → e i < 64) → pk64 e p < 64 ^ p
  | 0, _ => by show 0 < 1; omega
  | p + 1, h => by
    rw [pk64_1, Nat.pow_succ]
    have a := pk64_lt p (fun i hi => h i (by omega))
    have b : e p * 64 ^ p ≤ 63 * 64 ^ p := Nat.mul_le_mul_right _ (by have := h p (by omega); omega)
    omega
theorem add_mul_inj {a b x y N : Nat} (ha : a < N) (hb : b < N) (h : a + x * N = b + y * N) : a = b ∧ x = y := by
  have e : x = y := by
    rcases Nat.lt_trichotomy x y with q | q | q
    · have : (x + 1) * N ≤ y * N := Nat.mul_le_mul_right N q
      rw [Nat.add_mul] at this; omega
    · exact q
    · have : (y + 1) * N ≤ x * N := Nat.mul_le_mul_right N q
      rw [Nat.add_mul] at this; omega
  subst e
  exact ⟨by omega, rfl⟩
theorem pk64_inj {e f : Nat → Nat} : ∀ {p}, (∀ i, i < p → e i < 64) → (∀ i, i < p → f i < 64) → (pk64 e p = pk64 f p ↔ ∀ i, i < p → e i = f i)
  | 0, _, _ => ⟨fun _ i hi => by omega, fun _ => rfl⟩
  | p + 1, he, hf => by
    have ih := pk64_inj (p := p) (fun i hi => he i (by omega)) (fun i hi => hf i (by omega))
    rw [pk64_1, pk64_1]
    constructor
    · intro h i hi
      obtain ⟨a, b⟩ := add_mul_inj (pk64_lt p (fun i hi => he i (by omega))) (pk64_lt p (fun i hi => hf i (by omega))) h
      by_cases q : i = p
      · subst q; exact b
      · exact ih.mp a i (by omega)
    · intro h
      rw [ih.mpr (fun i hi => h i (by omega)), h p (by omega)]
/-- how letter l counts in the sums of the first p faces a -/
def pV (a : Nat → Nat) (l : Nat) : Nat → Nat
  | 0 => 0
  | i + 1 => pV a l i + a i / 2 ^ l % 2 * 64 ^ i
theorem pV_1 (a : Nat → Nat) (l i : Nat) : pV a l (i + 1) = pV a l i + a i / 2 ^ l % 2 * 64 ^ i := rfl
theorem pV_lt (a : Nat → Nat) (l : Nat) : ∀ p, pV a l p < 64 ^ p
  | 0 => by show 0 < 1; omega
  | p + 1 => by
    rw [pV_1, Nat.pow_succ]
    have := pV_lt a l p
    have b : a p / 2 ^ l % 2 * 64 ^ p ≤ 1 * 64 ^ p := Nat.mul_le_mul_right _ (by omega)
    omega
theorem pV_sum (a d : Nat → Nat) : ∀ p, sm (fun l => d l * pV a l p) 6 = pk64 (fun i => sm (fun l => d l * (a i / 2 ^ l % 2)) 6) p
  | 0 => by
    show sm (fun l => d l * 0) 6 = 0
    exact sm_zero.mpr fun i _ => Nat.mul_zero _
  | p + 1 => by
    rw [pk64_1, ← pV_sum a d p]
    exact sm_lin d (fun l => pV a l p) (fun l => a p / 2 ^ l % 2) (64 ^ p) 6
theorem dig_lt (c j : Nat) : c / 4 ^ j % 4 < 4 := Nat.mod_lt _ (by omega)
theorem faces_iff {a b : Nat → Nat} {p c : Nat} (hb : ∀ i, i < p → b i < 64) : 0 + fsum (fun l => pV a l p) 6 c = pk64 b p ↔ ∀ i, i < p → sm (fun l => c / 4 ^ l % 4 * (a i / 2 ^ l % 2)) 6 = b i := by
  rw [Nat.zero_add, fsum_sm _ 6 c (Nat.le_refl _)]
  have e : sm (fun j => c / 4 ^ j % 4 * pV a (6 - 6 + j) p) 6 = sm (fun l => c / 4 ^ l % 4 * pV a l p) 6 := sm_congr fun j _ => by rw [show 6 - 6 + j = j by omega]
  rw [e, pV_sum]
  refine pk64_inj (fun i hi => ?_) hb
  have : ∀ n, sm (fun l => c / 4 ^ l % 4 * (a i / 2 ^ l % 2)) n ≤ 3 * n := by
    intro n
    induction n with
    | zero => exact Nat.le_refl _
    | succ n ih =>
      rw [sm_1]
      have h1 := dig_lt c n
      have : c / 4 ^ n % 4 * (a i / 2 ^ n % 2) ≤ 3 * 1 := Nat.mul_le_mul (by omega) (by omega)
      omega
  have := this 6
  omega
theorem dig_bits (c f l : Nat) : c / 4 ^ l % 4 = f / 4 ^ l % 4 ↔ (c.testBit (2 * l) = f.testBit (2 * l) ∧ c.testBit (2 * l + 1) = f.testBit (2 * l + 1)) := by
  have e4 : 4 ^ l = 2 ^ (2 * l) := by rw [Nat.pow_mul]
  rw [e4, Nat.testBit_eq_decide_div_mod_eq, Nat.testBit_eq_decide_div_mod_eq, Nat.testBit_eq_decide_div_mod_eq, Nat.testBit_eq_decide_div_mod_eq, decide_eq_decide, decide_eq_decide, Nat.pow_succ, ← Nat.div_div_eq_div_mul, ← Nat.div_div_eq_div_mul]
  generalize c / 2 ^ (2 * l) = x
  generalize f / 2 ^ (2 * l) = y
  omega
theorem dig_zero (y l : Nat) : y / 4 ^ l % 4 = 0 ↔ (y.testBit (2 * l) = false ∧ y.testBit (2 * l + 1) = false) := by
  have h := dig_bits y 0 l
  rw [Nat.zero_div, Nat.zero_mod, Nat.zero_testBit, Nat.zero_testBit] at h
  exact h
end PmFaces
