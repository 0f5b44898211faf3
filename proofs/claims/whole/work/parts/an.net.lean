section PmNet
theorem tb_d (g d : Nat) : g.testBit d = decide (g / 2 ^ d % 2 = 1) := Nat.testBit_eq_decide_div_mod_eq
theorem tb_ge {S j : Nat} (h : S.testBit j = true) : 2 ^ j ≤ S := Nat.ge_two_pow_of_testBit h
theorem tb_sub {S j : Nat} (h : S.testBit j = true) (k : Nat) : (S - 2 ^ j).testBit k = (S.testBit k && !decide (k = j)) := by
  have ge := tb_ge h
  rw [tb_d, decide_eq_true_eq] at h
  rw [tb_d, tb_d]
  have sub : (S - 2 ^ j) / 2 ^ j = S / 2 ^ j - 1 := by
    have := Nat.sub_mul_div S (2 ^ j) 1
    rw [Nat.mul_one] at this
    exact this
  rcases Nat.lt_trichotomy k j with q | q | q
  · rw [decide_eq_false (show ¬ k = j by omega), Bool.not_false, Bool.and_true, decide_eq_decide]
    obtain ⟨m, rfl⟩ : ∃ m, j = k + 1 + m := ⟨j - k - 1, by omega⟩
    have e : 2 ^ (k + 1 + m) = 2 ^ k * (2 * 2 ^ m) := by rw [Nat.pow_add, Nat.pow_succ, Nat.mul_assoc]
    rw [e] at ge ⊢
    rw [Nat.sub_mul_div]
    have : 2 * 2 ^ m ≤ S / 2 ^ k := (Nat.le_div_iff_mul_le (Nat.pow_pos (by omega))).mpr (by rw [Nat.mul_comm]; exact ge)
    generalize S / 2 ^ k = x at *
    generalize 2 ^ m = y at *
    omega
  · subst q
    rw [sub, decide_eq_true (rfl : k = k), Bool.not_true, Bool.and_false, decide_eq_false_iff_not]
    omega
  · rw [decide_eq_false (show ¬ k = j by omega), Bool.not_false, Bool.and_true, decide_eq_decide]
    obtain ⟨m, rfl⟩ : ∃ m, k = j + 1 + m := ⟨k - j - 1, by omega⟩
    have e : 2 ^ (j + 1 + m) = 2 ^ j * 2 * 2 ^ m := by rw [Nat.pow_add, Nat.pow_succ]
    rw [e, ← Nat.div_div_eq_div_mul, ← Nat.div_div_eq_div_mul, ← Nat.div_div_eq_div_mul, ← Nat.div_div_eq_div_mul, sub]
    generalize S / 2 ^ j = x at h
    rw [show (x - 1) / 2 = x / 2 by omega]
/-- the best before the last one came -/
def mx (f : Nat → Nat) (S : Nat) : Nat → Nat
  | 0 => 0
  | k + 1 => if S.testBit k = true then max (mx f S k) (f (S - 2 ^ k)) else mx f S k
theorem mx_1 (f : Nat → Nat) (S k : Nat) : mx f S (k + 1) = if S.testBit k = true then max (mx f S k) (f (S - 2 ^ k)) else mx f S k := rfl
def ms (E : Nat → Int32) (S : Nat) : Nat → Int32
  | 0 => 0
  | k + 1 => if S.testBit k = true then ms E S k + E k else ms E S k
theorem ms_1 (E : Nat → Int32) (S k : Nat) : ms E S (k + 1) = if S.testBit k = true then ms E S k + E k else ms E S k := rfl
theorem p2p (k : Nat) : 0 < 2 ^ k := Nat.pow_pos (by omega)
theorem mx_congr {f g : Nat → Nat} {S : Nat} (h : ∀ U, U < S → f U = g U) : ∀ k, mx f S k = mx g S k
  | 0 => rfl
  | k + 1 => by
    rw [mx_1, mx_1, mx_congr h k]
    by_cases e : S.testBit k = true
    · have := tb_ge e
      have := p2p k
      rw [if_pos e, if_pos e, h (S - 2 ^ k) (by omega)]
    · rw [if_neg e, if_neg e]
theorem mx_le {f : Nat → Nat} {S : Nat} (hS : 1 ≤ S) (h : ∀ U k, S.testBit k = true → U = S - 2 ^ k → f U ≤ U) : ∀ k, mx f S k ≤ S - 1
  | 0 => Nat.zero_le _
  | k + 1 => by
    rw [mx_1]
    have := mx_le hS h k
    by_cases e : S.testBit k = true
    · have := tb_ge e
      have := p2p k
      have := h _ k e rfl
      rw [if_pos e]; omega
    · rw [if_neg e]; exact this
/-- the law of the table -/
def nR (E : Nat → Int32) (p : Nat) (g : Nat → Nat) (N : Nat) : Prop := ∀ S, S < N → g S = if S = 0 then 0 else mx g S p + (if ms E S p = 0 then 1 else 0)
theorem nR_uniq {E : Nat → Int32} {p N : Nat} {f g : Nat → Nat} (h : nR E p f N) (k : nR E p g N) : ∀ S, S < N → f S = g S := by
  have : ∀ m S, S ≤ m → S < N → f S = g S := by
    intro m
    induction m with
    | zero =>
      intro S h1 h2
      have : S = 0 := by omega
      subst this
      rw [h 0 h2, k 0 h2, if_pos rfl, if_pos rfl]
    | succ m ih =>
      intro S h1 h2
      rw [h S h2, k S h2, mx_congr (fun U hU => ih U (by omega) (by omega))]
  exact fun S hS => this S S (Nat.le_refl _) hS
theorem ms_sub {E : Nat → Int32} {S j : Nat} (h : S.testBit j = true) : ∀ n, ms E (S - 2 ^ j) n + (if j < n then E j else 0) = ms E S n
  | 0 => rfl
  | n + 1 => by
    have ih := ms_sub (E := E) h n
    rw [ms_1, ms_1, tb_sub h]
    by_cases e : n = j
    · subst e
      rw [if_neg (by rw [decide_eq_true (rfl : n = n)]; simp), if_pos (by omega), if_pos h]
      rw [if_neg (by omega), Int32.add_zero] at ih
      rw [ih]
    · rw [decide_eq_false e, Bool.not_false, Bool.and_true]
      by_cases l : j < n
      · rw [if_pos l] at ih
        rw [if_pos (show j < n + 1 by omega)]
        by_cases b : S.testBit n = true
        · rw [if_pos b, if_pos b, ← ih, Int32.add_assoc, Int32.add_comm (E n), ← Int32.add_assoc]
        · rw [if_neg b, if_neg b]; exact ih
      · rw [if_neg l, Int32.add_zero] at ih
        rw [if_neg (show ¬ j < n + 1 by omega), Int32.add_zero, ih]
/-! those who owe or are owed, by number -/
def cq (D : Nat → Int32) : Nat → Nat
  | 0 => 0
  | q + 1 => cq D q + (if D q = 0 then 0 else 1)
theorem cq_1 (D : Nat → Int32) (q : Nat) : cq D (q + 1) = cq D q + (if D q = 0 then 0 else 1) := rfl
theorem cq_mono {D : Nat → Int32} {q : Nat} : ∀ {r}, q ≤ r → cq D q ≤ cq D r
  | 0, h => by rw [show q = 0 by omega]; exact Nat.le_refl _
  | r + 1, h => by
    by_cases e : q = r + 1
    · rw [e]; exact Nat.le_refl _
    · have := cq_mono (D := D) (q := q) (r := r) (by omega)
      rw [cq_1]; omega
theorem cq_lt {D : Nat → Int32} {q r : Nat} (h : q < r) (hq : D q ≠ 0) : cq D q < cq D r := by
  have := cq_mono (D := D) (show q + 1 ≤ r from h)
  rw [cq_1, if_neg hq] at this
  omega
theorem cq_le (D : Nat → Int32) : ∀ q, cq D q ≤ q
  | 0 => Nat.le_refl _
  | q + 1 => by rw [cq_1]; have := cq_le D q; split <;> omega
theorem cq_inj {D : Nat → Int32} {q r : Nat} (hq : D q ≠ 0) (hr : D r ≠ 0) (h : cq D q = cq D r) : q = r := by
  rcases Nat.lt_trichotomy q r with e | e | e
  · have := cq_lt e hq; omega
  · exact e
  · have := cq_lt e hr; omega
theorem cq_surj {D : Nat → Int32} : ∀ n j, j < cq D n → ∃ q, q < n ∧ D q ≠ 0 ∧ cq D q = j
  | 0, j, h => by have : j < 0 := h; omega
  | n + 1, j, h => by
    rw [cq_1] at h
    by_cases e : j < cq D n
    · obtain ⟨q, h1, h2, h3⟩ := cq_surj n j e
      exact ⟨q, by omega, h2, h3⟩
    · by_cases z : D n = 0
      · rw [if_pos z] at h; omega
      · rw [if_neg z] at h
        exact ⟨n, by omega, z, by omega⟩
/-- a set of numbers as a set of doors -/
def ph (D : Nat → Int32) (S : Nat) : Nat → Nat
  | 0 => 0
  | q + 1 => if D q ≠ 0 ∧ S.testBit (cq D q) = true then 2 ^ q + ph D S q else ph D S q
theorem ph_1 (D : Nat → Int32) (S q : Nat) : ph D S (q + 1) = if D q ≠ 0 ∧ S.testBit (cq D q) = true then 2 ^ q + ph D S q else ph D S q := rfl
theorem ph_lt (D : Nat → Int32) (S : Nat) : ∀ n, ph D S n < 2 ^ n
  | 0 => by show 0 < 1; omega
  | n + 1 => by
    rw [ph_1, Nat.pow_succ]
    have := ph_lt D S n
    split <;> omega
theorem ph_bit (D : Nat → Int32) (S : Nat) : ∀ n i, (ph D S n).testBit i = true ↔ (i < n ∧ D i ≠ 0 ∧ S.testBit (cq D i) = true)
  | 0, i => by
    show (0 : Nat).testBit i = true ↔ _
    rw [Nat.zero_testBit]
    exact ⟨fun h => absurd h (by decide), fun h => by omega⟩
  | n + 1, i => by
    have ih := ph_bit D S n i
    have lt := ph_lt D S n
    rw [ph_1]
    by_cases c : D n ≠ 0 ∧ S.testBit (cq D n) = true
    · rw [if_pos c]
      rcases Nat.lt_trichotomy i n with e | e | e
      · rw [Nat.testBit_two_pow_add_gt e, ih]
        exact ⟨fun h => ⟨by omega, h.2⟩, fun h => ⟨e, h.2⟩⟩
      · subst e
        rw [Nat.testBit_two_pow_add_eq, Nat.testBit_lt_two_pow lt]
        exact ⟨fun _ => ⟨by omega, c⟩, fun _ => rfl⟩
      · rw [Nat.testBit_lt_two_pow]
        · exact ⟨fun h => absurd h (by decide), fun h => by omega⟩
        · have : 2 ^ (n + 1) ≤ 2 ^ i := Nat.pow_le_pow_right (by omega) e
          rw [Nat.pow_succ] at this
          omega
    · rw [if_neg c, ih]
      refine ⟨fun h => ⟨by omega, h.2⟩, fun h => ⟨?_, h.2⟩⟩
      by_cases e : i = n
      · subst e; exact absurd h.2 c
      · omega
theorem ph_sub {D : Nat → Int32} {S q n : Nat} (hq : q < n) (hD : D q ≠ 0) (hS : S.testBit (cq D q) = true) : ph D S n - 2 ^ q = ph D (S - 2 ^ cq D q) n := by
  have b : (ph D S n).testBit q = true := (ph_bit D S n q).mpr ⟨hq, hD, hS⟩
  apply Nat.eq_of_testBit_eq
  intro i
  rw [tb_sub b]
  apply Bool.eq_iff_iff.mpr
  rw [Bool.and_eq_true, ph_bit, ph_bit, tb_sub hS, Bool.and_eq_true, Bool.not_eq_true', Bool.not_eq_true', decide_eq_false_iff_not, decide_eq_false_iff_not]
  constructor
  · rintro ⟨⟨h1, h2, h3⟩, h4⟩
    exact ⟨h1, h2, h3, fun e => h4 (cq_inj h2 hD e)⟩
  · rintro ⟨h1, h2, h3, h4⟩
    exact ⟨⟨h1, h2, h3⟩, fun e => h4 (by rw [e])⟩
theorem mx_ph {D : Nat → Int32} {G : Nat → Nat} {S n : Nat} : ∀ q, q ≤ n → mx G (ph D S n) q = mx (fun S => G (ph D S n)) S (cq D q)
  | 0, _ => rfl
  | q + 1, h => by
    rw [mx_1, mx_ph q (by omega), cq_1]
    by_cases z : D q = 0
    · rw [if_pos z, if_neg (fun k => ((ph_bit D S n q).mp k).2.1 z)]
      rfl
    · rw [if_neg z, mx_1]
      by_cases b : S.testBit (cq D q) = true
      · rw [if_pos b, if_pos ((ph_bit D S n q).mpr ⟨by omega, z, b⟩), ph_sub (by omega) z b]
      · rw [if_neg b, if_neg (fun k => b ((ph_bit D S n q).mp k).2.2)]
theorem ms_ph {D E : Nat → Int32} {S n : Nat} (hE : ∀ q, q < n → D q ≠ 0 → E (cq D q) = D q) : ∀ q, q ≤ n → ms D (ph D S n) q = ms E S (cq D q)
  | 0, _ => rfl
  | q + 1, h => by
    rw [ms_1, ms_ph hE q (by omega), cq_1]
    by_cases z : D q = 0
    · rw [if_pos z, if_neg (fun k => ((ph_bit D S n q).mp k).2.1 z)]
      rfl
    · rw [if_neg z, ms_1]
      by_cases b : S.testBit (cq D q) = true
      · rw [if_pos b, if_pos ((ph_bit D S n q).mpr ⟨by omega, z, b⟩), hE q (by omega) z]
      · rw [if_neg b, if_neg (fun k => b ((ph_bit D S n q).mp k).2.2)]
theorem ph_pos {D : Nat → Int32} {S n : Nat} (h : S < 2 ^ cq D n) (h1 : S ≠ 0) : ph D S n ≠ 0 := by
  intro e
  apply h1
  apply Nat.eq_of_testBit_eq
  intro j
  rw [Nat.zero_testBit]
  refine Bool.eq_false_iff.mpr fun b => ?_
  have lj : j < cq D n := by
    refine Classical.byContradiction fun q => ?_
    rw [Nat.testBit_lt_two_pow (Nat.lt_of_lt_of_le h (Nat.pow_le_pow_right (by omega) (show cq D n ≤ j by omega)))] at b
    cases b
  obtain ⟨q, q1, q2, q3⟩ := cq_surj n j lj
  have := (ph_bit D S n q).mpr ⟨q1, q2, by rw [q3]; exact b⟩
  rw [e, Nat.zero_testBit] at this
  cases this
theorem ph_zero {D : Nat → Int32} : ∀ n, ph D 0 n = 0
  | 0 => rfl
  | n + 1 => by rw [ph_1, ph_zero n, if_neg (by rw [Nat.zero_testBit]; exact fun h => by cases h.2)]
/-- all of them -/
def al (D : Nat → Int32) (n : Nat) : Nat := ph D (2 ^ cq D n - 1) n
theorem al_bit (D : Nat → Int32) (n i : Nat) : (al D n).testBit i = true ↔ (i < n ∧ D i ≠ 0) := by
  unfold al
  rw [ph_bit]
  refine ⟨fun h => ⟨h.1, h.2.1⟩, fun h => ⟨h.1, h.2, ?_⟩⟩
  rw [Nat.testBit_two_pow_sub_one]
  exact decide_eq_true (cq_lt h.1 h.2)
def SubB (U V : Nat) : Prop := ∀ i, U.testBit i = true → V.testBit i = true
/-- the law of the doors' table gives that of the numbers' -/
theorem nR_ph {D E : Nat → Int32} {G : Nat → Nat} {n : Nat} (hE : ∀ q, q < n → D q ≠ 0 → E (cq D q) = D q) (h : ∀ U, U ≤ al D n → SubB U (al D n) → G U = if U = 0 then 0 else mx G U n + (if ms D U n = 0 then 1 else 0)) (hle : ∀ S, S < 2 ^ cq D n → ph D S n ≤ al D n) : nR E (cq D n) (fun S => G (ph D S n)) (2 ^ cq D n) := by
  intro S hS
  have sub : SubB (ph D S n) (al D n) := fun i hi => by
    have := (ph_bit D S n i).mp hi
    exact (al_bit D n i).mpr ⟨this.1, this.2.1⟩
  have := h (ph D S n) (hle S hS) sub
  dsimp only
  rw [this]
  by_cases e : S = 0
  · subst e
    rw [ph_zero, if_pos rfl, if_pos rfl]
  · rw [if_neg e, if_neg (ph_pos hS e), mx_ph n (Nat.le_refl _), ms_ph hE n (Nat.le_refl _)]
theorem ph_le {D : Nat → Int32} {S T : Nat} (h : ∀ i, S.testBit i = true → T.testBit i = true) : ∀ n, ph D S n ≤ ph D T n
  | 0 => Nat.le_refl _
  | n + 1 => by
    have ih := ph_le (D := D) h n
    rw [ph_1, ph_1]
    by_cases c : D n ≠ 0 ∧ S.testBit (cq D n) = true
    · rw [if_pos c, if_pos ⟨c.1, h _ c.2⟩]; omega
    · rw [if_neg c]
      split
      · exact Nat.le_trans ih (Nat.le_add_left _ _)
      · exact ih
theorem ph_le_al {D : Nat → Int32} {S n : Nat} (h : S < 2 ^ cq D n) : ph D S n ≤ al D n := by
  refine ph_le (fun i hi => ?_) n
  rw [Nat.testBit_two_pow_sub_one]
  refine decide_eq_true (Classical.byContradiction fun q => ?_)
  rw [Nat.testBit_lt_two_pow (Nat.lt_of_lt_of_le h (Nat.pow_le_pow_right (by omega) (show cq D n ≤ i by omega)))] at hi
  cases hi
end PmNet
