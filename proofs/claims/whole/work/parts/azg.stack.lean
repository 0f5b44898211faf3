section PmStack
/-! what waits for its right part, the last first: 0 a bracket, 1 or, 2 and, 3 not -/
def kc (x : Nat) : Int32 := if x = 0 then 0 else nI (20000 + x)
def mo (x : Nat) : Int32 := nI (12 - x)
def opn : List Nat → Nat
  | [] => 0
  | x :: V => opn V + (if x = 0 ∨ x = 3 then 1 else 0)
def brk : List Nat → Nat
  | [] => 0
  | x :: V => brk V + (if x = 0 then 1 else 0)
def bin : List Nat → Nat
  | [] => 0
  | x :: V => bin V + (if x = 1 ∨ x = 2 then 1 else 0)
def nb : List Nat → Nat
  | [] => 0
  | x :: V => nb V + (if x = 0 then 0 else 1)
def hd : List Nat → Nat
  | [] => 0
  | x :: _ => x
/-- or lies on a bracket or at the bottom, and on these or on an or -/
def okW : List Nat → Prop
  | [] => True
  | x :: V => okW V ∧ x ≤ 3 ∧ (x = 1 → hd V = 0) ∧ (x = 2 → hd V ≤ 1)
/-- what stays when all at least as strong as t are settled, and these -/
def popK (t : Nat) : List Nat → List Nat
  | [] => []
  | x :: V => if t ≤ x then popK t V else x :: V
def plK (t : Nat) : List Nat → List Nat
  | [] => []
  | x :: V => if t ≤ x then x :: plK t V else []
def popE (t : Nat) : List Nat → List Nat
  | [] => []
  | x :: V => if x = t then popE t V else x :: V
def plE (t : Nat) : List Nat → List Nat
  | [] => []
  | x :: V => if x = t then x :: plE t V else []
theorem opn_c (x : Nat) (V : List Nat) : opn (x :: V) = opn V + (if x = 0 ∨ x = 3 then 1 else 0) := rfl
theorem brk_c (x : Nat) (V : List Nat) : brk (x :: V) = brk V + (if x = 0 then 1 else 0) := rfl
theorem bin_c (x : Nat) (V : List Nat) : bin (x :: V) = bin V + (if x = 1 ∨ x = 2 then 1 else 0) := rfl
theorem nb_c (x : Nat) (V : List Nat) : nb (x :: V) = nb V + (if x = 0 then 0 else 1) := rfl
theorem len_bd : ∀ W, okW W → W.length ≤ 3 * opn W + (if hd W = 2 then 2 else if hd W = 1 then 1 else 0) ∧ bin W ≤ 2 * opn W + (if hd W = 2 then 2 else if hd W = 1 then 1 else 0)
  | [], _ => ⟨Nat.zero_le _, Nat.zero_le _⟩
  | x :: V, ⟨h1, h2, h3, h4⟩ => by
    have ih := len_bd V h1
    rw [opn_c, bin_c, List.length_cons]
    show V.length + 1 ≤ 3 * _ + (if x = 2 then 2 else if x = 1 then 1 else 0) ∧ _ ≤ 2 * _ + (if x = 2 then 2 else if x = 1 then 1 else 0)
    have hx : x = 0 ∨ x = 1 ∨ x = 2 ∨ x = 3 := by omega
    rcases hx with rfl | rfl | rfl | rfl
    · simp only [true_or, if_true]
      simp only [show ¬ (0 : Nat) = 2 by omega, show ¬ (0 : Nat) = 1 by omega, false_or, if_false]
      constructor
      · have := ih.1; split at this
        · omega
        · split at this <;> omega
      · have := ih.2; split at this
        · omega
        · split at this <;> omega
    · have h3 := h3 rfl
      rw [h3] at ih
      simp only [show ¬ (0 : Nat) = 2 by omega, show ¬ (0 : Nat) = 1 by omega, if_false] at ih
      simp only [show ¬ (1 : Nat) = 2 by omega, show ¬ (1 : Nat) = 0 by omega, show ¬ (1 : Nat) = 3 by omega, or_self, true_or, if_false, if_true]
      omega
    · have h4 := h4 rfl
      have k : hd V = 0 ∨ hd V = 1 := by omega
      simp only [show ¬ (2 : Nat) = 0 by omega, show ¬ (2 : Nat) = 3 by omega, or_self, or_true, if_false, if_true]
      rcases k with k | k <;> rw [k] at ih
      · simp only [show ¬ (0 : Nat) = 2 by omega, show ¬ (0 : Nat) = 1 by omega, if_false] at ih
        omega
      · simp only [show ¬ (1 : Nat) = 2 by omega, if_false, if_true] at ih
        omega
    · simp only [show ¬ (3 : Nat) = 2 by omega, show ¬ (3 : Nat) = 1 by omega, or_true, or_self, if_false, if_true]
      constructor
      · have := ih.1; split at this
        · omega
        · split at this <;> omega
      · have := ih.2; split at this
        · omega
        · split at this <;> omega
theorem split_K (t : Nat) : ∀ W, W = plK t W ++ popK t W
  | [] => rfl
  | x :: V => by
    unfold plK popK
    by_cases e : t ≤ x
    · rw [if_pos e, if_pos e, List.cons_append, ← split_K t V]
    · rw [if_neg e, if_neg e]; rfl
theorem split_E (t : Nat) : ∀ W, W = plE t W ++ popE t W
  | [] => rfl
  | x :: V => by
    unfold plE popE
    by_cases e : x = t
    · rw [if_pos e, if_pos e, List.cons_append, ← split_E t V]
    · rw [if_neg e, if_neg e]; rfl
theorem okW_K (t : Nat) : ∀ W, okW W → okW (popK t W)
  | [], h => h
  | x :: V, h => by
    unfold popK
    by_cases e : t ≤ x
    · rw [if_pos e]; exact okW_K t V h.1
    · rw [if_neg e]; exact h
theorem okW_E (t : Nat) : ∀ W, okW W → okW (popE t W)
  | [], h => h
  | x :: V, h => by
    unfold popE
    by_cases e : x = t
    · rw [if_pos e]; exact okW_E t V h.1
    · rw [if_neg e]; exact h
theorem hd_K (t : Nat) (ht : 1 ≤ t) : ∀ W, hd (popK t W) < t
  | [] => ht
  | x :: V => by
    unfold popK
    by_cases e : t ≤ x
    · rw [if_pos e]; exact hd_K t ht V
    · rw [if_neg e]; show x < t; omega
theorem E_none {t : Nat} : ∀ {W : List Nat}, 1 ≤ t → hd W ≠ t → popE t W = W ∧ plE t W = []
  | [], _, _ => ⟨rfl, rfl⟩
  | x :: V, _, h => by
    unfold popE plE
    have : ¬ x = t := h
    rw [if_neg this, if_neg this]; exact ⟨rfl, rfl⟩
theorem K_none {t : Nat} : ∀ {W : List Nat}, 1 ≤ t → hd W < t → popK t W = W ∧ plK t W = []
  | [], _, _ => ⟨rfl, rfl⟩
  | x :: V, _, h => by
    unfold popK plK
    have : ¬ t ≤ x := by have h : x < t := h; omega
    rw [if_neg this, if_neg this]; exact ⟨rfl, rfl⟩
/-- the nots first -/
theorem K_not {t : Nat} (ht : t ≤ 3) : ∀ W, popK t W = popK t (popE 3 W) ∧ plK t W = plE 3 W ++ plK t (popE 3 W)
  | [] => ⟨rfl, rfl⟩
  | x :: V => by
    by_cases e : x = 3
    · subst e
      have ih := K_not ht V
      show (if t ≤ 3 then popK t V else 3 :: V) = popK t (if 3 = 3 then popE 3 V else 3 :: V) ∧ (if t ≤ 3 then 3 :: plK t V else []) = (if 3 = 3 then 3 :: plE 3 V else []) ++ plK t (if 3 = 3 then popE 3 V else 3 :: V)
      rw [if_pos ht, if_pos ht, if_pos rfl, if_pos rfl]
      exact ⟨ih.1, by rw [ih.2]; rfl⟩
    · show popK t (x :: V) = popK t (if x = 3 then popE 3 V else x :: V) ∧ plK t (x :: V) = (if x = 3 then x :: plE 3 V else []) ++ plK t (if x = 3 then popE 3 V else x :: V)
      rw [if_neg e, if_neg e]; exact ⟨rfl, rfl⟩
theorem hd_E3 : ∀ W, hd (popE 3 W) ≠ 3
  | [] => by show (0 : Nat) ≠ 3; omega
  | x :: V => by
    unfold popE
    by_cases e : x = 3
    · rw [if_pos e]; exact hd_E3 V
    · rw [if_neg e]; exact e
theorem K_and {W : List Nat} (h : okW W) (h3 : hd W ≠ 3) : popK 2 W = popE 2 W ∧ plK 2 W = plE 2 W ∧ hd (popE 2 W) ≤ 1 := by
  cases W with
  | nil => exact ⟨rfl, rfl, Nat.zero_le _⟩
  | cons x V =>
    obtain ⟨h1, h2, -, h4⟩ := h
    have h3 : x ≠ 3 := h3
    by_cases e : x = 2
    · subst e
      have hv := h4 rfl
      have k := K_none (t := 2) (W := V) (by omega) (by omega)
      have k2 := E_none (t := 2) (W := V) (by omega) (by omega)
      show (if 2 ≤ 2 then popK 2 V else 2 :: V) = (if 2 = 2 then popE 2 V else 2 :: V) ∧ (if 2 ≤ 2 then 2 :: plK 2 V else []) = (if 2 = 2 then 2 :: plE 2 V else []) ∧ hd (if 2 = 2 then popE 2 V else 2 :: V) ≤ 1
      rw [if_pos (by omega), if_pos rfl, if_pos (by omega), if_pos rfl, k.1, k.2, k2.1, k2.2]
      exact ⟨rfl, rfl, hv⟩
    · have k := K_none (t := 2) (W := x :: V) (by omega) (by show x < 2; omega)
      have k2 := E_none (t := 2) (W := x :: V) (by omega) e
      rw [k.1, k.2, k2.1, k2.2]
      exact ⟨rfl, rfl, by show x ≤ 1; omega⟩
theorem K_or {W : List Nat} (h : okW W) (h3 : hd W ≠ 3) : popK 1 W = popE 1 (popE 2 W) ∧ plK 1 W = plE 2 W ++ plE 1 (popE 2 W) := by
  have one : ∀ {V : List Nat}, okW V → hd V ≤ 1 → popK 1 V = popE 1 V ∧ plK 1 V = plE 1 V := by
    intro V hV h1
    cases V with
    | nil => exact ⟨rfl, rfl⟩
    | cons x V =>
      have h1 : x ≤ 1 := h1
      by_cases e : x = 1
      · subst e
        have hv := hV.2.2.1 rfl
        have k := K_none (t := 1) (W := V) (by omega) (by omega)
        have k2 := E_none (t := 1) (W := V) (by omega) (by omega)
        show (if 1 ≤ 1 then popK 1 V else 1 :: V) = (if 1 = 1 then popE 1 V else 1 :: V) ∧ (if 1 ≤ 1 then 1 :: plK 1 V else []) = (if 1 = 1 then 1 :: plE 1 V else [])
        rw [if_pos (by omega), if_pos rfl, if_pos (by omega), if_pos rfl, k.1, k.2, k2.1, k2.2]
        exact ⟨rfl, rfl⟩
      · have k := K_none (t := 1) (W := x :: V) (by omega) (by show x < 1; omega)
        have k2 := E_none (t := 1) (W := x :: V) (by omega) e
        rw [k.1, k.2, k2.1, k2.2]; exact ⟨rfl, rfl⟩
  have a := K_and h h3
  have o := one (okW_E 2 W h) a.2.2
  rw [← o.1, ← o.2]
  cases W with
  | nil => exact ⟨rfl, rfl⟩
  | cons x V =>
    by_cases e : x = 2
    · subst e
      show (if 1 ≤ 2 then popK 1 V else 2 :: V) = popK 1 (if 2 = 2 then popE 2 V else 2 :: V) ∧ (if 1 ≤ 2 then 2 :: plK 1 V else []) = (if 2 = 2 then 2 :: plE 2 V else []) ++ plK 1 (if 2 = 2 then popE 2 V else 2 :: V)
      have hv := h.2.2.2 rfl
      have k2 := E_none (t := 2) (W := V) (by omega) (by omega)
      rw [if_pos (by omega), if_pos rfl, if_pos (by omega), if_pos rfl, k2.1, k2.2]
      exact ⟨rfl, rfl⟩
    · have k2 := E_none (t := 2) (W := x :: V) (by omega) e
      rw [k2.1, k2.2]
      exact ⟨rfl, rfl⟩
theorem opn_app : ∀ X Y, opn (X ++ Y) = opn X + opn Y
  | [], Y => (Nat.zero_add _).symm
  | x :: X, Y => by rw [List.cons_append, opn_c, opn_c, opn_app X Y]; omega
theorem brk_app : ∀ X Y, brk (X ++ Y) = brk X + brk Y
  | [], Y => (Nat.zero_add _).symm
  | x :: X, Y => by rw [List.cons_append, brk_c, brk_c, brk_app X Y]; omega
theorem bin_app : ∀ X Y, bin (X ++ Y) = bin X + bin Y
  | [], Y => (Nat.zero_add _).symm
  | x :: X, Y => by rw [List.cons_append, bin_c, bin_c, bin_app X Y]; omega
theorem nb_app : ∀ X Y, nb (X ++ Y) = nb X + nb Y
  | [], Y => (Nat.zero_add _).symm
  | x :: X, Y => by rw [List.cons_append, nb_c, nb_c, nb_app X Y]; omega
/-- what is settled is no bracket -/
theorem nb_pl {t : Nat} (ht : 1 ≤ t) : ∀ W, nb (plK t W) = (plK t W).length ∧ brk (plK t W) = 0
  | [] => ⟨rfl, rfl⟩
  | x :: V => by
    unfold plK
    by_cases e : t ≤ x
    · have ih := nb_pl ht V
      rw [if_pos e, nb_c, brk_c, List.length_cons, ih.1, ih.2, if_neg (by omega), if_neg (by omega)]
      exact ⟨rfl, rfl⟩
    · rw [if_neg e]; exact ⟨rfl, rfl⟩
theorem nb_plE {t : Nat} (ht : 1 ≤ t) : ∀ W, nb (plE t W) = (plE t W).length ∧ brk (plE t W) = 0
  | [] => ⟨rfl, rfl⟩
  | x :: V => by
    unfold plE
    by_cases e : x = t
    · have ih := nb_plE ht V
      rw [if_pos e, nb_c, brk_c, List.length_cons, ih.1, ih.2, if_neg (by omega), if_neg (by omega)]
      exact ⟨rfl, rfl⟩
    · rw [if_neg e]; exact ⟨rfl, rfl⟩
end PmStack
