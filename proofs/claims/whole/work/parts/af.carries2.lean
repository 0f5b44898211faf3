section PmCarries2
theorem added_nI {a b : Nat} (h : a + b < 1000000007) : fM_added (nI a) (nI b) = nI (a + b) := by
  unfold fM_added
  rw [(lit_nI _ : (1000000007 : Int32) = nI 1000000007), nI_sub' (by omega), if_pos ((nI_lt' (by omega) (by omega)).mpr (by omega)), nI_add]
/-- a table of the number of choices -/
def TX (A : Mm) (c : Nat) (f : Nat → Nat → Nat) (m X : Nat) : Prop := ∀ k s, k ≤ m → s ≤ X → A c (401 * k + s) = nI (f k s)
theorem TX.congr {A : Mm} {c m X : Nat} {f g : Nat → Nat → Nat} (h : TX A c f m X) (e : ∀ k s, k ≤ m → s ≤ X → f k s = g k s) : TX A c g m X := fun k s a b => by rw [← e k s a b]; exact h k s a b
def cP (w : Nat → Nat) (i k k' s' : Nat) : Nat := if k < k' then cT w (i + 1) k' s' else cT w i k' s'
def cQ (w : Nat → Nat) (i k y k' s' : Nat) : Nat := if k < k' ∨ (k' = k ∧ s' < y) then cT w (i + 1) k' s' else cT w i k' s'
theorem cT_lt {w : Nat → Nat} {i k s : Nat} (h : ¬ (1 ≤ k ∧ w i ≤ s)) : cT w (i + 1) k s = cT w i k s := by rw [cT_1, if_neg h, Nat.add_zero]
theorem cT_ge {w : Nat → Nat} {i k s : Nat} (h : 1 ≤ k ∧ w i ≤ s) : cT w (i + 1) k s = cT w i k s + cT w i (k - 1) (s - w i) := by rw [cT_1, if_pos h]
theorem cQ_first {w : Nat → Nat} {i k k' s' : Nat} : cP w i k k' s' = cQ w i k (w i) k' s' := by
  unfold cP cQ
  by_cases h : k < k'
  · rw [if_pos h, if_pos (Or.inl h)]
  · rw [if_neg h]
    by_cases e : k' = k ∧ s' < w i
    · rw [if_pos (Or.inr e), cT_lt (by omega)]
    · rw [if_neg (by omega)]
theorem cQ_last {w : Nat → Nat} {i k y k' s' : Nat} (h : 1 ≤ k) (h1 : s' < y) : cQ w i k y k' s' = cP w i (k - 1) k' s' := by
  unfold cP cQ
  by_cases h : k - 1 < k'
  · rw [if_pos h, if_pos (by omega)]
  · rw [if_neg h, if_neg (by omega)]
theorem cQ_next {w : Nat → Nat} {i k y k' s' : Nat} (h : ¬ (k' = k ∧ s' = y)) : cQ w i k (y + 1) k' s' = cQ w i k y k' s' := by
  unfold cQ
  by_cases e : k < k' ∨ (k' = k ∧ s' < y)
  · rw [if_pos e, if_pos (by omega)]
  · rw [if_neg e, if_neg (by omega)]
theorem TX_put {A : Mm} {c m X k y i : Nat} {w : Nat → Nat} {v : Int32} (hX : X ≤ 400) (hk : 1 ≤ k) (hw : w i ≤ y) (hy : y ≤ X) (h : TX A c (cQ w i k y) m X) (hv : v = nI (cT w i k y + cT w i (k - 1) (y - w i))) : TX (mput A c (401 * k + y) v) c (cQ w i k (y + 1)) m X := by
  intro k' s' a b
  by_cases e : k' = k ∧ s' = y
  · obtain ⟨rfl, rfl⟩ := e
    rw [mput_same, hv]
    unfold cQ
    rw [if_pos (by omega), cT_ge ⟨hk, hw⟩]
  · rw [mput_s (by omega), h k' s' a b, cQ_next e]
theorem TX_at {A : Mm} {c m X k y i : Nat} {w : Nat → Nat} (hk : 1 ≤ k) (hm : k ≤ m) (hw : w i ≤ y) (hy : y ≤ X) (h : TX A c (cQ w i k y) m X) : A c (401 * k + y) = nI (cT w i k y) ∧ A c (401 * (k - 1) + (y - w i)) = nI (cT w i (k - 1) (y - w i)) := by
  refine ⟨?_, ?_⟩
  · rw [h k y hm hy]; unfold cQ; rw [if_neg (by omega)]
  · rw [h (k - 1) (y - w i) (by omega) (by omega)]; unfold cQ; rw [if_neg (by omega)]
theorem carK_row {A : Mm} {w : Nat → Nat} {i k X m : Nat} (hm : m ≤ 24) (hX : X ≤ 400) (hk : 1 ≤ k) (hk2 : k ≤ m) (hw : w i ≤ 99) (h8 : ¬ A 0 8 = 0) (hT : TX A 252 (cP w i k) m X) :
    Go (lp 1000000 (fun s => fY_addLoad_b12 (nI (w i)) (nI X) (nI k) s.1 s.2) (nI (w i), A)) (fun A' => TX A' 252 (cP w i (k - 1)) m X ∧ ∀ b, b ≠ 252 → A' b = A b) := by
  refine go_lp (fun q s => ∃ y A', q = X + 1 - y ∧ w i ≤ y ∧ y < 1000 ∧ s = (nI y, A') ∧ TX A' 252 (cQ w i k y) m X ∧ ∀ b, b ≠ 252 → A' b = A b) ?_ _ (X + 1 - w i) _ (by omega) ⟨w i, A, rfl, Nat.le_refl _, by omega, rfl, hT.congr fun _ _ _ _ => cQ_first, fun _ _ => rfl⟩
  rintro q s ⟨y, A', rfl, hy, hy2, rfl, t, fr⟩
  unfold fY_addLoad_b12
  dsimp only
  by_cases e : X < y
  · exact Go.yes ((nI_lt' (by omega) (by omega)).mpr e) (Go.some ⟨t.congr fun k' s' a b => cQ_last hk (by omega), fr⟩)
  have j1 : nI k * 401 + nI y = nI (401 * k + y) := by rw [(lit_nI _ : (401 : Int32) = nI 401), nI_mul', nI_add]; exact congrArg nI (by omega)
  have j2 : (nI k - 1) * 401 + nI y - nI (w i) = nI (401 * (k - 1) + (y - w i)) := by rw [(lit_nI _ : (1 : Int32) = nI 1), (lit_nI _ : (401 : Int32) = nI 401), nI_sub' hk, nI_mul', nI_add, nI_sub' (by omega)]; exact congrArg nI (by omega)
  have g8 : ¬ A' 0 8 = 0 := by rw [fr 0 (by omega)]; exact h8
  obtain ⟨t1, t2⟩ := TX_at hk hk2 hy (by omega) t
  rw [j1, j2]
  have b1 : inb (nI (401 * k + y)) 10025 := (inb_nI (by omega)).mpr (by omega)
  refine Go.no (by rw [nI_lt' (by omega) (by omega)]; omega) ?_
  refine Go.gd (⟨g8, b1⟩) ?_
  refine Go.gd (⟨g8, (inb_nI (by omega)).mpr (by omega)⟩) ?_
  refine Go.gd (⟨g8, b1⟩) ?_
  refine Go.some ?_
  rw [jix_nI (by omega), jix_nI (by omega), t1, t2, nI_add, nI_1]
  exact ⟨X + 1 - (y + 1), by omega, y + 1, _, rfl, by omega, by omega, rfl, TX_put hX hk hy (by omega) t rfl, fun b hb => by rw [mput_r hb]; exact fr b hb⟩
theorem carK_add {A : Mm} {w : Nat → Nat} {i X m : Nat} (hm : m ≤ 24) (hX : X ≤ 400) (hi : i < m) (hw : w i ≤ 99) (h8 : ¬ A 0 8 = 0) (hT : TX A 252 (cT w i) m X) :
    Go (fY_addLoad (nI (i + 1)) (nI (w i)) (nI X) A) (fun A' => TX A' 252 (cT w (i + 1)) m X ∧ ∀ b, b ≠ 252 → A' b = A b) := by
  unfold fY_addLoad
  refine Go.bind (P := fun A' => TX A' 252 (cT w (i + 1)) m X ∧ ∀ b, b ≠ 252 → A' b = A b) ?_ (fun e he => Go.some he)
  refine go_lp (fun q s => ∃ A', s = (nI q, A') ∧ q ≤ i + 1 ∧ TX A' 252 (cP w i q) m X ∧ ∀ b, b ≠ 252 → A' b = A b) ?_ _ (i + 1) _ (by omega) ⟨A, rfl, Nat.le_refl _, hT.congr fun k s _ _ => ?_, fun _ _ => rfl⟩
  rotate_left
  · unfold cP
    by_cases e : i + 1 < k
    · rw [if_pos e, cT_0 w (i + 1) k s e, cT_0 w i k s (by omega)]
    · rw [if_neg e]
  rintro q s ⟨A', rfl, hq, t, fr⟩
  unfold fY_addLoad_b3
  dsimp only
  by_cases e : q = 0
  · subst e
    refine Go.yes (by decide) (Go.some ⟨t.congr fun k s _ _ => ?_, fr⟩)
    unfold cP
    by_cases e : 0 < k
    · rw [if_pos e]
    · rw [if_neg e, cT_lt (by omega)]
  refine Go.no (by rw [(lit_nI _ : (1 : Int32) = nI 1), nI_lt' (by omega) (by omega)]; omega) ?_
  refine Go.bind (carK_row hm hX (by omega) (by omega) hw (by rw [fr 0 (by omega)]; exact h8) t) (fun A2 h2 => Go.some ?_)
  rw [nI_dec (by omega)]
  exact ⟨q - 1, by omega, A2, rfl, by omega, h2.1, fun b hb => by rw [h2.2 b hb, fr b hb]⟩
theorem carM_row {A : Mm} {w : Nat → Nat} {i k X m : Nat} (x2 : Int32) (hm : m ≤ 24) (hX : X ≤ 400) (hi : i < m) (hk2 : k < m) (hw : w i ≤ 99) (hT : TX A 243 (cP w i (k + 1)) m X) :
    Go (lp 1000000 (fun s => fM_findsCarried_b67 (nI X) x2 (nI (w i)) (nI k) s.1 s.2) (0, A)) (fun A' => TX A' 243 (cP w i k) m X ∧ ∀ b, b ≠ 243 → A' b = A b) := by
  refine go_lp (fun q s => ∃ y A', q = X + 1 - y ∧ y < 1000 ∧ s = (nI y, A') ∧ TX A' 243 (cQ w i (k + 1) (w i + y)) m X ∧ ∀ b, b ≠ 243 → A' b = A b) ?_ _ (X + 1 - 0) _ (by omega) ⟨0, A, rfl, by omega, rfl, hT.congr fun _ _ _ _ => cQ_first, fun _ _ => rfl⟩
  rintro q s ⟨y, A', rfl, hy2, rfl, t, fr⟩
  unfold fM_findsCarried_b67
  dsimp only
  rw [nI_add]
  by_cases e : X < w i + y
  · exact Go.yes ((nI_lt' (by omega) (by omega)).mpr (by omega)) (Go.some ⟨t.congr fun k' s' a b => cQ_last (k := k + 1) (by omega) (by omega), fr⟩)
  have j1 : 401 * (nI k + 1) + nI y + nI (w i) = nI (401 * (k + 1) + (w i + y)) := by rw [nI_1, (lit_nI _ : (401 : Int32) = nI 401), nI_mul', nI_add, nI_add]; exact congrArg nI (by omega)
  have j2 : 401 * nI k + nI y = nI (401 * k + y) := by rw [(lit_nI _ : (401 : Int32) = nI 401), nI_mul', nI_add]
  obtain ⟨t1, t2⟩ := TX_at (k := k + 1) (by omega) (by omega) (Nat.le_add_right _ _) (by omega) t
  rw [Nat.add_sub_cancel, Nat.add_sub_cancel_left] at t2
  have l1 := cT_le w i (k + 1) (w i + y)
  have l2 := cT_le w i k y
  have l3 : 2 ^ i ≤ 2 ^ 24 := Nat.pow_le_pow_right (by omega) (by omega)
  rw [j1, j2]
  have b1 : inb (nI (401 * (k + 1) + (w i + y))) 10025 := (inb_nI (by omega)).mpr (by omega)
  refine Go.no (by rw [nI_lt' (by omega) (by omega)]; omega) ?_
  refine Go.gd (b1) ?_
  refine Go.gd ((inb_nI (by omega)).mpr (by omega)) ?_
  refine Go.gd (b1) ?_
  refine Go.some ?_
  rw [jix_nI (by omega), jix_nI (by omega), t1, t2, added_nI (by omega), nI_1]
  refine ⟨X + 1 - (y + 1), by omega, y + 1, _, rfl, by omega, rfl, ?_, fun b hb => by rw [mput_r hb]; exact fr b hb⟩
  exact TX_put (k := k + 1) hX (by omega) (Nat.le_add_right _ _) (by omega) t (by rw [Nat.add_sub_cancel, Nat.add_sub_cancel_left])
theorem carM_add {A : Mm} {w : Nat → Nat} {i X m : Nat} (x2 : Int32) (hm : m ≤ 24) (hX : X ≤ 400) (hi : i < m) (hw : w i ≤ 99) (hT : TX A 243 (cT w i) m X) :
    Go (lp 1000000 (fun s => fM_findsCarried_b59 (nI X) x2 (nI (w i)) s.1 s.2) (nI i, A)) (fun A' => TX A' 243 (cT w (i + 1)) m X ∧ ∀ b, b ≠ 243 → A' b = A b) := by
  have e0 : nI i = nI (i + 1) + (-1) := by rw [nI_dec (by omega)]; rfl
  rw [e0]
  refine go_lp (fun q s => ∃ A', s = (nI q + (-1), A') ∧ q ≤ i + 1 ∧ TX A' 243 (cP w i q) m X ∧ ∀ b, b ≠ 243 → A' b = A b) ?_ _ (i + 1) _ (by omega) ⟨A, rfl, Nat.le_refl _, hT.congr fun k s _ _ => ?_, fun _ _ => rfl⟩
  rotate_left
  · unfold cP
    by_cases e : i + 1 < k
    · rw [if_pos e, cT_0 w (i + 1) k s e, cT_0 w i k s (by omega)]
    · rw [if_neg e]
  rintro q s ⟨A', rfl, hq, t, fr⟩
  unfold fM_findsCarried_b59
  dsimp only
  by_cases e : q = 0
  · subst e
    refine Go.yes (by decide) (Go.some ⟨t.congr fun k s _ _ => ?_, fr⟩)
    unfold cP
    by_cases e : 0 < k
    · rw [if_pos e]
    · rw [if_neg e, cT_lt (by omega)]
  obtain ⟨q, rfl⟩ : ∃ j, q = j + 1 := ⟨q - 1, by omega⟩
  rw [nI_dec (by omega), Nat.add_sub_cancel]
  refine Go.no (nI_nneg (by omega)) ?_
  refine Go.bind (carM_row x2 hm hX hi (by omega) hw t) (fun A2 h2 => Go.some ?_)
  exact ⟨q, by omega, A2, rfl, by omega, h2.1, fun b hb => by rw [h2.2 b hb, fr b hb]⟩
theorem carK_table {A : Mm} {w : Nat → Nat} {X m : Nat} (x2 : Int32) (hm : m ≤ 24) (hX : X ≤ 400) (h7 : A 8 0 = nI m) (hw : ∀ i, i < m → w i ≤ 99 ∧ A 12 i = nI (w i)) (h8 : ¬ A 0 8 = 0) (hT : TX A 252 (cT w 0) m X) :
    Go (lp 1000000 (fun s => fY_loads_b25 (nI X) x2 s.1 s.2) (0, A)) (fun A' => TX A' 252 (cT w m) m X ∧ ∀ b, b ≠ 252 → A' b = A b) := by
  refine go_for (fun i s => ∃ A', s = (nI i, A') ∧ TX A' 252 (cT w i) m X ∧ ∀ b, b ≠ 252 → A' b = A b) m ?_ ?_ (i := 0) (by omega) ⟨A, rfl, hT, fun _ _ => rfl⟩ (by omega)
  · rintro s ⟨A', rfl, t, fr⟩
    unfold fY_loads_b25
    dsimp only
    exact Go.yes (by rw [fr 8 (by omega), h7]; exact i32_le.mpr (Int.le_refl _)) (Go.some ⟨t, fr⟩)
  · rintro i s hi ⟨A', rfl, t, fr⟩
    unfold fY_loads_b25
    dsimp only
    obtain ⟨w1, w2⟩ := hw i hi
    refine Go.no (by rw [fr 8 (by omega), h7, nI_le' (by omega) (by omega)]; omega) ?_
    refine Go.gd ((inb_nI (by omega)).mpr (by omega)) ?_
    rw [jix_nI (by omega), fr 12 (by omega), w2, nI_1]
    refine Go.bind (carK_add hm hX hi w1 (by rw [fr 0 (by omega)]; exact h8) t) (fun A2 h2 => Go.some ?_)
    exact ⟨A2, rfl, h2.1, fun b hb => by rw [h2.2 b hb, fr b hb]⟩
theorem carM_table {B : Mm} {w : Nat → Nat} {X m : Nat} (hm : m ≤ 24) (hX : X ≤ 400) (h10 : B 218 10 = nI m) (hw : ∀ i, i < m → w i ≤ 99 ∧ B 218 (57 + 5 * i) = nI (w i)) (hT : TX B 243 (cT w 0) m X) :
    Go (lp 1000000 (fun s => fM_findsCarried_b32 (nI X) s.1 s.2) (0, B)) (fun B' => TX B' 243 (cT w m) m X ∧ ∀ b, b ≠ 243 → B' b = B b) := by
  refine go_for (fun i s => ∃ B', s = (nI i, B') ∧ TX B' 243 (cT w i) m X ∧ ∀ b, b ≠ 243 → B' b = B b) m ?_ ?_ (i := 0) (by omega) ⟨B, rfl, hT, fun _ _ => rfl⟩ (by omega)
  · rintro s ⟨B', rfl, t, fr⟩
    unfold fM_findsCarried_b32
    dsimp only
    exact Go.yes (by rw [fr 218 (by omega), h10]; exact i32_le.mpr (Int.le_refl _)) (Go.some ⟨t, fr⟩)
  · rintro i s hi ⟨B', rfl, t, fr⟩
    unfold fM_findsCarried_b32
    dsimp only
    obtain ⟨w1, w2⟩ := hw i hi
    have j1 : fM_letterAt (nI i) + 3 = nI (57 + 5 * i) := by
      unfold fM_letterAt
      rw [(lit_nI _ : (54 : Int32) = nI 54), (lit_nI _ : (5 : Int32) = nI 5), (lit_nI _ : (3 : Int32) = nI 3), nI_mul', nI_add, nI_add]; exact congrArg nI (by omega)
    rw [j1]
    refine Go.no (by rw [fr 218 (by omega), h10, nI_le' (by omega) (by omega)]; omega) ?_
    refine Go.gd ((inb_nI (by omega)).mpr (by omega)) ?_
    rw [jix_nI (by omega), fr 218 (by omega), w2, nI_1]
    refine Go.bind (carM_add (nI i) hm hX hi w1 t) (fun A2 h2 => Go.some ?_)
    exact ⟨A2, rfl, h2.1, fun b hb => by rw [h2.2 b hb, fr b hb]⟩
end PmCarries2
