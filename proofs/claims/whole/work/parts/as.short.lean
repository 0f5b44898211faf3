section PmShort
def sn (f dd : Nat → Nat → Nat) (U h : Nat) : Nat → Nat
  | 0 => 1000000
  | k + 1 => min (sn f dd U h k) (f U k + dd k h)
theorem sn_1 (f dd : Nat → Nat → Nat) (U h k : Nat) : sn f dd U h (k + 1) = min (sn f dd U h k) (f U k + dd k h) := rfl
theorem sn_le (f dd : Nat → Nat → Nat) (U h : Nat) : ∀ k, sn f dd U h k ≤ 1000000
  | 0 => Nat.le_refl _
  | k + 1 => by rw [sn_1]; have := sn_le f dd U h k; omega
theorem sn_congr {f g dd : Nat → Nat → Nat} {U h : Nat} : ∀ {k}, (∀ i, i < k → f U i = g U i) → sn f dd U h k = sn g dd U h k
  | 0, _ => rfl
  | k + 1, e => by rw [sn_1, sn_1, sn_congr (fun i hi => e i (by omega)), e k (by omega)]
theorem sn_inf {f dd : Nat → Nat → Nat} {U h : Nat} : ∀ {k}, (∀ i, i < k → f U i = 1000000) → sn f dd U h k = 1000000
  | 0, _ => rfl
  | k + 1, e => by rw [sn_1, sn_inf (fun i hi => e i (by omega)), e k (by omega)]; omega
def sB (ds : Nat → Nat) (T h : Nat) : Nat := if T = 2 ^ h then ds h else 1000000
def sR (ds : Nat → Nat) (dd : Nat → Nat → Nat) (m : Nat) (f : Nat → Nat → Nat) (N : Nat) : Prop := ∀ T, T < N → ∀ h, h < m → f T h = if T.testBit h = true then min (sB ds T h) (sn f dd (T - 2 ^ h) h m) else 1000000
theorem sR_uniq {ds : Nat → Nat} {dd f g : Nat → Nat → Nat} {m N : Nat} (hf : sR ds dd m f N) (hg : sR ds dd m g N) : ∀ T, T < N → ∀ h, h < m → f T h = g T h := by
  have : ∀ k T, T ≤ k → T < N → ∀ h, h < m → f T h = g T h := by
    intro k
    induction k with
    | zero =>
      intro T h1 h2 h hh
      have : T = 0 := by omega
      subst this
      rw [hf 0 h2 h hh, hg 0 h2 h hh, if_neg (by rw [Nat.zero_testBit]; decide), if_neg (by rw [Nat.zero_testBit]; decide)]
    | succ k ih =>
      intro T h1 h2 h hh
      rw [hf T h2 h hh, hg T h2 h hh]
      by_cases b : T.testBit h = true
      · have := tb_ge b
        have := p2p h
        rw [if_pos b, if_pos b, sn_congr (fun i hi => ih (T - 2 ^ h) (by omega) (by omega) i hi)]
      · rw [if_neg b, if_neg b]
  exact fun T hT => this T T (Nat.le_refl _) hT
theorem sn_bd {f dd : Nat → Nat → Nat} {U h : Nat} (hU : U ≤ 255) : ∀ {k}, (∀ i, i < k → f U i = 1000000 ∨ f U i ≤ 1287 * U) → (∀ i, i < k → dd i h = 1000000 ∨ dd i h ≤ 1287) → (sn f dd U h k = 1000000 ∨ sn f dd U h k ≤ 1287 * (U + 1))
  | 0, _, _ => Or.inl rfl
  | k + 1, a, b => by
    have := sn_bd hU (k := k) (fun i hi => a i (by omega)) (fun i hi => b i (by omega))
    have := a k (by omega)
    have := b k (by omega)
    rw [sn_1]
    omega
theorem sR_bd {ds : Nat → Nat} {dd f : Nat → Nat → Nat} {m N : Nat} (hf : sR ds dd m f N) (hN : N ≤ 256) (h1 : ∀ h, h < m → ds h = 1000000 ∨ ds h ≤ 1287) (h2 : ∀ i h, i < m → h < m → dd i h = 1000000 ∨ dd i h ≤ 1287) : ∀ T, T < N → ∀ h, h < m → (f T h = 1000000 ∨ f T h ≤ 1287 * T) := by
  have : ∀ k T, T ≤ k → T < N → ∀ h, h < m → (f T h = 1000000 ∨ f T h ≤ 1287 * T) := by
    intro k
    induction k with
    | zero =>
      intro T q1 q2 h hh
      have : T = 0 := by omega
      subst this
      rw [hf 0 q2 h hh, if_neg (by rw [Nat.zero_testBit]; decide)]
      exact Or.inl rfl
    | succ k ih =>
      intro T q1 q2 h hh
      rw [hf T q2 h hh]
      by_cases b : T.testBit h = true
      · have g1 := tb_ge b
        have g2 := p2p h
        rw [if_pos b]
        have s := sn_bd (f := f) (dd := dd) (U := T - 2 ^ h) (h := h) (by omega) (k := m) (fun i hi => ih (T - 2 ^ h) (by omega) (by omega) i hi) (fun i hi => h2 i h hi hh)
        have d := h1 h hh
        unfold sB
        split <;> omega
      · rw [if_neg b]; exact Or.inl rfl
  exact fun T hT => this T T (Nat.le_refl _) hT
/-- how far the table has come: sets below s, and of s itself the last ones below k -/
def sV (ds : Nat → Nat) (dd : Nat → Nat → Nat) (m : Nat) (c : Nat → Nat → Nat) (s k T h : Nat) : Nat := if T.testBit h = true then min (sB ds T h) (if T - 2 ^ h < s then sn c dd (T - 2 ^ h) h m else if T - 2 ^ h = s then sn c dd s h k else 1000000) else 1000000
def sU (dd : Nat → Nat → Nat) (c : Nat → Nat → Nat) (s g T h : Nat) : Nat := if T.testBit h = true ∧ T - 2 ^ h = s then min (c T h) (c s g + dd g h) else c T h
theorem sU_low {dd c : Nat → Nat → Nat} {s g T h : Nat} (hT : T ≤ s) : sU dd c s g T h = c T h := by
  unfold sU
  refine if_neg fun q => ?_
  have := tb_ge q.1
  have := p2p h
  omega
theorem sV_le {ds : Nat → Nat} {dd c : Nat → Nat → Nat} {m s k T h : Nat} : sV ds dd m c s k T h ≤ 1000000 := by
  unfold sV
  split
  · have := sn_le c dd (T - 2 ^ h) h m
    have := sn_le c dd s h k
    split
    · omega
    · split <;> omega
  · omega
theorem sV_step {ds : Nat → Nat} {dd c : Nat → Nat → Nat} {m s k T h : Nat} (hc : c T h = sV ds dd m c s k T h) : sU dd c s k T h = sV ds dd m (sU dd c s k) s (k + 1) T h := by
  have e1 : ∀ U, U ≤ s → ∀ j, sn (sU dd c s k) dd U h j = sn c dd U h j := fun U hU j => sn_congr fun i _ => sU_low hU
  have hc2 := hc
  unfold sV at hc ⊢
  by_cases b : T.testBit h = true
  · rw [if_pos b] at hc ⊢
    by_cases l : T - 2 ^ h < s
    · rw [if_pos l] at hc ⊢
      rw [e1 _ (by omega), ← hc]
      unfold sU
      exact if_neg (by omega)
    · rw [if_neg l] at hc ⊢
      by_cases q : T - 2 ^ h = s
      · rw [if_pos q] at hc ⊢
        rw [e1 s (Nat.le_refl _), sn_1]
        unfold sU
        rw [if_pos ⟨b, q⟩, hc]
        omega
      · rw [if_neg q] at hc ⊢
        rw [← hc]
        unfold sU
        exact if_neg (fun z => q z.2)
  · rw [if_neg b] at hc ⊢
    rw [← hc]
    unfold sU
    exact if_neg (fun z => b z.1)
theorem sV_next {ds : Nat → Nat} {dd c : Nat → Nat → Nat} {m s T h : Nat} : sV ds dd m c s m T h = sV ds dd m c (s + 1) 0 T h := by
  unfold sV
  by_cases b : T.testBit h = true
  · rw [if_pos b, if_pos b]
    by_cases l : T - 2 ^ h < s
    · rw [if_pos l, if_pos (by omega)]
    · rw [if_neg l]
      by_cases q : T - 2 ^ h = s
      · rw [if_pos q, if_pos (by omega), q]
      · rw [if_neg q, if_neg (by omega)]
        show _ = min (sB ds T h) (if T - 2 ^ h = s + 1 then 1000000 else 1000000)
        split <;> rfl
  · rw [if_neg b, if_neg b]
theorem sV_first {ds : Nat → Nat} {dd : Nat → Nat → Nat} {m T h : Nat} (hd : ds h ≤ 1000000) (hm : m ≤ 8) : sB ds T h = sV ds dd m (sB ds) 1 0 T h := by
  have z : sn (sB ds) dd 0 h m = 1000000 := sn_inf fun i _ => by
    unfold sB
    have := p2p i
    exact if_neg (by omega)
  have bl : sB ds T h ≤ 1000000 := by
    unfold sB; split <;> omega
  unfold sV
  by_cases b : T.testBit h = true
  · rw [if_pos b]
    by_cases l : T - 2 ^ h < 1
    · rw [if_pos l, show T - 2 ^ h = 0 by omega, z]; omega
    · rw [if_neg l]
      show _ = min (sB ds T h) (if T - 2 ^ h = 1 then 1000000 else 1000000)
      split <;> omega
  · rw [if_neg b]
    unfold sB
    refine if_neg fun e => b ?_
    rw [e]; exact Nat.testBit_two_pow_self
theorem sV_last {ds : Nat → Nat} {dd c : Nat → Nat → Nat} {m s : Nat} (h : ∀ T, T < s → ∀ h, h < m → c T h = sV ds dd m c s 0 T h) : sR ds dd m c s := by
  intro T hT g hg
  rw [h T hT g hg]
  unfold sV
  by_cases b : T.testBit g = true
  · have := tb_ge b
    have := p2p g
    rw [if_pos b, if_pos b, if_pos (by omega)]
  · rw [if_neg b, if_neg b]
end PmShort
