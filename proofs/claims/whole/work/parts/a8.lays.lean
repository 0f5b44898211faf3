section PmLays
def fct : Nat → Nat
  | 0 => 1
  | n + 1 => (n + 1) * fct n
theorem fct_pos : ∀ n, 0 < fct n
  | 0 => by decide
  | n + 1 => Nat.mul_pos (by omega) (fct_pos n)
theorem fct_mono : ∀ {m n : Nat}, m ≤ n → fct m ≤ fct n := by
  intro m n h
  induction n with
  | zero => have : m = 0 := by omega
            subst this; exact Nat.le_refl _
  | succ n ih =>
    by_cases e : m = n + 1
    · subst e; exact Nat.le_refl _
    · refine Nat.le_trans (ih (by omega)) ?_
      show fct n ≤ (n + 1) * fct n
      exact Nat.le_mul_of_pos_left _ (by omega)
theorem fct_dvd : ∀ s m n, m + n = s → fct m * fct n ∣ fct s := by
  intro s
  induction s with
  | zero =>
    intro m n h
    have h1 : m = 0 := by omega
    have h2 : n = 0 := by omega
    subst h1 h2; exact Nat.dvd_refl _
  | succ s ih =>
    intro m n h
    cases m with
    | zero =>
      have : n = s + 1 := by omega
      subst this
      show 1 * fct (s + 1) ∣ _
      rw [Nat.one_mul]; exact Nat.dvd_refl _
    | succ m =>
      cases n with
      | zero =>
        have : m = s := by omega
        subst this
        show fct (m + 1) * 1 ∣ _
        rw [Nat.mul_one]; exact Nat.dvd_refl _
      | succ n =>
        have e : fct (s + 1) = (m + 1) * fct s + (n + 1) * fct s := by
          show (s + 1) * fct s = _
          rw [← Nat.add_mul]; congr 1; omega
        rw [e]
        refine Nat.dvd_add ?_ ?_
        · show (m + 1) * fct m * fct (n + 1) ∣ _
          rw [Nat.mul_assoc]
          exact Nat.mul_dvd_mul_left _ (ih m (n + 1) (by omega))
        · show fct (m + 1) * ((n + 1) * fct n) ∣ _
          rw [Nat.mul_left_comm]
          exact Nat.mul_dvd_mul_left _ (ih (m + 1) n (by omega))
def prodf (f : Nat → Nat) : Nat → Nat
  | 0 => 1
  | i + 1 => prodf f i * fct (f i)
def sumf (f : Nat → Nat) : Nat → Nat
  | 0 => 0
  | i + 1 => sumf f i + f i
theorem prodf_pos (f : Nat → Nat) : ∀ i, 0 < prodf f i
  | 0 => Nat.one_pos
  | i + 1 => Nat.mul_pos (prodf_pos f i) (fct_pos _)
theorem prodf_dvd (f : Nat → Nat) : ∀ i, prodf f i ∣ fct (sumf f i)
  | 0 => Nat.dvd_refl _
  | i + 1 => Nat.dvd_trans (Nat.mul_dvd_mul (prodf_dvd f i) (Nat.dvd_refl _)) (fct_dvd _ _ _ rfl)
theorem prodf_congr {f g : Nat → Nat} : ∀ {i : Nat}, (∀ l, l < i → f l = g l) → prodf f i = prodf g i
  | 0, _ => rfl
  | i + 1, h => by
    show prodf f i * fct (f i) = prodf g i * fct (g i)
    rw [prodf_congr (fun l hl => h l (by omega)), h i (by omega)]
theorem prodf_upd {f g : Nat → Nat} {w : Nat} (hg : ∀ l, g l = if l = w then f l + 1 else f l) : ∀ {i : Nat}, (i ≤ w → prodf g i = prodf f i) ∧ (w < i → prodf g i = prodf f i * (f w + 1))
  | 0 => ⟨fun _ => rfl, fun h => by omega⟩
  | i + 1 => by
    obtain ⟨h1, h2⟩ := prodf_upd hg (i := i)
    refine ⟨fun h => ?_, fun h => ?_⟩
    · show prodf g i * fct (g i) = prodf f i * fct (f i)
      rw [h1 (by omega), hg i, if_neg (by omega)]
    · show prodf g i * fct (g i) = prodf f i * fct (f i) * (f w + 1)
      by_cases e : i = w
      · subst e
        rw [h1 (Nat.le_refl _), hg i, if_pos rfl]
        show _ * ((f i + 1) * fct (f i)) = _
        rw [Nat.mul_comm (f i + 1), Nat.mul_assoc]
      · rw [h2 (by omega), hg i, if_neg e, Nat.mul_right_comm]
theorem sumf_upd {f g : Nat → Nat} {w : Nat} (hg : ∀ l, g l = if l = w then f l + 1 else f l) : ∀ {i : Nat}, (i ≤ w → sumf g i = sumf f i) ∧ (w < i → sumf g i = sumf f i + 1)
  | 0 => ⟨fun _ => rfl, fun h => by omega⟩
  | i + 1 => by
    obtain ⟨h1, h2⟩ := sumf_upd hg (i := i)
    refine ⟨fun h => ?_, fun h => ?_⟩
    · show sumf g i + g i = sumf f i + f i
      rw [h1 (by omega), hg i, if_neg (by omega)]
    · show sumf g i + g i = sumf f i + f i + 1
      by_cases e : i = w
      · subst e
        rw [h1 (Nat.le_refl _), hg i, if_pos rfl]; omega
      · rw [h2 (by omega), hg i, if_neg e]; omega
theorem sumf_0 {f : Nat → Nat} (h : ∀ l, f l = 0) : ∀ i, sumf f i = 0
  | 0 => rfl
  | i + 1 => by show sumf f i + f i = 0; rw [sumf_0 h i, h i]
theorem ord_step {O P n a : Nat} (hP : 0 < P) (ha : 0 < a) (h : O * P = fct n) (d : P * a ∣ fct (n + 1)) : (O * (n + 1) / a) * (P * a) = fct (n + 1) := by
  obtain ⟨q, hq⟩ := d
  have e : O * (n + 1) = a * q := by
    apply Nat.eq_of_mul_eq_mul_left hP
    have : P * (O * (n + 1)) = fct (n + 1) := by
      show _ = (n + 1) * fct n
      rw [← h]; rw [← Nat.mul_assoc, Nat.mul_comm P O, Nat.mul_comm]
    rw [this, hq, Nat.mul_assoc]
  rw [e, Nat.mul_div_cancel_left _ ha, hq, Nat.mul_comm]
theorem ord_le {O P n : Nat} (hP : 0 < P) (h : O * P = fct n) (hn : n ≤ 8) : O ≤ 40320 := by
  have h1 : O ≤ O * P := Nat.le_mul_of_pos_right _ hP
  have h2 : fct n ≤ fct 8 := fct_mono hn
  have h3 : fct 8 = 40320 := by decide
  omega
theorem need_eq {B : Mm} {p : Nat} (x : Int32) (hp : p ≤ 8) : fM_needOf x (nI p) B = some (nI (cnt (B 247) x p)) := by
  apply Go.eq
  unfold fM_needOf
  refine Go.bind (P := fun e => e = nI (cnt (B 247) x p)) ?_ (fun e he => Go.some he)
  refine go_for (fun i s => s = (nI (cnt (B 247) x i), nI i)) p ?_ ?_ (i := 0) (by omega) rfl (by omega)
  · rintro s rfl
    exact Go.yes (i32_le.mpr (Int.le_refl _)) (Go.some rfl)
  · rintro i s hi rfl
    unfold fM_needOf_b5
    dsimp only
    rw [jix_nI (by omega)]
    refine Go.no (by rw [nI_le' (by omega) (by omega)]; omega) ?_
    refine Go.gd ((inb_nI (by omega)).mpr (by omega)) ?_
    refine go_bind.mpr ?_
    by_cases e : B 247 i = x
    · refine Go.yes (e) ?_
      refine Go.some ?_
      refine Go.some ?_
      simp only [cnt, if_pos e, nI_1]
    · refine Go.no (e) ?_
      refine Go.some ?_
      refine Go.some ?_
      simp only [cnt, if_neg e, nI_1, Nat.add_zero]
end PmLays
