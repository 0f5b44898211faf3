section PmScan2
theorem en_gt (b : Nat → Nat) (p : Nat) : ∀ x, p < en b p x
  | 0 => by show p < p + 1; omega
  | x + 1 => by
    rw [en_1]
    have := en_gt b p x
    split
    · omega
    · split <;> omega
theorem en_le (b : Nat → Nat) (p : Nat) : ∀ x, p < x → en b p x ≤ x
  | 0, h => by omega
  | x + 1, h => by
    rw [en_1]
    by_cases c : x ≤ p
    · rw [if_pos c]; omega
    · rw [if_neg c]
      have := en_le b p x (by omega)
      split <;> omega
/-- the token's bytes are all of its sort -/
theorem en_in {b : Nat → Nat} {p : Nat} : ∀ {x k}, p < k → k < en b p x → gO b k = true
  | 0, k, h1, h2 => by have : k < p + 1 := h2; omega
  | x + 1, k, h1, h2 => by
    rw [en_1] at h2
    by_cases c : x ≤ p
    · rw [if_pos c] at h2; omega
    · rw [if_neg c] at h2
      by_cases d : en b p x = x ∧ gO b x = true
      · rw [if_pos d] at h2
        by_cases e : k = x
        · rw [e]; exact d.2
        · exact en_in (x := x) h1 (by omega)
      · rw [if_neg d] at h2
        exact en_in (x := x) h1 h2
/-- and it ends there -/
theorem en_end {b : Nat → Nat} {p : Nat} : ∀ {x}, p < x → en b p x = x ∨ ¬ gO b (en b p x) = true
  | 0, h => by omega
  | x + 1, h => by
    by_cases c : x ≤ p
    · left; rw [en_1, if_pos c]; omega
    · rcases en_end (b := b) (p := p) (x := x) (by omega) with q | q
      · by_cases g : gO b x = true
        · left; rw [en_1, if_neg c, if_pos ⟨q, g⟩]
        · right; rw [en_1, if_neg c, if_neg (fun k => g k.2), q]; exact g
      · right
        have : en b p (x + 1) = en b p x := by
          rw [en_1, if_neg c, if_neg]
          rintro ⟨k1, k2⟩
          rw [k1] at q
          exact q k2
        rw [this]; exact q
/-- what the digits say -/
def nm (b : Nat → Nat) (p : Nat) : Nat → Nat
  | 0 => 0
  | k + 1 => 10 * nm b p k + (b (p + k) - 48)
theorem nm_lt {b : Nat → Nat} {p : Nat} : ∀ {k}, (∀ j, j < k → 48 ≤ b (p + j) ∧ b (p + j) ≤ 57) → nm b p k < 10 ^ k
  | 0, _ => by show 0 < 1; omega
  | k + 1, h => by
    have := nm_lt (b := b) (p := p) (k := k) (fun j hj => h j (by omega))
    have := h k (by omega)
    rw [Nat.pow_succ]
    show 10 * nm b p k + (b (p + k) - 48) < _
    omega
theorem cl_1 {v : Nat} : cl v = 1 ↔ (48 ≤ v ∧ v ≤ 57) := by
  unfold cl
  constructor
  · intro h
    split at h
    · omega
    · split at h
      · assumption
      · split at h
        · omega
        · split at h <;> omega
  · intro h
    rw [if_neg (by omega), if_pos h]
theorem cl_same {b : Nat → Nat} {p : Nat} : ∀ {x k}, p ≤ k → k < en b p x → cl (b k) = cl (b p) := by
  intro x k
  induction k with
  | zero => intro h _; rw [show p = 0 by omega]
  | succ k ih =>
    intro h1 h2
    by_cases e : p = k + 1
    · rw [e]
    · have g := gO_iff.mp (en_in (x := x) (show p < k + 1 by omega) h2)
      rw [← g.2.1, Nat.add_sub_cancel]
      exact ih (by omega) (by omega)
/-- the reader's token that begins at p -/
def tK (b : Nat → Nat) (L p : Nat) (s v : Int32) : Prop :=
  (cl (b p) = 4 ∧ wR b p (en b p L) s) ∨ (cl (b p) = 1 ∧ en b p L ≤ p + 4 ∧ s = 1 ∧ v = nI (nm b p (en b p L - p))) ∨ (cl (b p) = 1 ∧ p + 4 < en b p L ∧ s = 0) ∨ (cl (b p) ≠ 4 ∧ cl (b p) ≠ 1 ∧ s = nI (cl (b p)))
def TBL (A : Mm) (b : Nat → Nat) (L : Nat) : Prop := A 162 0 = nI (cs b L + 1) ∧ (∀ p, p < L → sT b p = true → A 165 (cs b p) = nI p ∧ tK b L p (A 163 (cs b p)) (A 164 (cs b p))) ∧ A 163 (cs b L) = 2 ∧ A 165 (cs b L) = nI L ∧ A 146 2 = -1
theorem add_eq {A : Mm} {n : Nat} (x1 x2 x3 : Int32) (hn : n ≤ 400) (h : A 162 0 = nI n) : fO_add x1 x2 x3 A = some (mput (mput (mput (mput (mput A 163 n x1) 164 n 0) 165 n x2) 166 n x3) 162 0 (nI (n + 1))) := by
  refine Go.eq ?_
  unfold fO_add
  have i1 : inb (nI n) 401 := (inb_nI (by omega)).mpr (by omega)
  have j : jix (nI n) = n := jix_nI (by omega)
  have e1 : mput A 163 n x1 162 0 = nI n := by rw [mput_r (by omega)]; exact h
  have e2 : mput (mput A 163 n x1) 164 n 0 162 0 = nI n := by rw [mput_r (by omega)]; exact e1
  have e3 : mput (mput (mput A 163 n x1) 164 n 0) 165 n x2 162 0 = nI n := by rw [mput_r (by omega)]; exact e2
  have e4 : mput (mput (mput (mput A 163 n x1) 164 n 0) 165 n x2) 166 n x3 162 0 = nI n := by rw [mput_r (by omega)]; exact e3
  simp only [h, j, e1, e2, e3, e4, nI_1]
  refine Go.no (by rw [(lit_nI _ : (400 : Int32) = nI 400), nI_lt' (by omega) (by omega)]; omega) ?_
  refine Go.gd (i1) ?_
  refine Go.gd (i1) ?_
  refine Go.gd (i1) ?_
  refine Go.gd (i1) ?_
  refine Go.some ?_
  rfl
/-- the table while the bytes below x are read -/
def SC (A : Mm) (b : Nat → Nat) (x : Nat) : Prop := A 162 0 = nI (cs b x) ∧ ∀ p, p < x → sT b p = true → A 163 (cs b p) = nI (cl (b p)) ∧ A 164 (cs b p) = 0 ∧ A 165 (cs b p) = nI p ∧ A 166 (cs b p) = nI (en b p x)
theorem cl_lt (v : Nat) (h : v < 256) : cl v < 256 := by
  unfold cl
  split
  · omega
  · split
    · omega
    · split
      · omega
      · split <;> omega
theorem scan_1 {A : Mm} {b : Nat → Nat} {L : Nat} (hL : L ≤ 400) (hb : ∀ k, k < L → A 178 k = jbyte (nI (b k)) ∧ b k < 256) (h0 : A 162 0 = 0) :
    Go (lp 1000000 (fun s => fO_scan_b10 (nI L) s.1 s.2.1 s.2.2) (3, 0, A)) (fun A' => SC A' b L ∧ ∀ c, (c < 162 ∨ 166 < c) → A' c = A c) := by
  refine go_for (fun x s => ∃ A', s = (nI (if x = 0 then 3 else cl (b (x - 1))), nI x, A') ∧ SC A' b x ∧ ∀ c, (c < 162 ∨ 166 < c) → A' c = A c) L ?_ ?_ (i := 0) (by omega) ⟨A, rfl, ⟨h0, fun p hp => by omega⟩, fun _ _ => rfl⟩ (by omega)
  · rintro s ⟨A', rfl, h, fr⟩
    unfold fO_scan_b10
    dsimp only
    exact Go.yes (i32_le.mpr (Int.le_refl _)) (Go.some ⟨h, fr⟩)
  · rintro x s hx ⟨A', rfl, ⟨h1, h2⟩, fr⟩
    unfold fO_scan_b10
    dsimp only
    obtain ⟨b1, b2⟩ := hb x hx
    have c256 := cl_lt (b x) b2
    have cl' := cs_le b x
    have p256 : (if x = 0 then 3 else cl (b (x - 1))) < 256 := by
      split
      · omega
      · exact cl_lt _ (hb (x - 1) (by omega)).2
    refine Go.no (by rw [nI_le' (by omega) (by omega)]; omega) ?_
    refine Go.no (by rw [(lit_nI _ : (400 : Int32) = nI 400), nI_le' (by omega) (by omega)]; omega) ?_
    refine Go.gd ((inb_nI (by omega)).mpr (by omega)) ?_
    refine go_bind.mpr ?_
    rw [jix_nI (by omega), fr 178 (by omega), b1, sortOf_eq b2, nI_1]
    refine Go.some ?_
    have cond : (if nI (cl (b x)) = nI (if x = 0 then 3 else cl (b (x - 1))) then (if nI (cl (b x)) = 4 then (1 : Int32) else (if nI (cl (b x)) = 1 then (1 : Int32) else 0)) else 0) = if gO b x = true then 1 else 0 := by
      have e4 : nI (cl (b x)) = 4 ↔ cl (b x) = 4 := by rw [(lit_nI _ : (4 : Int32) = nI 4), nI_eq' (by omega) (by omega)]
      have e1 : nI (cl (b x)) = 1 ↔ cl (b x) = 1 := by rw [(lit_nI _ : (1 : Int32) = nI 1), nI_eq' (by omega) (by omega)]
      have e0 : nI (cl (b x)) = nI (if x = 0 then 3 else cl (b (x - 1))) ↔ cl (b x) = (if x = 0 then 3 else cl (b (x - 1))) := nI_eq' (by omega) (by omega)
      by_cases g : gO b x = true
      · have g' := gO_iff.mp g
        rw [if_pos g, if_pos (e0.mpr (by rw [if_neg (by omega)]; exact g'.2.1.symm))]
        rcases g'.2.2 with q | q
        · rw [if_pos (e4.mpr q)]
        · rw [if_neg (fun k => by have := e4.mp k; omega), if_pos (e1.mpr q)]
      · rw [if_neg g]
        by_cases k0 : nI (cl (b x)) = nI (if x = 0 then 3 else cl (b (x - 1)))
        · rw [if_pos k0]
          have k0 := e0.mp k0
          have no : ¬ (cl (b x) = 4 ∨ cl (b x) = 1) := fun q => by
            by_cases z : x = 0
            · rw [if_pos z] at k0; omega
            · rw [if_neg z] at k0
              exact g (gO_iff.mpr ⟨by omega, k0.symm, q⟩)
          rw [if_neg (fun k => no (Or.inl (e4.mp k))), if_neg (fun k => no (Or.inr (e1.mp k)))]
        · rw [if_neg k0]
    simp only [cond]
    refine go_bind.mpr ?_
    by_cases g : gO b x = true
    · have g' := gO_iff.mp g
      have ns : ¬ sT b x = true := fun k => (sT_iff.mp k).2 g
      obtain ⟨p, p1, p2, p3, p4⟩ := en_last (b := b) (x := x) g'.1 (by rw [g'.2.1]; omega)
      have e1 : A' 162 0 - 1 = nI (cs b p) := by rw [h1, (lit_nI _ : (1 : Int32) = nI 1), nI_sub' (by omega)]; exact congrArg nI (by omega)
      rw [e1]
      refine Go.no (by rw [if_pos g]; decide) ?_
      refine Go.no (by rw [h1, ← nI_zero, nI_le' (by omega) (by omega)]; omega) ?_
      refine Go.gd ((inb_nI (by omega)).mpr (by omega)) ?_
      refine Go.some ?_
      refine Go.some ?_
      dsimp only
      rw [jix_nI (by omega)]
      refine ⟨_, by rw [if_neg (by omega), Nat.add_sub_cancel], ⟨by rw [mput_r (by omega), h1, cs_1, if_neg ns]; rfl, fun q hq hs => ?_⟩, fun c hc => by rw [mput_r (by omega)]; exact fr c hc⟩
      have qx : q < x := by
        by_cases z : q = x
        · subst z; exact absurd hs ns
        · omega
      obtain ⟨a1, a2, a3, a4⟩ := h2 q qx hs
      rw [mput_r (by omega), mput_r (by omega), mput_r (by omega)]
      refine ⟨a1, a2, a3, ?_⟩
      by_cases z : q = p
      · subst z
        rw [mput_same, en_1, if_neg (by omega), if_pos ⟨p4, g⟩]
      · rw [mput_s (fun k => z (cs_inj hs p2 k)), a4, en_1, if_neg (by omega), if_neg]
        rintro ⟨k1, -⟩
        have lt : q < p := by
          rcases Nat.lt_trichotomy q p with k | k | k
          · exact k
          · exact absurd k z
          · have := cs_lt k p2
            have := cs_lt qx hs
            omega
        have := en_stop lt p2 p1
        omega
    · have enx : ∀ q, q < x → en b q (x + 1) = en b q x := fun q hq => by rw [en_1, if_neg (by omega), if_neg (fun k => g k.2)]
      by_cases c3 : cl (b x) = 3
      · have ns : ¬ sT b x = true := fun k => (sT_iff.mp k).1 c3
        refine Go.yes (by rw [if_neg g]) ?_
        refine Go.yes (by rw [c3]; rfl) ?_
        refine Go.some ?_
        refine Go.some ?_
        dsimp only
        refine ⟨A', by rw [if_neg (by omega), Nat.add_sub_cancel], ⟨by rw [h1, cs_1, if_neg ns]; rfl, fun q hq hs => ?_⟩, fr⟩
        have qx : q < x := by
          by_cases z : q = x
          · subst z; exact absurd hs ns
          · omega
        rw [enx q qx]; exact h2 q qx hs
      · have s1 : sT b x = true := sT_iff.mpr ⟨c3, g⟩
        refine Go.yes (by rw [if_neg g]) ?_
        refine Go.no (by rw [(lit_nI _ : (3 : Int32) = nI 3), nI_eq' (by omega) (by omega)]; exact c3) ?_
        refine go_bind.mpr ?_
        rw [add_eq _ _ _ (by omega) h1]
        refine Go.some ?_
        refine Go.some ?_
        refine Go.some ?_
        dsimp only
        refine ⟨_, by rw [if_neg (by omega), Nat.add_sub_cancel], ⟨by rw [mput_same, cs_1, if_pos s1], fun q hq hs => ?_⟩, fun c hc => by rw [mput_r (by omega), mput_r (by omega), mput_r (by omega), mput_r (by omega), mput_r (by omega)]; exact fr c hc⟩
        rw [mput_r (show 163 ≠ 162 by omega), mput_r (show 163 ≠ 166 by omega), mput_r (show 163 ≠ 165 by omega), mput_r (show 163 ≠ 164 by omega), mput_r (show 164 ≠ 162 by omega), mput_r (show 164 ≠ 166 by omega), mput_r (show 164 ≠ 165 by omega), mput_r (show 165 ≠ 162 by omega), mput_r (show 165 ≠ 166 by omega), mput_r (show 166 ≠ 162 by omega)]
        by_cases z : q = x
        · subst z
          rw [mput_same, mput_same, mput_same, mput_same, en_self]
          exact ⟨rfl, rfl, rfl, rfl⟩
        · have lt := cs_lt (show q < x by omega) hs
          rw [mput_s (by omega), mput_s (by omega), mput_s (by omega), mput_s (by omega), mput_r (show 164 ≠ 163 by omega), mput_r (show 165 ≠ 164 by omega), mput_r (show 165 ≠ 163 by omega), mput_r (show 166 ≠ 165 by omega), mput_r (show 166 ≠ 164 by omega), mput_r (show 166 ≠ 163 by omega), enx q (by omega)]
          exact h2 q (by omega) hs
end PmScan2
