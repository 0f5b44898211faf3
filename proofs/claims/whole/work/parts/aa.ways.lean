section PmWays
theorem ix12 (a b : Nat) : nI a * 12 + nI b = nI (12 * a + b) := by rw [lit_nI, nI_mul', nI_add, Nat.mul_comm]
theorem ix12' (a b : Nat) : 12 * nI a + nI b = nI (12 * a + b) := by rw [lit_nI, nI_mul', nI_add]
/-- one cell of the ways: the same way, or none on both sides -/
def EE (A B : Mm) (k m : Nat) : Prop := (∃ d, d ≤ m ∧ A 174 k = nI d ∧ B 238 k = nI d) ∨ (A 174 k = nI 1000000 ∧ B 238 k = nI 100000000)
theorem EE.mono {A B : Mm} {k m m' : Nat} (h : EE A B k m) (q : m ≤ m') : EE A B k m' := h.imp_left fun ⟨d, a, b⟩ => ⟨d, by omega, b⟩
theorem EE.put {A B : Mm} {k m j : Nat} {x y : Int32} (h : EE A B k m) (hj : k ≠ j) : EE (mput A 174 j x) (mput B 238 j y) k m := by
  unfold EE
  rw [mput_s hj, mput_s hj]; exact h
theorem EE.new {A B : Mm} {k m : Nat} {x y : Int32} (h : (∃ d, d ≤ m ∧ x = nI d ∧ y = nI d) ∨ (x = nI 1000000 ∧ y = nI 100000000)) : EE (mput A 174 k x) (mput B 238 k y) k m := by
  unfold EE
  rw [show mput A 174 k x 174 k = x by simp [mput], show mput B 238 k y 238 k = y by simp [mput]]; exact h
/-- the ways while the round of v goes on -/
def DD (A B : Mm) (n v β : Nat) : Prop := (∀ a b, a < n → b < n → EE A B (12 * a + b) (if a = v ∨ b = v then β else 2 * β)) ∧ ∀ a, a < n → A 174 (12 * a + a) = nI 0 ∧ B 238 (12 * a + a) = nI 0
/-- the ways between two rounds -/
def DE (A B : Mm) (n β : Nat) : Prop := (∀ a b, a < n → b < n → EE A B (12 * a + b) β) ∧ ∀ a, a < n → A 174 (12 * a + a) = nI 0 ∧ B 238 (12 * a + a) = nI 0
theorem DE.to {A B : Mm} {n v β : Nat} (h : DE A B n β) : DD A B n v β := ⟨fun a b ha hb => (h.1 a b ha hb).mono (by split <;> omega), h.2⟩
theorem DD.to {A B : Mm} {n v β : Nat} (h : DD A B n v β) : DE A B n (2 * β) := ⟨fun a b ha hb => (h.1 a b ha hb).mono (by split <;> omega), h.2⟩
/-- what a stretch of the ways' making leaves alone -/
def WF (A B A' B' : Mm) : Prop := (∀ c, c ≠ 174 → A' c = A c) ∧ ∀ c, c ≠ 238 → B' c = B c
theorem WF.rfl' (A B : Mm) : WF A B A B := ⟨fun _ _ => rfl, fun _ _ => rfl⟩
theorem WF.put {A B A' B' : Mm} {j k : Nat} {x y : Int32} (h : WF A B A' B') : WF A B (mput A' 174 j x) (mput B' 238 k y) :=
  ⟨fun c q => by rw [mput_r q]; exact h.1 c q, fun c q => by rw [mput_r q]; exact h.2 c q⟩
theorem dd_step {A B : Mm} {n v β a b : Nat} (hn : n ≤ 12) (hv : v < n) (ha : a < n) (hb : b < n) (hβ : β ≤ 300000) (h : DD A B n v β) :
    DD (mput A 174 (12 * a + b) (jmin (A 174 (12 * a + b)) (A 174 (12 * a + v) + A 174 (12 * v + b)))) (mput B 238 (12 * a + b) (fM_lesser (B 238 (12 * a + b)) (B 238 (12 * a + v) + B 238 (12 * v + b)))) n v β := by
  have h1 := h.1 a b ha hb
  have h2 := h.1 a v ha hv
  have h3 := h.1 v b hv hb
  rw [if_pos (Or.inr rfl)] at h2
  rw [if_pos (Or.inl rfl)] at h3
  have key : (∃ d, d ≤ (if a = v ∨ b = v then β else 2 * β) ∧ jmin (A 174 (12 * a + b)) (A 174 (12 * a + v) + A 174 (12 * v + b)) = nI d ∧ jmin (B 238 (12 * a + b)) (B 238 (12 * a + v) + B 238 (12 * v + b)) = nI d) ∨ (jmin (A 174 (12 * a + b)) (A 174 (12 * a + v) + A 174 (12 * v + b)) = nI 1000000 ∧ jmin (B 238 (12 * a + b)) (B 238 (12 * a + v) + B 238 (12 * v + b)) = nI 100000000) := by
    by_cases e1 : a = v
    · subst e1
      rw [(h.2 a ha).1, (h.2 a ha).2]
      rw [if_pos (Or.inl rfl)]
      rcases h3 with ⟨d, d1, d2, d3⟩ | ⟨d2, d3⟩
      · rw [d2, d3, nI_add, jmin_nI (by omega) (by omega)]
        exact Or.inl ⟨_, by omega, rfl, rfl⟩
      · rw [d2, d3, nI_add, nI_add, jmin_nI (by omega) (by omega), jmin_nI (by omega) (by omega)]
        exact Or.inr ⟨rfl, rfl⟩
    by_cases e2 : b = v
    · subst e2
      rw [(h.2 b hb).1, (h.2 b hb).2]
      rw [if_pos (Or.inr rfl)]
      rcases h2 with ⟨d, d1, d2, d3⟩ | ⟨d2, d3⟩
      · rw [d2, d3, nI_add, jmin_nI (by omega) (by omega)]
        exact Or.inl ⟨_, by omega, rfl, rfl⟩
      · rw [d2, d3, nI_add, nI_add, jmin_nI (by omega) (by omega), jmin_nI (by omega) (by omega)]
        exact Or.inr ⟨rfl, rfl⟩
    rw [if_neg (by omega)] at h1 ⊢
    rcases h1 with ⟨d, d1, d2, d3⟩ | ⟨d2, d3⟩ <;> rcases h2 with ⟨f, f1, f2, f3⟩ | ⟨f2, f3⟩ <;> rcases h3 with ⟨g, g1, g2, g3⟩ | ⟨g2, g3⟩ <;> rw [d2, d3, f2, f3, g2, g3]
    · rw [nI_add, jmin_nI (by omega) (by omega)]
      exact Or.inl ⟨_, by omega, rfl, rfl⟩
    · rw [nI_add, nI_add, jmin_nI (by omega) (by omega), jmin_nI (by omega) (by omega)]
      exact Or.inl ⟨d, d1, congrArg nI (by omega), congrArg nI (by omega)⟩
    · rw [nI_add, nI_add, jmin_nI (by omega) (by omega), jmin_nI (by omega) (by omega)]
      exact Or.inl ⟨d, d1, congrArg nI (by omega), congrArg nI (by omega)⟩
    · rw [nI_add, nI_add, jmin_nI (by omega) (by omega), jmin_nI (by omega) (by omega)]
      exact Or.inl ⟨d, d1, congrArg nI (by omega), congrArg nI (by omega)⟩
    · rw [nI_add, jmin_nI (by omega) (by omega), jmin_nI (by omega) (by omega)]
      exact Or.inl ⟨f + g, by omega, congrArg nI (by omega), congrArg nI (by omega)⟩
    · rw [nI_add, nI_add, jmin_nI (by omega) (by omega), jmin_nI (by omega) (by omega)]
      exact Or.inr ⟨congrArg nI (by omega), congrArg nI (by omega)⟩
    · rw [nI_add, nI_add, jmin_nI (by omega) (by omega), jmin_nI (by omega) (by omega)]
      exact Or.inr ⟨congrArg nI (by omega), congrArg nI (by omega)⟩
    · rw [nI_add, nI_add, jmin_nI (by omega) (by omega), jmin_nI (by omega) (by omega)]
      exact Or.inr ⟨congrArg nI (by omega), congrArg nI (by omega)⟩
  rw [← jmin_eq]
  refine ⟨fun a' b' ha' hb' => ?_, fun a' ha' => ?_⟩
  · by_cases e : 12 * a' + b' = 12 * a + b
    · have e1 : a' = a := by omega
      have e2 : b' = b := by omega
      subst e1 e2
      exact EE.new key
    · exact (h.1 a' b' ha' hb').put e
  · by_cases e : 12 * a' + a' = 12 * a + b
    · have e1 : a' = a := by omega
      have e2 : b = a := by omega
      subst e1 e2
      rw [(h.2 b hb).1, (h.2 b hb).2]
      simp only [mput, and_self, if_true]
      have q : ∀ z : Int32, 0 ≤ z.toInt → jmin (nI 0) z = nI 0 := by
        intro z hz
        unfold jmin
        rw [if_neg]
        rw [i32_lt]
        have : (nI 0).toInt = 0 := by decide
        omega
      rcases h2 with ⟨f, f1, f2, f3⟩ | ⟨f2, f3⟩ <;> rcases h3 with ⟨g, g1, g2, g3⟩ | ⟨g2, g3⟩ <;> rw [f2, f3, g2, g3] <;> simp only [nI_add] <;> refine ⟨q _ ?_, q _ ?_⟩ <;> rw [nI_toInt' (by omega)] <;> omega
    · rw [mput_s e, mput_s e]; exact h.2 a' ha'
end PmWays
