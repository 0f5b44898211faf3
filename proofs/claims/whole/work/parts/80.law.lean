section PmLaw
def Tv (t : Nat) (v : Int32) : Prop := (t = 1 → v = 0 ∨ v = 1) ∧ (t = 2 → v ≠ 0)
def Stk (A B : Mm) : List Nat → Prop
  | [] => True
  | t :: τ => A 131 τ.length = B 237 τ.length ∧ Tv t (A 131 τ.length) ∧ Stk A B τ
def m131 (c _ : Nat) : Bool := !Nat.beq c 131
def m237 (c _ : Nat) : Bool := !Nat.beq c 237
theorem Stk_put {A B : Mm} {a b : Int32} {l : Nat} : ∀ {σ : List Nat}, σ.length ≤ l → Stk A B σ → Stk (mput A 131 l a) (mput B 237 l b) σ
  | [], _, _ => trivial
  | t :: τ, h, q => by
    obtain ⟨q1, q2, q3⟩ := q
    have hl : τ.length ≠ l := by simp at h; omega
    refine ⟨?_, ?_, Stk_put (by simp at h; omega) q3⟩
    · rw [mput_s hl, mput_s hl]; exact q1
    · rw [mput_s hl]; exact q2
theorem wk_top (l : Nat) : nI (l + 1) - 1 = nI l := nI_pred l
theorem wk_num {A : Mm} {h k l : Nat} (hk : k < h) (hh : h ≤ 400) (hl : l + 1 ≤ 32) {v : Nat} (hv : v < 10000) (hs : A 129 k = nI v) : fL_worked_b5 (nI h) (nI l - 1) (nI k) A = some (.inl (nI (l + 1) - 1, nI (k + 1), mput A 131 l (nI v))) := by
  apply Go.eq
  unfold fL_worked_b5
  have jk : jix (nI k) = k := jix_nI (by omega)
  have t1 : nI l - 1 + 1 = nI l := by simp
  refine Go.no (by rw [nI_le' (by omega) (by omega)]; omega) ?_
  refine Go.gd (by rw [inb_nI (by omega)]; omega) ?_
  rw [jk, hs, t1]
  refine go_bind.mpr ?_
  refine Go.no (by rw [lit_nI, nI_le' (by omega) (by omega)]; omega) ?_
  refine Go.no (by rw [lit_nI, nI_le' (by omega) (by omega)]; omega) ?_
  refine go_bind.mpr ?_
  refine Go.no (by rw [lit_nI, nI_le' (by omega) (by omega)]; omega) ?_
  refine Go.some ?_
  refine Go.gd (by rw [inb_nI (by omega)]; omega) ?_
  refine Go.some ?_
  refine Go.some ?_
  rw [jix_nI (by omega), nI_1, wk_top]
theorem wk_ask {A : Mm} {h k l : Nat} (hk : k < h) (hh : h ≤ 400) (hl : l + 1 ≤ 32) {v : Nat} (hv : v < 11) (hs : A 129 k = nI (10000 + v)) : fL_worked_b5 (nI h) (nI l - 1) (nI k) A = some (.inl (nI (l + 1) - 1, nI (k + 1), mput A 131 l (A 130 v))) := by
  apply Go.eq
  unfold fL_worked_b5
  have jk : jix (nI k) = k := jix_nI (by omega)
  have t1 : nI l - 1 + 1 = nI l := by simp
  have t2 : nI (10000 + v) - 10000 = nI v := by rw [lit_nI, nI_sub' (by omega)]; exact congrArg nI (by omega)
  refine Go.no (by rw [nI_le' (by omega) (by omega)]; omega) ?_
  refine Go.gd (by rw [inb_nI (by omega)]; omega) ?_
  rw [jk, hs, t1]
  dsimp only
  rw [t2]
  refine go_bind.mpr ?_
  refine Go.no (by rw [lit_nI, nI_le' (by omega) (by omega)]; omega) ?_
  refine Go.no (by rw [lit_nI, nI_le' (by omega) (by omega)]; omega) ?_
  refine go_bind.mpr ?_
  refine Go.yes (by rw [lit_nI, nI_le' (by omega) (by omega)]; omega) ?_
  refine Go.gd (by rw [inb_nI (by omega)]; omega) ?_
  refine Go.some ?_
  refine Go.gd (by rw [inb_nI (by omega)]; omega) ?_
  refine Go.some ?_
  refine Go.some ?_
  rw [jix_nI (by omega), jix_nI (by omega), nI_1, wk_top]
theorem wk_not {A : Mm} {h k l : Nat} (hk : k < h) (hh : h ≤ 400) (hl : l + 1 ≤ 32) (hs : A 129 k = 20003) : fL_worked_b5 (nI h) (nI (l + 1) - 1) (nI k) A = some (.inl (nI (l + 1) - 1, nI (k + 1), mput A 131 l (1 - A 131 l))) := by
  apply Go.eq
  unfold fL_worked_b5
  have jk : jix (nI k) = k := jix_nI (by omega)
  have il : inb (nI l) 32 := (inb_nI (by omega)).mpr (by omega)
  refine Go.no (by rw [nI_le' (by omega) (by omega)]; omega) ?_
  refine Go.gd (by rw [inb_nI (by omega)]; omega) ?_
  rw [jk, hs, wk_top]
  refine go_bind.mpr ?_
  refine Go.yes (by decide) ?_
  refine Go.yes (rfl) ?_
  refine Go.no (nI_nneg (by omega)) ?_
  refine Go.gd (il) ?_
  refine Go.gd (il) ?_
  refine Go.some ?_
  refine Go.some ?_
  rw [jix_nI (by omega), nI_1]
theorem wk_bin {A : Mm} {h k l : Nat} (hk : k < h) (hh : h ≤ 400) (hl : l + 2 ≤ 32) {s v : Int32} (hs : A 129 k = s) (h1 : 20000 ≤ s) (h2 : s ≠ 20003) (hv : fL_joined s (A 131 l) (A 131 (l + 1)) = some v) : fL_worked_b5 (nI h) (nI (l + 2) - 1) (nI k) A = some (.inl (nI (l + 1) - 1, nI (k + 1), mput A 131 l v)) := by
  apply Go.eq
  unfold fL_worked_b5 fL_worked_j101
  have jk : jix (nI k) = k := jix_nI (by omega)
  have t1 : nI (l + 1) + (-1) = nI l := nI_dec (by omega)
  have t2 : nI l + 1 = nI (l + 1) := nI_1 l
  have il : inb (nI l) 32 := (inb_nI (by omega)).mpr (by omega)
  have il2 : inb (nI (l + 1)) 32 := (inb_nI (by omega)).mpr (by omega)
  have h3 : ¬ s < 20000 := by rw [i32_lt]; rw [i32_le] at h1; omega
  refine Go.no (by rw [nI_le' (by omega) (by omega)]; omega) ?_
  refine Go.gd (by rw [inb_nI (by omega)]; omega) ?_
  rw [jk, hs, show nI (l + 2) - 1 = nI (l + 1) from wk_top (l + 1), t1, t2]
  refine go_bind.mpr ?_
  refine Go.yes (h1) ?_
  refine Go.no (h2) ?_
  refine Go.no (h3) ?_
  refine Go.no (by rw [lit_nI, nI_lt' (by omega) (by omega)]; omega) ?_
  refine Go.gd (il) ?_
  refine Go.gd (il2) ?_
  refine go_bind.mpr ?_
  rw [jix_nI (by omega), jix_nI (by omega), hv]
  refine Go.some ?_
  refine Go.gd (il) ?_
  refine Go.some ?_
  refine Go.some ?_
  rw [nI_1, wk_top]
theorem rk_num {B : Mm} {h k l : Nat} (hk : k < h) (hh : h ≤ 400) (hl : l < 420) (ho : B 230 k = 0) : fM_runs_b12 0 (nI h) (nI l) (nI k) B = some (.inl (nI (l + 1), nI (k + 1), mput B 237 l (B 231 k))) := by
  apply Go.eq
  unfold fM_runs_b12
  have jk : jix (nI k) = k := jix_nI (by omega)
  have t0 : (400 * 0 : Int32) + nI h = nI h := by simp
  have ik : inb (nI k) 1200 := (inb_nI (by omega)).mpr (by omega)
  rw [t0]
  refine Go.no (by rw [nI_le' (by omega) (by omega)]; omega) ?_
  refine Go.gd (ik) ?_
  rw [jk]
  refine go_bind.mpr ?_
  refine Go.yes (ho) ?_
  refine Go.gd (ik) ?_
  refine go_bind.mpr ?_
  refine Go.yes (ho) ?_
  refine Go.gd (ik) ?_
  refine Go.some ?_
  refine Go.gd (by rw [inb_nI (by omega)]; omega) ?_
  refine Go.some ?_
  refine Go.some ?_
  rw [jix_nI (by omega), nI_1, nI_1]
theorem rk_ask {B : Mm} {h k l : Nat} (hk : k < h) (hh : h ≤ 400) (hl : l < 420) (ho : B 230 k = 1) {v : Nat} (hv : v < 11) (ha : B 231 k = nI v) : fM_runs_b12 0 (nI h) (nI l) (nI k) B = some (.inl (nI (l + 1), nI (k + 1), mput B 237 l (B 236 v))) := by
  apply Go.eq
  unfold fM_runs_b12
  have jk : jix (nI k) = k := jix_nI (by omega)
  have t0 : (400 * 0 : Int32) + nI h = nI h := by simp
  have ik : inb (nI k) 1200 := (inb_nI (by omega)).mpr (by omega)
  have ho0 : ¬ B 230 k = 0 := by rw [ho]; decide
  rw [t0]
  refine Go.no (by rw [nI_le' (by omega) (by omega)]; omega) ?_
  refine Go.gd (ik) ?_
  rw [jk]
  refine go_bind.mpr ?_
  refine Go.no (ho0) ?_
  refine Go.gd (ik) ?_
  refine Go.yes (ho) ?_
  refine Go.gd (ik) ?_
  refine go_bind.mpr ?_
  refine Go.no (ho0) ?_
  refine Go.gd (ik) ?_
  refine Go.gd (by rw [ha, inb_nI (by omega)]; exact hv) ?_
  refine Go.some ?_
  refine Go.gd (by rw [inb_nI (by omega)]; omega) ?_
  refine Go.some ?_
  refine Go.some ?_
  rw [ha, jix_nI (by omega), jix_nI (by omega), nI_1, nI_1]
theorem rk_not {B : Mm} {h k l : Nat} (hk : k < h) (hh : h ≤ 400) (hl : l < 400) (ho : B 230 k = 9) : fM_runs_b12 0 (nI h) (nI (l + 1)) (nI k) B = some (.inl (nI (l + 1), nI (k + 1), mput B 237 l (1 - B 237 l))) := by
  apply Go.eq
  unfold fM_runs_b12
  have jk : jix (nI k) = k := jix_nI (by omega)
  have t0 : (400 * 0 : Int32) + nI h = nI h := by simp
  have ik : inb (nI k) 1200 := (inb_nI (by omega)).mpr (by omega)
  have ho0 : ¬ B 230 k = 0 := by rw [ho]; decide
  have ho1 : ¬ B 230 k = 1 := by rw [ho]; decide
  have il : inb (nI l) 420 := (inb_nI (by omega)).mpr (by omega)
  rw [t0]
  refine Go.no (by rw [nI_le' (by omega) (by omega)]; omega) ?_
  refine Go.gd (ik) ?_
  rw [jk, wk_top]
  refine go_bind.mpr ?_
  refine Go.no (ho0) ?_
  refine Go.gd (ik) ?_
  refine Go.no (ho1) ?_
  refine Go.gd (ik) ?_
  refine Go.yes (ho) ?_
  refine Go.gd (il) ?_
  refine Go.gd (il) ?_
  refine Go.some ?_
  refine Go.some ?_
  rw [jix_nI (by omega), nI_1]
theorem rk_bin {B : Mm} {h k l : Nat} (hk : k < h) (hh : h ≤ 400) (hl : l < 400) {o v : Int32} (ho : B 230 k = o) (h0 : o ≠ 0) (h1 : o ≠ 1) (h9 : o ≠ 9) (hv : fM_twoOf o (B 237 l) (B 237 (l + 1)) = some v) : fM_runs_b12 0 (nI h) (nI (l + 2)) (nI k) B = some (.inl (nI (l + 1), nI (k + 1), mput B 237 l v)) := by
  apply Go.eq
  unfold fM_runs_b12
  have jk : jix (nI k) = k := jix_nI (by omega)
  have t0 : (400 * 0 : Int32) + nI h = nI h := by simp
  have ik : inb (nI k) 1200 := (inb_nI (by omega)).mpr (by omega)
  have il : inb (nI l) 420 := (inb_nI (by omega)).mpr (by omega)
  have il2 : inb (nI (l + 1)) 420 := (inb_nI (by omega)).mpr (by omega)
  rw [t0]
  refine Go.no (by rw [nI_le' (by omega) (by omega)]; omega) ?_
  refine Go.gd (ik) ?_
  rw [jk, show nI (l + 2) - 1 = nI (l + 1) from wk_top (l + 1)]
  dsimp only
  rw [wk_top, ho]
  refine go_bind.mpr ?_
  refine Go.no (h0) ?_
  refine Go.gd (ik) ?_
  refine Go.no (h1) ?_
  refine Go.gd (ik) ?_
  refine Go.no (h9) ?_
  refine Go.gd (ik) ?_
  refine Go.gd (il) ?_
  refine Go.gd (il2) ?_
  refine go_bind.mpr ?_
  rw [jix_nI (by omega), jix_nI (by omega), hv]
  refine Go.some ?_
  refine Go.gd (il) ?_
  refine Go.some ?_
  refine Go.some ?_
  rw [nI_1]
/-- one step of both -/
theorem step_sim {A B : Mm} {h k : Nat} {σ υ : List Nat} (hk : k < h) (hh : h ≤ 400) (hl : σ.length ≤ 32) (hE : Enc (A 129 k) (B 230 k) (B 231 k)) (hK : ∀ j, j < 11 → A 130 j = B 236 j) (ht : tst (B 230 k) (B 231 k) σ = some υ) (hu : υ.length ≤ 32) (hS : Stk A B σ) :
    ∃ j v v', fL_worked_b5 (nI h) (nI σ.length - 1) (nI k) A = some (.inl (nI υ.length - 1, nI (k + 1), mput A 131 j v)) ∧ fM_runs_b12 0 (nI h) (nI σ.length) (nI k) B = some (.inl (nI υ.length, nI (k + 1), mput B 237 j v')) ∧ Stk (mput A 131 j v) (mput B 237 j v') υ := by
  have bin : ∀ (y x : Nat) (τ : List Nat) (t : Nat) (s o v : Int32), σ = y :: x :: τ → υ = t :: τ → A 129 k = s → B 230 k = o → 20000 ≤ s → s ≠ 20003 → o ≠ 0 → o ≠ 1 → o ≠ 9 → fL_joined s (A 131 τ.length) (A 131 (τ.length + 1)) = some v → fM_twoOf o (A 131 τ.length) (A 131 (τ.length + 1)) = some v → Tv t v →
      ∃ j v v', fL_worked_b5 (nI h) (nI σ.length - 1) (nI k) A = some (.inl (nI υ.length - 1, nI (k + 1), mput A 131 j v)) ∧ fM_runs_b12 0 (nI h) (nI σ.length) (nI k) B = some (.inl (nI υ.length, nI (k + 1), mput B 237 j v')) ∧ Stk (mput A 131 j v) (mput B 237 j v') υ := by
    intro y x τ t s o v e1 e2 e3 e4 a1 a2 a3 a4 a5 a6 a7 a8
    subst e1 e2
    simp only [List.length_cons] at hl hu ⊢
    obtain ⟨q1, -, q3, -, q5⟩ := hS
    simp only [List.length_cons] at q1
    refine ⟨τ.length, v, v, wk_bin hk hh hl e3 a1 a2 a6, rk_bin hk hh (by omega) e4 a3 a4 a5 (by rw [← q1, ← q3]; exact a7), ?_⟩
    exact ⟨by rw [mput_same, mput_same], by rw [mput_same]; exact a8, Stk_put (Nat.le_refl _) q5⟩
  have T0 : ∀ v, Tv 0 v := fun v => ⟨fun e => by omega, fun e => by omega⟩
  rcases hE with ⟨v, v1, o, a, s⟩ | ⟨v, v1, o, a, s⟩ | ⟨o, s⟩ | ⟨o, s⟩ | ⟨o, s⟩ | ⟨o, s⟩ | ⟨o, s⟩ | ⟨o, s⟩ | ⟨o, s⟩ | ⟨o, s⟩ | ⟨o, s⟩ | ⟨o, s⟩
  · rw [o, a] at ht
    unfold tst at ht
    rw [if_pos rfl] at ht
    have hle : υ.length = σ.length + 1 ∧ υ = (if nI v = 0 then 0 else 2) :: σ := by
      split at ht <;> (injection ht with e; subst e; simp_all)
    rw [hle.1] at hu
    refine ⟨σ.length, nI v, nI v, by rw [hle.1]; exact wk_num hk hh hu v1 s, by rw [hle.1, ← a]; exact rk_num hk hh (by omega) o, ?_⟩
    rw [hle.2]
    refine ⟨by rw [mput_same, mput_same], ?_, Stk_put (Nat.le_refl _) hS⟩
    rw [mput_same]
    by_cases hv : nI v = 0
    · rw [if_pos hv]; exact T0 _
    · rw [if_neg hv]; exact ⟨fun e => by omega, fun _ => hv⟩
  · rw [o, a] at ht
    unfold tst at ht
    rw [if_neg (by decide), if_pos rfl] at ht
    injection ht with e
    subst e
    simp only [List.length_cons] at hu ⊢
    refine ⟨σ.length, A 130 v, B 236 v, wk_ask hk hh hu v1 s, rk_ask hk hh (by omega) o v1 a, ?_⟩
    exact ⟨by rw [mput_same, mput_same]; exact hK v v1, T0 _, Stk_put (Nat.le_refl _) hS⟩
  all_goals (rw [o] at ht; unfold tst at ht; rw [if_neg (by decide), if_neg (by decide)] at ht; cases σ with | nil => cases ht | cons y τ => ?_)
  all_goals dsimp only at ht
  all_goals try (rw [if_neg (by decide)] at ht; cases τ with | nil => cases ht | cons x τ2 => ?_)
  all_goals try dsimp only at ht
  · rw [if_pos (by decide)] at ht
    obtain ⟨c, ht⟩ := gd ht
    injection ht with e
    exact bin y x τ2 0 _ _ _ rfl e.symm s o (by decide) (by decide) (by decide) (by decide) (by decide) rfl rfl (T0 _)
  · rw [if_pos (by decide)] at ht
    obtain ⟨c, ht⟩ := gd ht
    injection ht with e
    exact bin y x τ2 0 _ _ _ rfl e.symm s o (by decide) (by decide) (by decide) (by decide) (by decide) rfl rfl (T0 _)
  · rw [if_pos (by decide)] at ht
    obtain ⟨c, ht⟩ := gd ht
    injection ht with e
    exact bin y x τ2 0 _ _ _ rfl e.symm s o (by decide) (by decide) (by decide) (by decide) (by decide) rfl rfl (T0 _)
  · rw [if_neg (by decide), if_pos (by decide)] at ht
    obtain ⟨⟨c1, c2⟩, ht⟩ := gd ht
    injection ht with e
    have nz : A 131 (τ2.length + 1) ≠ 0 := hS.2.1.2 c2
    refine bin y x τ2 0 20007 5 (A 131 τ2.length / A 131 (τ2.length + 1)) rfl e.symm s o (by decide) (by decide) (by decide) (by decide) (by decide) ?_ ?_ (T0 _)
    · show (if A 131 (τ2.length + 1) = 0 then some 0 else if ¬ A 131 (τ2.length + 1) = 0 then some (A 131 τ2.length / A 131 (τ2.length + 1)) else none) = _
      rw [if_neg nz, if_pos nz]
    · show (if ¬ A 131 (τ2.length + 1) = 0 then some (A 131 τ2.length / A 131 (τ2.length + 1)) else none) = _
      rw [if_pos nz]
  · rw [if_neg (by decide), if_neg (by decide), if_pos (by decide)] at ht
    obtain ⟨c, ht⟩ := gd ht
    injection ht with e
    by_cases q : A 131 (τ2.length + 1) ≤ A 131 τ2.length
    · exact bin y x τ2 1 20008 6 0 rfl e.symm s o (by decide) (by decide) (by decide) (by decide) (by decide) (if_pos q) (if_pos q) ⟨fun _ => Or.inl rfl, fun e => by omega⟩
    · exact bin y x τ2 1 20008 6 1 rfl e.symm s o (by decide) (by decide) (by decide) (by decide) (by decide) (if_neg q) (if_neg q) ⟨fun _ => Or.inr rfl, fun e => by omega⟩
  · rw [if_neg (by decide), if_neg (by decide), if_pos (by decide)] at ht
    obtain ⟨c, ht⟩ := gd ht
    injection ht with e
    by_cases q : A 131 τ2.length = A 131 (τ2.length + 1)
    · exact bin y x τ2 1 20009 7 1 rfl e.symm s o (by decide) (by decide) (by decide) (by decide) (by decide) (if_pos q) (if_pos q) ⟨fun _ => Or.inr rfl, fun e => by omega⟩
    · exact bin y x τ2 1 20009 7 0 rfl e.symm s o (by decide) (by decide) (by decide) (by decide) (by decide) (if_neg q) (if_neg q) ⟨fun _ => Or.inl rfl, fun e => by omega⟩
  · rw [if_neg (by decide), if_neg (by decide), if_pos (by decide)] at ht
    obtain ⟨c, ht⟩ := gd ht
    injection ht with e
    by_cases q : A 131 τ2.length ≤ A 131 (τ2.length + 1)
    · exact bin y x τ2 1 20010 8 0 rfl e.symm s o (by decide) (by decide) (by decide) (by decide) (by decide) (if_pos q) (if_pos q) ⟨fun _ => Or.inl rfl, fun e => by omega⟩
    · exact bin y x τ2 1 20010 8 1 rfl e.symm s o (by decide) (by decide) (by decide) (by decide) (by decide) (if_neg q) (if_neg q) ⟨fun _ => Or.inr rfl, fun e => by omega⟩
  · rw [if_pos rfl] at ht
    obtain ⟨c, ht⟩ := gd ht
    injection ht with e
    subst e
    simp only [List.length_cons] at hl hu ⊢
    obtain ⟨q1, q2, q3⟩ := hS
    refine ⟨τ.length, 1 - A 131 τ.length, 1 - B 237 τ.length, wk_not hk hh hl s, rk_not hk hh (by omega) o, by rw [mput_same, mput_same, q1], ?_, Stk_put (Nat.le_refl _) q3⟩
    rw [mput_same]
    refine ⟨fun _ => ?_, fun e => by omega⟩
    rcases q2.1 c with z | z
    · right; rw [z]; rfl
    · left; rw [z]; rfl
  · rw [if_neg (by decide), if_neg (by decide), if_neg (by decide), if_pos (by decide)] at ht
    obtain ⟨⟨c1, c2⟩, ht⟩ := gd ht
    injection ht with e
    have z1 := hS.2.2.2.1.1 c1
    have z2 := hS.2.1.1 c2
    simp only [List.length_cons] at z2
    refine bin y x τ2 1 20002 10 (A 131 τ2.length &&& A 131 (τ2.length + 1)) rfl e.symm s o (by decide) (by decide) (by decide) (by decide) (by decide) rfl ?_ ⟨fun _ => ?_, fun e => by omega⟩
    · show some _ = some _
      rcases z1 with z | z <;> rcases z2 with w | w <;> rw [z, w] <;> rfl
    · rcases z1 with z | z <;> rcases z2 with w | w <;> rw [z, w] <;> first | (left; rfl) | (right; rfl)
  · rw [if_neg (by decide), if_neg (by decide), if_neg (by decide), if_pos (by decide)] at ht
    obtain ⟨⟨c1, c2⟩, ht⟩ := gd ht
    injection ht with e
    have z1 := hS.2.2.2.1.1 c1
    have z2 := hS.2.1.1 c2
    simp only [List.length_cons] at z2
    refine bin y x τ2 1 20001 11 (A 131 τ2.length ||| A 131 (τ2.length + 1)) rfl e.symm s o (by decide) (by decide) (by decide) (by decide) (by decide) rfl ?_ ⟨fun _ => ?_, fun e => by omega⟩
    · show (if A 131 τ2.length + A 131 (τ2.length + 1) ≤ 0 then some 0 else some 1) = some _
      rcases z1 with z | z <;> rcases z2 with w | w <;> rw [z, w] <;> rfl
    · rcases z1 with z | z <;> rcases z2 with w | w <;> rw [z, w] <;> first | (left; rfl) | (right; rfl)
end PmLaw
