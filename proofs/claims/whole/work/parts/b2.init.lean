section PmInit
theorem cz {a : Nat} (h : ((cMW.take 173).reverse).all (fun q => q.1.1 != a) = true) (k : Nat) : cM 173 a k = 0 := by
  unfold cM
  rw [ct_none _ h]
  rfl
theorem nI_z : nI 0 = 0 := by decide +kernel
theorem czn {a : Nat} (h : ((cMW.take 173).reverse).all (fun q => q.1.1 != a) = true) (k : Nat) : cM 173 a k = nI 0 := (cz h k).trans nI_z.symm
theorem cze {a b : Nat} (h : ((cMW.take 173).reverse).all (fun q => q.1.1 != a) = true) (h2 : ((cMW.take 173).reverse).all (fun q => q.1.1 != b) = true) (k j : Nat) : cM 173 a k = cM 173 b j := (cz h k).trans (cz h2 j).symm
theorem czw : ∀ k, k < 153 → cM 173 224 k = mWords.getD k 0 := by decide +kernel
theorem fdp_0 : Fdp 0 0 := by unfold Fdp Fc; decide +kernel
theorem init_WR : WR (cM 173) 1 (cM 173 218) (cM 173 221) 0 := by
  refine ⟨0, 0, 99, ⟨by omega, czn (by decide +kernel) _, fun d hd => ⟨cze (by decide +kernel) (by decide +kernel) _ _, cze (by decide +kernel) (by decide +kernel) _ _, cze (by decide +kernel) (by decide +kernel) _ _, cze (by decide +kernel) (by decide +kernel) _ _, ?_⟩⟩, ⟨by omega, czn (by decide +kernel) _, czn (by decide +kernel) _, cze (by decide +kernel) (by decide +kernel) _ _, fun i hi => absurd hi (by omega)⟩, by omega, by omega, fun k hk => cze (by decide +kernel) (by decide +kernel) _ _, by decide +kernel, by decide +kernel, by decide +kernel, by decide +kernel, by decide +kernel, by decide +kernel, by decide +kernel, by decide +kernel, by decide +kernel, by decide +kernel, by decide +kernel⟩
  rw [cz (a := 218) (by decide +kernel), cz (a := 218) (by decide +kernel)]
  exact fdp_0
theorem init_RX : RX (cM 173) (cM 173) := by
  refine ⟨⟨cze (by decide +kernel) (by decide +kernel) _ _, 0, by omega, czn (by decide +kernel) _, fun i hi => absurd hi (by omega)⟩, ⟨by decide +kernel, 0, by omega, by decide +kernel, fun i hi => absurd hi (by omega)⟩, ⟨by decide +kernel, 0, by omega, by decide +kernel, fun i hi => absurd hi (by omega)⟩, by decide +kernel, fun k hk => ⟨cze (by decide +kernel) (by decide +kernel) _ _, 0, by omega, czn (by decide +kernel) _⟩⟩
theorem init_RE : RE (cM 173) (cM 173) := by
  refine ⟨⟨by decide +kernel, 0, by omega, by decide +kernel, fun i hi => absurd hi (by omega)⟩, ⟨by decide +kernel, ⟨0, by omega, by decide +kernel⟩, fun d hd => cze (by decide +kernel) (by decide +kernel) _ _⟩, fun k hk => ⟨cze (by decide +kernel) (by decide +kernel) _ _, 0, by omega, czn (by decide +kernel) _⟩, ⟨by decide +kernel, 0, by omega, by decide +kernel, fun i hi => absurd hi (by omega), fun l hl => czn (by decide +kernel) _⟩, ⟨by decide +kernel, ⟨0, by omega, by decide +kernel⟩, fun k hk => cze (by decide +kernel) (by decide +kernel) _ _⟩, ⟨by decide +kernel, 0, by omega, by decide +kernel, fun i hi => absurd hi (by omega)⟩⟩
theorem init_RR : RR (cM 173) (cM 173) := by
  refine ⟨⟨0, ⟨init_WR, by decide +kernel, fun k hk => cze (by decide +kernel) (by decide +kernel) _ _⟩, ⟨0, 0, by omega, by omega, by decide +kernel, by decide +kernel, by decide +kernel, fun j hj => absurd hj (by omega)⟩⟩, init_RX, init_RE, ⟨0, by omega, by decide +kernel, by decide +kernel, fun k hk => absurd hk (by omega)⟩, ⟨by decide +kernel, by decide +kernel⟩, ⟨by decide +kernel, Or.inl (by decide +kernel)⟩, ⟨by decide +kernel, by decide +kernel, by decide +kernel, czw⟩⟩
theorem init_CN : CN 0 (cM 173) := ⟨⟨0, by omega, czn (by decide +kernel) _⟩, fun j hj => ⟨0, by omega, czn (by decide +kernel) _⟩, ⟨0, by omega, czn (by decide +kernel) _⟩⟩
/-- references of one cell -/
def rfl1 (a : Nat) (l : List ((Nat × Nat) × Nat)) : List (Nat × Nat) := l.filterMap (fun q => if q.1.1 = a then some (q.1.2, q.2) else none)
theorem rfl1_ok {a k : Nat} : ∀ l : List ((Nat × Nat) × Nat), l.lookup (a, k) = (rfl1 a l).lookup k
  | [] => rfl
  | q :: l => by
    obtain ⟨⟨c, j⟩, v⟩ := q
    rw [List.lookup_cons]
    unfold rfl1
    rw [List.filterMap_cons]
    by_cases hc : c = a
    · subst hc
      simp only [if_true]
      rw [List.lookup_cons]
      by_cases hk : k = j
      · subst hk; simp
      · have h1 : ((c, k) == (c, j)) = false := by rw [beq_eq_false_iff_ne]; intro h; cases h; exact hk rfl
        have h2 : (k == j) = false := by rw [beq_eq_false_iff_ne]; exact hk
        rw [h1, h2]
        exact rfl1_ok l
    · have h1 : ((a, k) == (c, j)) = false := by rw [beq_eq_false_iff_ne]; intro h; cases h; exact hc rfl
      rw [h1, if_neg hc]
      exact rfl1_ok l
def lkU : List (Nat × Nat) → Bool
  | [] => true
  | q :: l => l.all (fun r => r.1 != q.1) && lkU l
theorem lk_none {k : Nat} : ∀ l : List (Nat × Nat), l.all (fun r => r.1 != k) = true → l.lookup k = none
  | [], _ => rfl
  | q :: l, h => by
    rw [List.all_cons, Bool.and_eq_true] at h
    obtain ⟨j, v⟩ := q
    rw [List.lookup_cons]
    have h1 : (k == j) = false := by
      rw [beq_eq_false_iff_ne]
      intro e
      have := h.1
      simp [e] at this
    rw [h1]
    exact lk_none l h.2
theorem lk_app {k : Nat} (m : List (Nat × Nat)) : ∀ l : List (Nat × Nat), (l ++ m).lookup k = (l.lookup k).or (m.lookup k)
  | [] => by simp
  | q :: l => by
    obtain ⟨j, v⟩ := q
    rw [List.cons_append, List.lookup_cons, List.lookup_cons, lk_app m l]
    cases (k == j) <;> rfl
theorem lk_rev {k : Nat} : ∀ l : List (Nat × Nat), lkU l = true → l.reverse.lookup k = l.lookup k
  | [], _ => rfl
  | q :: l, h => by
    unfold lkU at h
    rw [Bool.and_eq_true] at h
    obtain ⟨j, v⟩ := q
    rw [List.reverse_cons, lk_app, lk_rev l h.2, List.lookup_cons, List.lookup_cons]
    cases e : (k == j)
    · cases l.lookup k <;> rfl
    · have : k = j := by simpa using e
      subst this
      rw [lk_none l h.1]
      rfl
theorem init_L : ∀ a, a < 252 → rfl1 a ((cRW.take 250).reverse) = (rnRL.getD a []).reverse ∧ lkU (rnRL.getD a []) = true := by decide +kernel
theorem init_rf {a : Nat} (ha : a < 252) : rfm (cM 173) a = cR 250 a := by
  funext k
  have h := init_L a ha
  have e : cR 250 a k = rnRF a k := by
    unfold cR rnRF
    rw [rfl1_ok, h.1, lk_rev _ h.2]
  rw [e]
  unfold rfm
  by_cases h0 : a = 0 ∧ k = 8
  · obtain ⟨rfl, rfl⟩ := h0
    rw [if_pos ⟨rfl, rfl⟩, if_pos (by decide +kernel)]
    decide +kernel
  · rw [if_neg h0]
theorem init_nx : nxm (cM 173) = 252 := by unfold nxm; rw [if_pos (by decide +kernel)]
theorem init_E (X : Wx) (a : Nat) (ha : a < 252) : rnE X (S (cM 173)) a = rnE X (T 173 250 252) a := by
  have e := init_rf ha
  unfold rnE rnFv
  show _ = _
  dsimp only [S, T]
  rw [e]
end PmInit
