section PmSmall
/-! chain -/
def chn (k m : Int32) : Nat → Int32 × Int32
  | 0 => (1, 1)
  | i + 1 => ((chn k m i).1 + jmin ((chn k m i).2 * k) (m - (chn k m i).1), jmin ((chn k m i).2 * k) (m - (chn k m i).1))
theorem chainHad_eq (k m : Int32) {n : Nat} (hn : n ≤ 99) : fI_chainHad k m (nI n) = some (chn k m n).1 := by
  apply Go.eq
  unfold fI_chainHad
  refine Go.bind (P := fun e => e = (chn k m n).1) ?_ (fun e he => Go.some he)
  refine go_for (fun i s => s = ((chn k m i).1, (chn k m i).2, nI (i + 1))) n ?_ ?_ (i := 0) (by omega) rfl (by omega)
  · rintro s rfl
    exact Go.yes (show nI n < nI (n + 1) by rw [nI_lt' (by omega) (by omega)]; omega) (Go.some rfl)
  · rintro i s hi rfl
    refine Go.no (show ¬ nI n < nI (i + 1) by rw [nI_lt' (by omega) (by omega)]; omega) (Go.some ?_)
    show (_, _, nI (i + 1) + 1) = _
    rw [nI_1]; rfl
def ChP (k m r : Int32) : Prop := (∃ d, d ≤ 99 ∧ (chn k m d).1 = m ∧ (∀ j, j < d → (chn k m j).1 ≠ m) ∧ r = nI d) ∨ ((∀ j, j ≤ 99 → (chn k m j).1 ≠ m) ∧ r = -1)
theorem ChP_u {k m r r' : Int32} (h : ChP k m r) (h' : ChP k m r') : r = r' := by
  rcases h with ⟨d, d1, d2, d3, rfl⟩ | ⟨d1, rfl⟩ <;> rcases h' with ⟨e, e1, e2, e3, rfl⟩ | ⟨e1, rfl⟩
  · have : d = e := by
      rcases Nat.lt_trichotomy d e with q | q | q
      · exact absurd d2 (e3 d q)
      · exact q
      · exact absurd e2 (d3 e q)
    rw [this]
  · exact absurd d2 (e1 d d1)
  · exact absurd e2 (d1 e e1)
  · rfl
theorem sim_chain {A B : Mm} (k m n w : Int32) (h : RR A B) : Sim A B ((fK_chain k m n w).bind fun v => some (v, A)) (fM_chain k m n w B) := by
  unfold Sim fK_chain fM_chain
  simp only [isIn_eq]
  rcases within_cases k 1 9 with ⟨q1, -, -⟩ | ⟨q1, -⟩
  rotate_left
  · refine go_bind.mpr ?_
    refine Go.yes (q1) ?_
    refine Go.some ?_
    refine Go.some ?_
    refine Go.yes (q1) ?_
    refine Go.some ?_
    exact ⟨rfl, fin_0 h⟩
  rcases within_cases m 1 9999 with ⟨q2, -, -⟩ | ⟨q2, -⟩
  rotate_left
  · refine go_bind.mpr ?_
    refine Go.no (by rw [q1]; decide) ?_
    refine Go.yes (q2) ?_
    refine Go.some ?_
    refine Go.some ?_
    refine Go.no (by rw [q1]; decide) ?_
    refine Go.yes (q2) ?_
    refine Go.some ?_
    exact ⟨rfl, fin_0 h⟩
  refine go_bind.mpr ?_
  refine Go.no (by rw [q1]; decide) ?_
  refine Go.no (by rw [q2]; decide) ?_
  have base : ∀ (v : Int32) (Q : Mm → Prop), Go (fM_chain_j57 k m n w (mput B 217 0 0)) (fun q => v = q.1 ∧ Q q.2) → fK_isWithin w 0 1 = 1 → (w = 0 → fK_isWithin n 0 99 = 1) → Go (if fK_isWithin k 1 9 = 0 then some (-1, mput B 217 0 0) else if fK_isWithin m 1 9999 = 0 then some (-1, mput B 217 0 0) else if fK_isWithin w 0 1 = 0 then some (-1, mput B 217 0 0) else if w = 0 then if fK_isWithin n 0 99 = 0 then some (-1, mput B 217 0 0) else fM_chain_j57 k m n w (mput B 217 0 0) else fM_chain_j57 k m n w (mput B 217 0 0)) (fun q => v = q.1 ∧ Q q.2) := by
    intro v Q g w1 w2
    refine Go.no (by rw [q1]; decide) ?_
    refine Go.no (by rw [q2]; decide) ?_
    refine Go.no (by rw [w1]; decide) ?_
    by_cases w0 : w = 0
    · refine Go.yes (w0) ?_
      refine Go.no (by rw [w2 w0]; decide) ?_
      exact g
    · refine Go.no (w0) ?_
      exact g
  by_cases w0 : w = 0
  · subst w0
    refine Go.yes (by first | rfl | (simp; done)) ?_
    rcases within_nI1 n (a := 0) (b := 99) (by omega) (by omega) with ⟨q3, e, -, e9, rfl⟩ | ⟨q3, -⟩
    rotate_left
    · have q3 : fK_isWithin n 0 99 = 0 := q3
      refine Go.yes (q3) ?_
      refine Go.some ?_
      refine Go.some ?_
      refine Go.no (by rw [q1]; decide) ?_
      refine Go.no (by rw [q2]; decide) ?_
      refine Go.no (by first | decide | (simp; done)) ?_
      refine Go.yes (by first | rfl | (simp; done)) ?_
      refine Go.yes (q3) ?_
      refine Go.some ?_
      exact ⟨rfl, fin_0 h⟩
    have q3 : fK_isWithin (nI e) 0 99 = 1 := q3
    refine Go.no (by rw [q3]; decide) ?_
    refine go_bind.mpr ?_
    rw [chainHad_eq k m e9]
    refine Go.some ?_
    refine Go.some ?_
    refine Go.some ?_
    refine base _ (fun M => RR A M ∧ KF A A ∧ MF B M ∧ CNs B M) ?_ rfl (fun _ => q3)
    unfold fM_chain_j57
    refine Go.bind (P := fun y => y = .inr (.inl (chn k m e).1)) ?_ ?_
    · refine go_for (fun i s => s = ((chn k m i).1, (chn k m i).2, nI i)) e ?_ ?_ (i := 0) (by omega) rfl (by omega)
      · rintro s rfl
        unfold fM_chain_b79 fM_chain_j101
        refine Go.no (show ¬ nI e < nI e by rw [nI_lt' (by omega) (by omega)]; omega) ?_
        refine Go.no (by first | decide | (simp; done)) ?_
        refine Go.yes (by first | rfl | (simp; done)) ?_
        refine Go.some ?_
        rfl
      · rintro i s hi rfl
        unfold fM_chain_b79 fM_chain_j101
        refine Go.no (show ¬ nI e < nI i by rw [nI_lt' (by omega) (by omega)]; omega) ?_
        refine Go.no (by first | decide | (simp; done)) ?_
        refine Go.no (show ¬ nI i = nI e by rw [nI_eq' (by omega) (by omega)]; omega) ?_
        refine Go.some ?_
        show (_, _, nI i + 1) = _
        rw [nI_1, ← jmin_eq, Int32.mul_comm k]; rfl
    · rintro y rfl
      refine Go.yes (by first | rfl | (simp; done)) ?_
      refine Go.some ?_
      exact ⟨rfl, fin_0 h⟩
  by_cases w1 : w = 1
  · subst w1
    refine Go.no (by first | decide | (simp; done)) ?_
    refine Go.yes (by first | rfl | (simp; done)) ?_
    refine go_bind.mpr ?_
    have cl : Go (fI_chainFull k m) (fun v => ChP k m v) := by
      unfold fI_chainFull
      refine Go.bind (P := fun y => (∃ d, d ≤ 99 ∧ (chn k m d).1 = m ∧ (∀ j, j < d → (chn k m j).1 ≠ m) ∧ y = .inl (nI d)) ∨ ((∀ j, j ≤ 99 → (chn k m j).1 ≠ m) ∧ y = .inr ())) ?_ ?_
      · refine go_for (fun i s => s = nI i ∧ ∀ j, j < i → (chn k m j).1 ≠ m) 100 ?_ ?_ (i := 0) (by omega) ⟨rfl, fun j hj => by omega⟩ (by omega)
        · rintro s ⟨rfl, hs⟩
          refine Go.yes (show (99 : Int32) < nI 100 by decide) (Go.some (Or.inr ⟨fun j hj => hs j (by omega), rfl⟩))
        · rintro i s hi ⟨rfl, hs⟩
          unfold fI_chainFull_b2
          refine Go.no (by rw [lit_nI, nI_lt' (by omega) (by omega)]; omega) ?_
          refine go_bind.mpr ?_
          rw [chainHad_eq k m (by omega)]
          by_cases e : (chn k m i).1 = m
          · refine Go.some ?_
            refine Go.yes (e) ?_
            refine Go.some ?_
            exact Or.inl ⟨i, by omega, e, hs, rfl⟩
          · refine Go.some ?_
            refine Go.no (e) ?_
            refine Go.some ?_
            refine ⟨nI_1 i, fun j hj => ?_⟩
            by_cases ji : j = i
            · subst ji; exact e
            · exact hs j (by omega)
      · rintro y (⟨d, d1, d2, d3, rfl⟩ | ⟨d1, rfl⟩)
        · exact Go.some (Or.inl ⟨d, d1, d2, d3, rfl⟩)
        · exact Go.some (Or.inr ⟨d1, rfl⟩)
    obtain ⟨v, e1, hv⟩ := cl
    rw [e1]
    refine Go.some ?_
    refine Go.some ?_
    refine Go.some ?_
    refine base _ (fun M => RR A M ∧ KF A A ∧ MF B M ∧ CNs B M) ?_ rfl (fun z => absurd z (by decide))
    unfold fM_chain_j57
    refine Go.bind (P := fun y => (∃ d, d ≤ 99 ∧ (chn k m d).1 = m ∧ (∀ j, j < d → (chn k m j).1 ≠ m) ∧ y = .inl (nI d)) ∨ ((∀ j, j ≤ 99 → (chn k m j).1 ≠ m) ∧ ∃ u, y = .inr (.inl u))) ?_ ?_
    · refine go_for (fun i s => s = ((chn k m i).1, (chn k m i).2, nI i) ∧ ∀ j, j < i → (chn k m j).1 ≠ m) 99 ?_ ?_ (i := 0) (by omega) ⟨rfl, fun j hj => by omega⟩ (by omega)
      · rintro s ⟨rfl, hs⟩
        unfold fM_chain_b79 fM_chain_j101
        refine Go.no (show ¬ (99 : Int32) < nI 99 by decide) ?_
        refine Go.yes (by first | rfl | (simp; done)) ?_
        by_cases e : (chn k m 99).1 = m
        · refine Go.yes (e) ?_
          refine Go.some ?_
          exact Or.inl ⟨99, by omega, e, hs, rfl⟩
        · refine Go.no (e) ?_
          refine Go.yes (show nI 99 = (99 : Int32) from rfl) ?_
          refine Go.some ?_
          refine Or.inr ⟨fun j hj => ?_, _, rfl⟩
          by_cases ji : j = 99
          · subst ji; exact e
          · exact hs j (by omega)
      · rintro i s hi ⟨rfl, hs⟩
        unfold fM_chain_b79 fM_chain_j101
        refine Go.no (show ¬ (99 : Int32) < nI i by rw [lit_nI, nI_lt' (by omega) (by omega)]; omega) ?_
        refine Go.yes (by first | rfl | (simp; done)) ?_
        by_cases e : (chn k m i).1 = m
        · refine Go.yes (e) ?_
          refine Go.some ?_
          exact Or.inl ⟨i, by omega, e, hs, rfl⟩
        · refine Go.no (e) ?_
          refine Go.no (show ¬ nI i = (99 : Int32) by rw [lit_nI, nI_eq' (by omega) (by omega)]; omega) ?_
          refine Go.some ?_
          refine ⟨?_, fun j hj => ?_⟩
          · show (_, _, nI i + 1) = _
            rw [nI_1, ← jmin_eq, Int32.mul_comm k]; rfl
          · by_cases ji : j = i
            · subst ji; exact e
            · exact hs j (by omega)
    · rintro y (⟨d, d1, d2, d3, rfl⟩ | ⟨d1, u, rfl⟩)
      · refine Go.some ?_
        exact ⟨ChP_u hv (Or.inl ⟨d, d1, d2, d3, rfl⟩), fin_0 h⟩
      · refine Go.no (by first | decide | (simp; done)) ?_
        refine Go.some ?_
        exact ⟨ChP_u hv (Or.inr ⟨d1, rfl⟩), fin_0 h⟩
  · refine Go.no (w0) ?_
    refine Go.no (w1) ?_
    refine Go.some ?_
    refine Go.some ?_
    refine Go.no (by rw [q1]; decide) ?_
    refine Go.no (by rw [q2]; decide) ?_
    rcases within_nI1 w (a := 0) (b := 1) (by omega) (by omega) with ⟨-, t, -, t7, e⟩ | ⟨q, -⟩
    · exfalso
      have : t = 0 ∨ t = 1 := by omega
      rcases this with rfl | rfl
      · exact w0 e
      · exact w1 e
    · refine Go.yes (q) ?_
      refine Go.some ?_
      exact ⟨rfl, fin_0 h⟩
end PmSmall
