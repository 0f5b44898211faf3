section PmBears3
theorem sim_bears {A B : Mm} (x y : Int32) (h : RR A B) : Sim A B (fK_bears x y A) (fM_bears x y B) := by
  have h0 := h
  obtain ⟨-, -, ⟨⟨hA, n, hn, h45, hbl⟩, -⟩, -⟩ := h0
  rw [h45] at hA
  have hA : A 138 0 = nI n := hA
  have hbA : ∀ k, k < n → (A 139 k).toInt = (B 241 k).toInt ∧ -50 ≤ (B 241 k).toInt ∧ (B 241 k).toInt ≤ 50 := fun k hk => by
    obtain ⟨e, e2⟩ := hbl k hk
    have e : A 139 k = B 241 k := e
    exact ⟨by rw [e], e2⟩
  have h256 := p2le hn
  have pn := p2pos n
  have e169 : ∀ k, aR 169 k = false := fun k => rfl
  have e242 : ∀ k, bR 242 k = false := fun k => rfl
  have fin : ∀ {A' B' : Mm}, (∀ c, c ≠ 169 → A' c = A c) → (∀ c, c ≠ 242 → B' c = mput B 217 0 0 c) → RR A' B' ∧ KF A A' ∧ MF B B' ∧ CNs B B' := fun {A' B'} a b => by
    refine fin_r h (fun c k e => ?_) (fun c k e => ?_)
    · rw [a c (fun q => by subst q; rw [e169] at e; cases e)]
    · rw [b c (fun q => by subst q; rw [e242] at e; cases e)]
      exact fb_put (fb_rfl bR B) rfl c k e
  unfold Sim fK_bears fM_bears
  simp only [isIn_eq]
  rcases within_nI1 x (a := 1) (b := 99) (by omega) (by omega) with ⟨q, X, hX1, hX, rfl⟩ | ⟨q, -⟩
  rotate_left
  · have q : fK_isWithin x 1 99 = 0 := q
    refine Go.yes (q) ?_
    refine Go.some ?_
    refine Go.yes (q) ?_
    refine Go.some ?_
    exact ⟨rfl, fin_0 h⟩
  have q : fK_isWithin (nI X) 1 99 = 1 := q
  rcases within_nI1 y (a := 0) (b := 1) (by omega) (by omega) with ⟨q', z, -, hz, rfl⟩ | ⟨q', -⟩
  rotate_left
  · have q' : fK_isWithin y 0 1 = 0 := q'
    refine Go.no (by rw [q]; decide) ?_
    refine Go.yes (q') ?_
    refine Go.some ?_
    refine Go.no (by rw [q]; decide) ?_
    refine Go.yes (q') ?_
    refine Go.some ?_
    exact ⟨rfl, fin_0 h⟩
  have q' : fK_isWithin (nI z) 0 1 = 1 := q'
  have hz2 : z = 0 ∨ z = 1 := by omega
  rcases hz2 with rfl | rfl
  rotate_left
  · refine Go.no (by rw [q]; decide) ?_
    refine Go.no (by rw [q']; decide) ?_
    refine Go.no (by first | decide | (simp; done)) ?_
    refine go_bind.mpr ?_
    unfold fI_healthLeft
    obtain ⟨_, re, f, A', rfl, f1, f2, f3⟩ := beaK (A := A) (b := fun k => (B 241 k).toInt) (s0 := 0) (h0 := X) hn hA hbA (by omega) hX
    obtain ⟨_, re', g, B', rfl, g1, g2, g3⟩ := beaM (B := mput B 217 0 0) (b := fun k => (B 241 k).toInt) (s0 := 0) (h0 := X) (h := X) (-1) hn hX hX1 (Or.inl ⟨rfl, rfl, rfl⟩) (by rw [mput_s (by omega)]; exact h45) (fun k hk => by rw [mput_r (by omega)]; exact ⟨rfl, (hbA k hk).2⟩)
    have fg := bR2_uniq f2 g2 (2 ^ n - 1) (by omega)
    refine go_bind.mpr ?_
    refine ⟨_, re, ?_⟩
    rw [← fg] at re'
    dsimp only
    by_cases e : f (2 ^ n - 1) = 0
    · refine Go.yes (by rw [e]; decide) ?_
      refine Go.some ?_
      refine Go.some ?_
      refine Go.no (by rw [q]; decide) ?_
      refine Go.no (by rw [q']; decide) ?_
      refine Go.yes (by first | rfl | (simp; done)) ?_
      refine go_bind.mpr ?_
      refine ⟨_, re', ?_⟩
      refine Go.some ?_
      exact ⟨by rw [e]; rfl, fin f3 g3⟩
    · refine Go.no (by rw [(lit_nI _ : (0 : Int32) = nI 0), nI_le' (by omega) (by omega)]; omega) ?_
      refine Go.some ?_
      refine Go.some ?_
      refine Go.no (by rw [q]; decide) ?_
      refine Go.no (by rw [q']; decide) ?_
      refine Go.yes (by first | rfl | (simp; done)) ?_
      refine go_bind.mpr ?_
      refine ⟨_, re', ?_⟩
      refine Go.some ?_
      exact ⟨(if_neg e).symm, fin f3 g3⟩
  have loop : Go (lp 1000000 (fun s => fI_firstBlow_b2 (nI X) s.1 s.2) (0, A)) (fun r => Go (lp 1000000 (fun s => fM_bears_b42 (nI X) s.1 s.2) (0, mput B 217 0 0)) (fun r' => ∃ A' B', (∀ c, c ≠ 169 → A' c = A c) ∧ (∀ c, c ≠ 242 → B' c = mput B 217 0 0 c) ∧ ((r = Sum.inr A' ∧ r' = Sum.inr B') ∨ ∃ k, r = Sum.inl (k, A') ∧ r' = Sum.inl (k, B')))) := by
    refine go_for2 (fun k s t => ∃ A' B', (∀ c, c ≠ 169 → A' c = A c) ∧ (∀ c, c ≠ 242 → B' c = mput B 217 0 0 c) ∧ s = (nI k, A') ∧ t = (nI k, B')) n ?_ ?_ (i := 0) (by omega) ⟨A, _, fun _ _ => rfl, fun _ _ => rfl, rfl, rfl⟩ (by omega)
    · rintro s t ⟨A', B', a, b, rfl, rfl⟩
      have a1 : A' 138 0 = nI n := by rw [a 138 (by omega)]; exact hA
      have b1 : B' 217 45 = nI n := by rw [b 217 (by omega), mput_s (by omega)]; exact h45
      unfold fI_firstBlow_b2 fM_bears_b42
      dsimp only
      refine Go.yes (by rw [a1]; exact i32_le.mpr (Int.le_refl _)) ?_
      refine Go.some ?_
      refine Go.yes (by rw [b1]; exact i32_le.mpr (Int.le_refl _)) ?_
      refine Go.some ?_
      exact ⟨A', B', a, b, Or.inl ⟨rfl, rfl⟩⟩
    · rintro k s t hk ⟨A', B', a, b, rfl, rfl⟩
      have a1 : A' 138 0 = nI n := by rw [a 138 (by omega)]; exact hA
      have b1 : B' 217 45 = nI n := by rw [b 217 (by omega), mput_s (by omega)]; exact h45
      have lk : 2 ^ k < 2 ^ n := Nat.pow_lt_pow_right (by omega) hk
      have hbA' : ∀ k, k < n → (A' 139 k).toInt = (B 241 k).toInt ∧ -50 ≤ (B 241 k).toInt ∧ (B 241 k).toInt ≤ 50 := fun k hk => by rw [a 139 (by omega)]; exact hbA k hk
      obtain ⟨_, re', g, B2, rfl, g1, g2, g3⟩ := beaM (B := B') (b := fun k => (B 241 k).toInt) (s0 := 2 ^ k) (h0 := bst (fun k => (B 241 k).toInt) X k) (h := X) (nI k) hn hX hX1 (Or.inr ⟨k, hk, rfl, rfl, rfl⟩) b1 (fun k hk => by rw [b 241 (by omega), mput_r (by omega)]; exact ⟨rfl, (hbA k hk).2⟩)
      have b2 : ∀ c, c ≠ 242 → B2 c = mput B 217 0 0 c := fun c hc => by rw [g3 c hc]; exact b c hc
      obtain ⟨c1, c2, c3⟩ := hbA' k hk
      have v1 : (jmin 99 (nI X + A' 139 k)).toInt = min 99 ((X : Int) + (B 241 k).toInt) := by
        rw [jmin_toInt, i32_add (by rw [nI_toInt' (by omega)]; omega) (by rw [nI_toInt' (by omega)]; omega), nI_toInt' (by omega), c1]; rfl
      have v2 : bst (fun k => (B 241 k).toInt) X k = (min 99 ((X : Int) + (B 241 k).toInt)).toNat := if_neg (by omega)
      have m0 : ∀ {Q : ((Int32 × Mm) ⊕ ((Int32 × Mm) ⊕ Mm)) → Prop}, g (2 ^ n - 1) = 0 → Q (Sum.inl (nI (k + 1), B2)) → Go (fM_bears_b42 (nI X) (nI k) B') Q := by
        intro Q e hQ
        unfold fM_bears_b42
        refine Go.no (by rw [b1, nI_le' (by omega) (by omega)]; omega) ?_
        refine go_bind.mpr ?_
        refine ⟨_, re', ?_⟩
        refine Go.yes (by dsimp only; rw [e]; rfl) ?_
        refine Go.some ?_
        dsimp only
        rw [nI_1]; exact hQ
      have m1 : ∀ {Q : ((Int32 × Mm) ⊕ ((Int32 × Mm) ⊕ Mm)) → Prop}, ¬ g (2 ^ n - 1) = 0 → Q (Sum.inr (Sum.inl (nI k, B2))) → Go (fM_bears_b42 (nI X) (nI k) B') Q := by
        intro Q e hQ
        unfold fM_bears_b42
        refine Go.no (by rw [b1, nI_le' (by omega) (by omega)]; omega) ?_
        refine go_bind.mpr ?_
        refine ⟨_, re', ?_⟩
        refine Go.no (by dsimp only; rw [enc_neg1 g1]; exact e) ?_
        refine Go.some ?_
        exact hQ
      unfold fI_firstBlow_b2 fI_firstBlow_j46
      dsimp only
      refine Go.no (by rw [a1, nI_le' (by omega) (by omega)]; omega) ?_
      refine Go.gd ((inb_nI (by omega)).mpr (by omega)) ?_
      rw [jix_nI (show k < 2147483648 by omega)]
      by_cases e : bst (fun k => (B 241 k).toInt) X k = 0
      · have gz : g (2 ^ n - 1) = 0 := by
          have : bR2 (fun k => (B 241 k).toInt) n (2 ^ k) (bst (fun k => (B 241 k).toInt) X k) (fun _ => 0) (2 ^ n) := by
            intro T hT
            rw [bmr_z (fun _ _ => rfl), e]
            split <;> rfl
          exact (bR2_uniq g2 this (2 ^ n - 1) (by omega))
        refine Go.yes (by rw [i32_lt, v1]; show _ < (1 : Int); omega) ?_
        refine Go.some ?_
        rw [nI_1]
        exact m0 gz ⟨A', B2, a, b2, rfl, rfl⟩
      · have ev : jmin 99 (nI X + A' 139 k) = nI (bst (fun k => (B 241 k).toInt) X k) := i32_nI (by rw [v1]; omega) (by omega)
        obtain ⟨_, re, f, A2, rfl, f1, f2, f3⟩ := beaK (A := A') (b := fun k => (B 241 k).toInt) (s0 := 2 ^ k) (h0 := bst (fun k => (B 241 k).toInt) X k) hn a1 hbA' lk (bst_le _ X k)
        have a2 : ∀ c, c ≠ 169 → A2 c = A c := fun c hc => by rw [f3 c hc]; exact a c hc
        have fg := bR2_uniq f2 g2 (2 ^ n - 1) (by omega)
        rw [ev, shl_nI (show k < 31 by omega), nI_1]
        refine Go.no (by rw [(lit_nI _ : (1 : Int32) = nI 1), nI_lt' (by omega) (by omega)]; omega) ?_
        refine go_bind.mpr ?_
        refine ⟨_, re, ?_⟩
        dsimp only
        by_cases e2 : g (2 ^ n - 1) = 0
        · refine Go.yes (by rw [fg, e2]; decide) ?_
          refine Go.some ?_
          exact m0 e2 ⟨A2, B2, a2, b2, rfl, rfl⟩
        · refine Go.no (by rw [fg, (lit_nI _ : (0 : Int32) = nI 0), nI_le' (by omega) (by omega)]; omega) ?_
          refine Go.some ?_
          exact m1 e2 ⟨A2, B2, a2, b2, Or.inr ⟨nI k, rfl, rfl⟩⟩
  obtain ⟨r, r1, r', r2, A', B', a, b, hr⟩ := loop
  unfold fI_firstBlow
  refine Go.no (by rw [q]; decide) ?_
  refine Go.no (by rw [q']; decide) ?_
  refine Go.yes (by first | rfl | (simp; done)) ?_
  refine go_bind.mpr ?_
  refine go_bind.mpr ?_
  refine ⟨r, r1, ?_⟩
  rcases hr with ⟨rfl, rfl⟩ | ⟨k, rfl, rfl⟩
  · dsimp only
    refine Go.some ?_
    refine Go.some ?_
    refine Go.no (by rw [q]; decide) ?_
    refine Go.no (by rw [q']; decide) ?_
    refine Go.no (by first | decide | (simp; done)) ?_
    refine go_bind.mpr ?_
    refine ⟨_, r2, ?_⟩
    dsimp only
    refine Go.some ?_
    exact ⟨rfl, fin a b⟩
  · dsimp only
    refine Go.some ?_
    refine Go.some ?_
    refine Go.no (by rw [q]; decide) ?_
    refine Go.no (by rw [q']; decide) ?_
    refine Go.no (by first | decide | (simp; done)) ?_
    refine go_bind.mpr ?_
    refine ⟨_, r2, ?_⟩
    dsimp only
    refine Go.some ?_
    exact ⟨rfl, fin a b⟩
end PmBears3
