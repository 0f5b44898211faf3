section PmCarries3
def gS (w : Nat → Nat) (m X v j c g : Nat) : Prop := (c = cN (gP w v j) m ∧ g = cW (gP w v j) w m ∧ g ≤ X) ∨ (∃ v0 j0, v0 ≤ v ∧ c = cN (gP w v0 j0) m ∧ g = cW (gP w v0 j0) w m ∧ g ≤ X ∧ X < g + v0)
theorem gS_next {w : Nat → Nat} {m X v c g : Nat} (h : gS w m X v m c g) : gS w m X (v + 1) 0 c g := by
  rcases h with ⟨h1, h2, h3⟩ | ⟨v0, j0, h0, h1, h2, h3, h4⟩
  · exact Or.inl ⟨by rw [h1]; exact cN_eq m fun i hi => gP_next hi, by rw [h2]; exact cW_eq w m fun i hi => gP_next hi, h3⟩
  · exact Or.inr ⟨v0, j0, by omega, h1, h2, h3, h4⟩
theorem gS_other {w : Nat → Nat} {m X v j c g : Nat} (h : gS w m X v j c g) (e : w j ≠ v) : gS w m X v (j + 1) c g := by
  rcases h with ⟨h1, h2, h3⟩ | h
  · exact Or.inl ⟨by rw [h1]; exact cN_eq m fun i _ => (gP_same e i).symm, by rw [h2]; exact cW_eq w m fun i _ => (gP_same e i).symm, h3⟩
  · exact Or.inr h
theorem gS_take {w : Nat → Nat} {m X v j c g : Nat} (h : gS w m X v j c g) (hj : j < m) (e : w j = v) (l : g + v ≤ X) : gS w m X v (j + 1) (c + 1) (g + v) := by
  rcases h with ⟨h1, h2, h3⟩ | ⟨v0, j0, h0, h1, h2, h3, h4⟩
  · obtain ⟨a1, a2, a3⟩ := gP_add e
    refine Or.inl ⟨?_, ?_, l⟩
    · rw [cN_put a1 a2 a3 m, if_pos hj, h1]
    · rw [cW_put w a1 a2 a3 m, if_pos hj, h2, e]
  · omega
theorem gS_leave {w : Nat → Nat} {m X v j c g : Nat} (h : gS w m X v j c g) (l : ¬ g + v ≤ X) : gS w m X v (j + 1) c g := by
  rcases h with ⟨h1, h2, h3⟩ | h
  · exact Or.inr ⟨v, j, Nat.le_refl _, h1, h2, h3, by omega⟩
  · exact Or.inr h
theorem gS_end {w : Nat → Nat} {m X c g : Nat} (hw : ∀ i, i < m → w i ≤ 99) (h : gS w m X 100 0 c g) : cG w m X c := by
  rcases h with ⟨h1, h2, h3⟩ | ⟨v0, j0, h0, h1, h2, h3, h4⟩
  · refine ⟨_, g, h1, h2, h3, Or.inl ?_⟩
    rw [h1]
    refine cN_all m fun i hi => ?_
    unfold gP
    have := hw i hi
    simp only [decide_eq_true_eq]
    omega
  · exact ⟨_, g, h1, h2, h3, Or.inr ⟨v0, h4, fun i _ q => gP_in q, fun i _ q => gP_out q⟩⟩
theorem car_pass {B : Mm} {w : Nat → Nat} {X m v c g : Nat} (x2 : Int32) (hm : m ≤ 24) (hX : X ≤ 400) (hv : v ≤ 99) (h10 : B 218 10 = nI m) (hw : ∀ i, i < m → w i ≤ 99 ∧ B 218 (57 + 5 * i) = nI (w i)) (h : gS w m X v 0 c g) :
    Go (lp 1000000 (fun s => fM_carries_b47 (nI X) x2 (nI v) B s.1 s.2.1 s.2.2) (nI c, nI g, 0)) (fun e => ∃ c g, gS w m X (v + 1) 0 c g ∧ e = (nI c, nI g)) := by
  refine go_for (fun j s => ∃ c g, gS w m X v j c g ∧ s = (nI c, nI g, nI j)) m ?_ ?_ (i := 0) (by omega) ⟨c, g, h, rfl⟩ (by omega)
  · rintro s ⟨c, g, h, rfl⟩
    unfold fM_carries_b47
    dsimp only
    exact Go.yes (by rw [h10]; exact i32_le.mpr (Int.le_refl _)) (Go.some ⟨c, g, gS_next h, rfl⟩)
  · rintro j s hj ⟨c, g, h, rfl⟩
    have hg : g ≤ X := by
      rcases h with ⟨_, _, h⟩ | ⟨_, _, _, _, _, h, _⟩ <;> exact h
    unfold fM_carries_b47
    dsimp only
    obtain ⟨w1, w2⟩ := hw j hj
    have j1 : fM_letterAt (nI j) + 3 = nI (57 + 5 * j) := by
      unfold fM_letterAt
      rw [(lit_nI _ : (54 : Int32) = nI 54), (lit_nI _ : (5 : Int32) = nI 5), (lit_nI _ : (3 : Int32) = nI 3), nI_mul', nI_add, nI_add]; exact congrArg nI (by omega)
    rw [j1, jix_nI (by omega), w2, nI_add, nI_1, nI_1]
    refine Go.no (by rw [h10, nI_le' (by omega) (by omega)]; omega) ?_
    refine Go.gd ((inb_nI (by omega)).mpr (by omega)) ?_
    refine go_bind.mpr ?_
    by_cases e : w j = v
    · by_cases l : g + v ≤ X
      · refine Go.yes (by rw [e]) ?_
        refine Go.yes ((nI_le' (by omega) (by omega)).mpr l) ?_
        refine Go.some ?_
        refine Go.some ?_
        exact ⟨c + 1, g + v, gS_take h hj e l, rfl⟩
      · refine Go.yes (by rw [e]) ?_
        refine Go.no (by rw [nI_le' (by omega) (by omega)]; exact l) ?_
        refine Go.some ?_
        refine Go.some ?_
        exact ⟨c, g, gS_leave h l, rfl⟩
    · refine Go.no (by rw [nI_eq' (by omega) (by omega)]; exact e) ?_
      refine Go.some ?_
      refine Go.some ?_
      exact ⟨c, g, gS_other h e, rfl⟩
theorem car_greedy {B : Mm} {w : Nat → Nat} {X m : Nat} (x2 : Int32) (hm : m ≤ 24) (hX : X ≤ 400) (h10 : B 218 10 = nI m) (hw : ∀ i, i < m → w i ≤ 99 ∧ B 218 (57 + 5 * i) = nI (w i)) (hw1 : ∀ i, i < m → 1 ≤ w i) :
    Go (lp 1000000 (fun s => fM_carries_b37 (nI X) x2 B s.1 s.2.1 s.2.2) (0, 0, 1)) (fun e => ∃ c, cG w m X c ∧ e = nI c) := by
  refine go_for (fun v s => ∃ c g, gS w m X v 0 c g ∧ s = (nI c, nI g, nI v)) 100 ?_ ?_ (i := 1) (by omega) ⟨0, 0, Or.inl ⟨(cN_no m fun i hi => gP_first (hw1 i hi)).symm, (cW_no w m fun i hi => gP_first (hw1 i hi)).symm, by omega⟩, rfl⟩ (by omega)
  · rintro s ⟨c, g, h, rfl⟩
    unfold fM_carries_b37
    dsimp only
    exact Go.yes (by decide) (Go.some ⟨c, gS_end (fun i hi => (hw i hi).1) h, rfl⟩)
  · rintro v s hv ⟨c, g, h, rfl⟩
    unfold fM_carries_b37
    dsimp only
    refine Go.no (by rw [(lit_nI _ : (99 : Int32) = nI 99), nI_lt' (by omega) (by omega)]; omega) ?_
    refine Go.bind (car_pass x2 hm hX (by omega) h10 hw h) ?_
    rintro e ⟨c', g', h', rfl⟩
    refine Go.some ?_
    dsimp only
    rw [nI_1]
    exact ⟨c', g', h', rfl⟩
theorem carK_sum {A : Mm} {w : Nat → Nat} {X m k : Nat} (x2 : Int32) (hm : m ≤ 24) (hX : X ≤ 400) (hk : k ≤ m) (h8 : ¬ A 0 8 = 0) (hT : TX A 252 (cT w m) m X) :
    lp 1000000 (fun s => fY_loads_b75 (nI X) x2 (nI k) A s.1 s.2) (0, 0) = some (nI (cS w m k (X + 1))) := by
  refine Go.eq ?_
  refine go_for (fun y s => s = (nI (cS w m k y), nI y)) (X + 1) ?_ ?_ (i := 0) (by omega) rfl (by omega)
  · rintro s rfl
    unfold fY_loads_b75
    dsimp only
    exact Go.yes ((nI_lt' (by omega) (by omega)).mpr (by omega)) (Go.some rfl)
  · rintro y s hy rfl
    unfold fY_loads_b75
    dsimp only
    have j1 : nI k * 401 + nI y = nI (401 * k + y) := by rw [(lit_nI _ : (401 : Int32) = nI 401), nI_mul', nI_add]; exact congrArg nI (by omega)
    rw [j1, jix_nI (by omega), hT k y hk (by omega), nI_add, nI_1]
    refine Go.no (by rw [nI_lt' (by omega) (by omega)]; omega) ?_
    refine Go.gd (⟨h8, (inb_nI (by omega)).mpr (by omega)⟩) ?_
    refine Go.some ?_
    rfl
theorem carM_sum {B : Mm} {w : Nat → Nat} {X m k : Nat} (hm : m ≤ 24) (hX : X ≤ 400) (hk : k ≤ m) (hT : TX B 243 (cT w m) m X) :
    lp 1000000 (fun s => fM_carries_b129 (nI X) (nI k) B s.1 s.2) (0, 0) = some (nI (cS w m k (X + 1))) := by
  refine Go.eq ?_
  refine go_for (fun y s => s = (nI (cS w m k y), nI y)) (X + 1) ?_ ?_ (i := 0) (by omega) rfl (by omega)
  · rintro s rfl
    unfold fM_carries_b129
    dsimp only
    exact Go.yes ((nI_lt' (by omega) (by omega)).mpr (by omega)) (Go.some rfl)
  · rintro y s hy rfl
    unfold fM_carries_b129
    dsimp only
    have l3 : 2 ^ m ≤ 2 ^ 24 := Nat.pow_le_pow_right (by omega) (by omega)
    have l1 := cS_le w m k y
    have l2 := cT_le w m k y
    have j1 : 401 * nI k + nI y = nI (401 * k + y) := by rw [(lit_nI _ : (401 : Int32) = nI 401), nI_mul', nI_add]
    rw [j1, jix_nI (by omega), hT k y hk (by omega), added_nI (by omega), nI_1]
    refine Go.no (by rw [nI_lt' (by omega) (by omega)]; omega) ?_
    refine Go.gd ((inb_nI (by omega)).mpr (by omega)) ?_
    refine Go.some ?_
    rfl
theorem carK_best {A : Mm} {w : Nat → Nat} {X m c : Nat} (x2 : Int32) (hm : m ≤ 24) (hX : X ≤ 400) (h8 : ¬ A 0 8 = 0) (hT : TX A 252 (cT w m) m X) (hc : cG w m X c) :
    Go (lp 1000000 (fun s => fY_loads_b64 (nI X) x2 A s) (nI m)) (fun e => e = Sum.inl (nI c, nI (cS w m c (X + 1))) ∨ (c = 0 ∧ e = Sum.inr ())) := by
  obtain ⟨c1, c2, c3⟩ := cG_best hc
  have l3 : 2 ^ m ≤ 2 ^ 24 := Nat.pow_le_pow_right (by omega) (by omega)
  refine go_lp (fun q s => s = nI q ∧ c ≤ q ∧ q ≤ m) ?_ _ m _ (by omega) ⟨rfl, c1, Nat.le_refl _⟩
  rintro q s ⟨rfl, h1, h2⟩
  unfold fY_loads_b64
  by_cases e : q = 0
  · subst e
    exact Go.yes (by decide) (Go.some (Or.inr ⟨by omega, rfl⟩))
  have l1 := cS_le w m q (X + 1)
  refine Go.no (by rw [(lit_nI _ : (0 : Int32) = nI 0), nI_le' (by omega) (by omega)]; omega) ?_
  refine go_bind.mpr ?_
  rw [carK_sum x2 hm hX h2 h8 hT]
  refine Go.some ?_
  by_cases e2 : q = c
  · subst e2
    refine Go.no (by rw [(lit_nI _ : (0 : Int32) = nI 0), nI_le' (by omega) (by omega)]; omega) ?_
    refine Go.some ?_
    exact Or.inl rfl
  · refine Go.yes (by rw [c3 q (by omega) h2]; decide) ?_
    refine Go.some ?_
    exact ⟨q - 1, by omega, nI_dec (by omega), by omega, by omega⟩
theorem fda19_eq {M : Mm} {n : Nat} {v : Int32} (h8 : ¬ M 0 8 = 0) (hn : n ≤ 10025) : fJ_fill_fda19 0 (nI n) v M = some (mfill M 252 n v) := by
  refine Go.eq ?_
  unfold fJ_fill_fda19 fJ_rangeCheck_23922
  refine Go.gd (h8) ?_
  refine go_bind.mpr ?_
  refine Go.yes (by rw [← nI_zero, nI_le' (by omega) (by omega)]; omega) ?_
  refine Go.yes (by first | rfl | (simp; done)) ?_
  refine Go.yes (by rw [(lit_nI _ : (10025 : Int32) = nI 10025), nI_le' (by omega) (by omega)]; omega) ?_
  refine Go.some ?_
  refine Go.bind (P := fun y => y = mfill M 252 n v) ?_ (fun e he => Go.some he)
  refine go_for (fun i s => s = (nI i, mfill M 252 i v)) n ?_ ?_ (i := 0) (by omega) (by rw [mfill_0]; rfl) (by omega)
  · rintro s rfl
    unfold fJ_fill_fda19_b10
    dsimp only
    exact Go.yes (i32_le.mpr (Int.le_refl _)) (Go.some rfl)
  · rintro i s hi rfl
    unfold fJ_fill_fda19_b10
    dsimp only
    refine Go.no (by rw [nI_le' (by omega) (by omega)]; omega) ?_
    refine Go.gd (⟨by rw [mfill_r (by omega)]; exact h8, (inb_nI (by omega)).mpr (by omega)⟩) ?_
    refine Go.some ?_
    rw [jix_nI (by omega), mfill_s, nI_1]
theorem carM_fill {B : Mm} {m X : Nat} {w : Nat → Nat} (x : Int32) (hm : m ≤ 24) (hX : X ≤ 400) : Go (lp 1000000 (fun s => fM_findsCarried_b2 x s.1 s.2) (0, B)) (fun B' => TX B' 243 (cT w 0) m X ∧ ∀ b, b ≠ 243 → B' b = B b) := by
  refine go_for (fun i s => ∃ B', s = (nI i, B') ∧ (∀ j, j < i → B' 243 j = (if j = 0 then 1 else 0)) ∧ ∀ b, b ≠ 243 → B' b = B b) 10025 ?_ ?_ (i := 0) (by omega) ⟨B, rfl, fun j hj => by omega, fun _ _ => rfl⟩ (by omega)
  · rintro s ⟨B', rfl, t, fr⟩
    unfold fM_findsCarried_b2
    dsimp only
    refine Go.yes (by decide) (Go.some ⟨fun k s hk hs => ?_, fr⟩)
    rw [t _ (by omega)]
    show _ = nI (if k = 0 ∧ s = 0 then 1 else 0)
    by_cases e : k = 0 ∧ s = 0
    · rw [if_pos e, if_pos (by omega)]; rfl
    · rw [if_neg e, if_neg (by omega)]; rfl
  · rintro i s hi ⟨B', rfl, t, fr⟩
    unfold fM_findsCarried_b2
    dsimp only
    refine Go.no (by rw [(lit_nI _ : (10025 : Int32) = nI 10025), nI_le' (by omega) (by omega)]; omega) ?_
    refine Go.gd ((inb_nI (by omega)).mpr (by omega)) ?_
    refine Go.some ?_
    rw [jix_nI (by omega), nI_1]
    refine ⟨_, rfl, fun j hj => ?_, fun b hb => by rw [mput_r hb]; exact fr b hb⟩
    by_cases e : j = i
    · subst e
      rw [mput_same]
      simp only [← nI_zero, nI_eq' (show j < 2147483648 by omega) (show 0 < 2147483648 by omega)]
    · rw [mput_s e]; exact t j (by omega)
theorem desk_8 (A : Mm) : ¬ fK_theDesk A 0 8 = 0 := by
  by_cases h : A 0 8 = 0
  · rw [desk_ne h]; decide
  · rw [desk_eq h]; exact h
theorem desk_r {A : Mm} {c k : Nat} (h : c ≠ 252) (h2 : ¬ (c = 0 ∧ k = 8)) : fK_theDesk A c k = A c k := by
  unfold fK_theDesk
  split
  · dsimp only; rw [if_neg h, if_neg h2]
  · rfl
theorem sim_carries {A B : Mm} (x y : Int32) (h : RR A B) : Sim A B (fK_carries x y A) (fM_carries x y B) := by
  have h0 := h
  obtain ⟨⟨n, ⟨⟨m, _, _, -, ⟨hm, hA, h10, -, hL⟩, -⟩, -, -⟩, -⟩, -⟩ := h0
  have hA : A 8 0 = nI m := hA
  unfold Sim fK_carries fM_carries
  simp only [isIn_eq]
  rcases within_nI1 x (a := 1) (b := 400) (by omega) (by omega) with ⟨q, X, hX1, hX, rfl⟩ | ⟨q, -⟩
  rotate_left
  · have q : fK_isWithin x 1 400 = 0 := q
    refine Go.yes (q) ?_
    refine Go.some ?_
    refine Go.yes (q) ?_
    refine Go.some ?_
    exact ⟨rfl, fin_0 h⟩
  have q : fK_isWithin (nI X) 1 400 = 1 := q
  rcases within_nI1 y (a := 0) (b := 1) (by omega) (by omega) with ⟨q', z, -, hz, rfl⟩ | ⟨q', -⟩
  rotate_left
  · have q' : fK_isWithin y 0 1 = 0 := q'
    refine Go.no (by rw [q]; decide) ?_
    refine Go.yes (q') ?_
    refine Go.some ?_
    refine Go.no (by rw [q]; decide) ?_
    refine Go.yes (q') ?_
    refine Go.some ?_
    exact ⟨rfl, fin_0 h⟩
  have q' : fK_isWithin (nI z) 0 1 = 1 := q'
  obtain ⟨w, hw⟩ := Classical.axiomOfChoice (r := fun i (c : Nat) => i < m → 1 ≤ c ∧ c ≤ 99 ∧ A 12 i = nI c ∧ B 218 (57 + 5 * i) = nI c) (fun i => by
    by_cases e : i < m
    · obtain ⟨-, -, -, a4, -, -, -, c, c1, c2, c3⟩ := hL i e
      exact ⟨c, fun _ => ⟨c1, c2, a4.trans c3, c3⟩⟩
    · exact ⟨0, fun e' => absurd e' e⟩)
  have e252 : ∀ k, aR 252 k = false := fun k => rfl
  have e243 : ∀ k, bR 243 k = false := fun k => rfl
  have hd8 := desk_8 A
  have hd : ∀ c k, c ≠ 252 → ¬ (c = 0 ∧ k = 8) → fK_theDesk A c k = A c k := fun c k a b => desk_r a b
  have e1 : (nI m + 1) * 401 = nI ((m + 1) * 401) := by rw [nI_1, (lit_nI _ : (401 : Int32) = nI 401), nI_mul']
  have f8 : ¬ mfill (fK_theDesk A) 252 ((m + 1) * 401) 0 0 8 = 0 := by rw [mfill_r (by omega)]; exact hd8
  have T0 : TX (mput (mfill (fK_theDesk A) 252 ((m + 1) * 401) 0) 252 0 1) 252 (cT w 0) m X := by
    intro k s hk hs
    show _ = nI (if k = 0 ∧ s = 0 then 1 else 0)
    by_cases e : k = 0 ∧ s = 0
    · rw [e.1, e.2, if_pos ⟨rfl, rfl⟩]; exact mput_same _ _ _ _
    · rw [mput_s (by omega), mfill_in (by omega), if_neg e]; rfl
  have fr0 : ∀ c k, c ≠ 252 → ¬ (c = 0 ∧ k = 8) → mput (mfill (fK_theDesk A) 252 ((m + 1) * 401) 0) 252 0 1 c k = A c k := fun c k a b => by rw [mput_r a, mfill_r a]; exact hd c k a b
  obtain ⟨A1, A1e, A1t, A1f⟩ := carK_table (A := mput (mfill (fK_theDesk A) 252 ((m + 1) * 401) 0) 252 0 1) (if nI z = 1 then (1 : Int32) else 0) hm hX (by rw [fr0 8 0 (by omega) (by omega)]; exact hA) (fun i hi => ⟨(hw i hi).2.1, by rw [fr0 12 i (by omega) (by omega)]; exact (hw i hi).2.2.1⟩) (by rw [mput_r (by omega)]; exact f8) T0
  have g8 : ¬ A1 0 8 = 0 := by rw [A1f 0 (by omega), mput_r (by omega)]; exact f8
  have h10' : mput B 217 0 0 218 10 = nI m := by rw [mput_r (by omega)]; exact h10
  have hwM : ∀ i, i < m → w i ≤ 99 ∧ mput B 217 0 0 218 (57 + 5 * i) = nI (w i) := fun i hi => ⟨(hw i hi).2.1, by rw [mput_r (by omega)]; exact (hw i hi).2.2.2⟩
  obtain ⟨_, ge, c, hc, rfl⟩ := car_greedy (B := mput B 217 0 0) (nI z) hm hX h10' hwM (fun i hi => (hw i hi).1)
  obtain ⟨r, re, hr⟩ := carK_best (if nI z = 1 then (1 : Int32) else 0) hm hX g8 A1t hc
  obtain ⟨B1, B1e, B1t, B1f⟩ := carM_fill (B := mput B 217 0 0) (w := w) (nI X) hm hX
  obtain ⟨B2, B2e, B2t, B2f⟩ := carM_table (B := B1) hm hX (by rw [B1f 218 (by omega)]; exact h10') (fun i hi => ⟨(hwM i hi).1, by rw [B1f 218 (by omega)]; exact (hwM i hi).2⟩) B1t
  have hs1 : c = 0 → cS w m c (X + 1) = 1 := by
    intro e
    subst e
    have : ∀ m y, cS w m 0 (y + 1) = 1 := by
      intro m y
      induction m with
      | zero =>
        induction y with
        | zero => rfl
        | succ y ih => rw [cS_1, ih]; rfl
      | succ m ih => rw [cS_s, ih]; rfl
    exact this m X
  have fA : FB aR A A1 := fun c k e => by
    rw [A1f c (fun q => by subst q; rw [e252] at e; cases e)]
    exact fr0 c k (fun q => by subst q; rw [e252] at e; cases e) (fun q => by obtain ⟨rfl, rfl⟩ := q; exact absurd e (by decide))
  have fB1 : FB bR B (mput B 217 0 0) := fb_put (fb_rfl bR B) rfl
  have fB2 : FB bR B B2 := fun c k e => by
    have ne : c ≠ 243 := fun q => by subst q; rw [e243] at e; cases e
    rw [B2f c ne, B1f c ne]
    exact fB1 c k e
  unfold fY_loads fM_findsCarried
  rw [hd 8 0 (by omega) (by omega), hA, e1, fda19_eq hd8 (by omega)]
  refine Go.no (by rw [q]; decide) ?_
  refine Go.no (by rw [q']; decide) ?_
  refine go_bind.mpr ?_
  refine go_bind.mpr ?_
  refine Go.some ?_
  refine Go.gd (⟨f8, by decide⟩) ?_
  refine go_bind.mpr ?_
  refine ⟨A1, A1e, ?_⟩
  dsimp only
  rw [A1f 8 (by omega), fr0 8 0 (by omega) (by omega), hA]
  refine go_bind.mpr ?_
  refine ⟨r, re, ?_⟩
  have hz2 : z = 0 ∨ z = 1 := by omega
  have m0 : ∀ {Q : Int32 × Mm → Prop}, Q (nI c, mput B 217 0 0) → z = 0 → Go (if fK_isWithin (nI X) 1 400 = 0 then some ((-1 : Int32), mput B 217 0 0) else if fK_isWithin (nI z) 0 1 = 0 then some (-1, mput B 217 0 0) else Option.bind (lp 1000000 (fun s => fM_carries_b37 (nI X) (nI z) (mput B 217 0 0) s.1 s.2.1 s.2.2) (0, 0, 1)) fun e37 => if nI z = 0 then some (e37, mput B 217 0 0) else Option.bind (Option.bind (lp 1000000 (fun s => fM_findsCarried_b2 (nI X) s.1 s.2) (0, mput B 217 0 0)) fun e2 => Option.bind (lp 1000000 (fun s => fM_findsCarried_b32 (nI X) s.1 s.2) (0, e2)) fun e32 => some e32) fun Mz14 => Option.bind (lp 1000000 (fun s => fM_carries_b129 (nI X) e37 Mz14 s.1 s.2) (0, 0)) fun e129 => some (e129, Mz14)) Q := by
    intro Q hQ ez
    subst ez
    refine Go.no (by rw [q]; decide) ?_
    refine Go.no (by rw [q']; decide) ?_
    refine go_bind.mpr ?_
    refine ⟨_, ge, ?_⟩
    refine Go.yes (by first | rfl | (simp; done)) ?_
    refine Go.some ?_
    exact hQ
  have m1 : ∀ {Q : Int32 × Mm → Prop}, Q (nI (cS w m c (X + 1)), B2) → z = 1 → Go (if fK_isWithin (nI X) 1 400 = 0 then some ((-1 : Int32), mput B 217 0 0) else if fK_isWithin (nI z) 0 1 = 0 then some (-1, mput B 217 0 0) else Option.bind (lp 1000000 (fun s => fM_carries_b37 (nI X) (nI z) (mput B 217 0 0) s.1 s.2.1 s.2.2) (0, 0, 1)) fun e37 => if nI z = 0 then some (e37, mput B 217 0 0) else Option.bind (Option.bind (lp 1000000 (fun s => fM_findsCarried_b2 (nI X) s.1 s.2) (0, mput B 217 0 0)) fun e2 => Option.bind (lp 1000000 (fun s => fM_findsCarried_b32 (nI X) s.1 s.2) (0, e2)) fun e32 => some e32) fun Mz14 => Option.bind (lp 1000000 (fun s => fM_carries_b129 (nI X) e37 Mz14 s.1 s.2) (0, 0)) fun e129 => some (e129, Mz14)) Q := by
    intro Q hQ ez
    subst ez
    refine Go.no (by rw [q]; decide) ?_
    refine Go.no (by rw [q']; decide) ?_
    refine go_bind.mpr ?_
    refine ⟨_, ge, ?_⟩
    refine Go.no (by first | decide | (simp; done)) ?_
    refine go_bind.mpr ?_
    refine go_bind.mpr ?_
    refine ⟨B1, B1e, ?_⟩
    refine go_bind.mpr ?_
    refine ⟨B2, B2e, ?_⟩
    refine Go.some ?_
    refine go_bind.mpr ?_
    rw [carM_sum hm hX (cG_best hc).1 B2t]
    refine Go.some ?_
    refine Go.some ?_
    exact hQ
  rcases hr with rfl | ⟨c0, rfl⟩
  · dsimp only
    rcases hz2 with ez | ez
    · refine Go.yes (by rw [ez]; decide) ?_
      refine Go.some ?_
      refine Go.some ?_
      exact m0 ⟨rfl, fin_r h fA fB1⟩ ez
    · refine Go.no (by rw [ez]; decide) ?_
      refine Go.some ?_
      refine Go.some ?_
      exact m1 ⟨rfl, fin_r h fA fB2⟩ ez
  · dsimp only
    rcases hz2 with ez | ez
    · refine Go.yes (by rw [ez]; decide) ?_
      refine Go.some ?_
      refine Go.some ?_
      exact m0 ⟨by rw [c0]; rfl, fin_r h fA fB1⟩ ez
    · refine Go.no (by rw [ez]; decide) ?_
      refine Go.some ?_
      refine Go.some ?_
      exact m1 ⟨by rw [hs1 c0]; rfl, fin_r h fA fB2⟩ ez
end PmCarries3
