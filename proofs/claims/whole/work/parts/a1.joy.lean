section PmSmall2
/-! joy -/
def JoS (i : Nat) (p q : Int32 × Int32) : Prop := p = q ∨ (i = 0 ∧ p = (-10, -1) ∧ q = (-100000000, 0))
theorem joy_in {A B : Mm} {n a : Nat} (x1 x1' : Int32) (hn : n ≤ 12) (ha : a < n) (a2 : A 2 0 = nI n) (b6 : B 217 6 = nI n) (hf : ∀ e, e < 12 → A 3 e = B 218 (18 + e) ∧ Fc (B 218 (18 + e))) (p q : Int32 × Int32) (hp : JoS a p q) :
    Go (lp 1000000 (fun s => fY_joyOfRow_b25 x1 (nI a) A s.1 s.2.1 s.2.2.1 s.2.2.2) (p.1, p.2, 0, nI a)) (fun y => Go (lp 1000000 (fun s => fM_joy_b50 x1' (nI a) B s.1 s.2.1 s.2.2.1 s.2.2.2) (q.1, q.2, 0, nI a)) (fun y' => y = y')) := by
  have z0 : Int32.toInt 0 = 0 := by decide
  refine go_for2 (J := fun i s t => ∃ (p q : Int32 × Int32) (u : Int32), s = (p.1, p.2, u, nI i) ∧ t = (q.1, q.2, u, nI i) ∧ (p = q ∨ (i = 0 ∧ p = (-10, -1) ∧ q = (-100000000, 0))) ∧ -(9 * ((i : Int) - (a : Int))) ≤ u.toInt ∧ u.toInt ≤ 9 * ((i : Int) - (a : Int))) (e := n) ?_ ?_ (i := a) (by omega) ⟨p, q, 0, rfl, rfl, hp, by omega, by omega⟩ (by omega)
  · rintro s t ⟨p, q, u, rfl, rfl, h1, -⟩
    unfold fY_joyOfRow_b25 fM_joy_b50
    dsimp only
    rw [a2, b6]
    refine Go.yes (i32_le.mpr (Int.le_refl _)) ?_
    refine Go.some ?_
    refine Go.yes (i32_le.mpr (Int.le_refl _)) ?_
    refine Go.some ?_
    rcases h1 with h1 | ⟨h1, -⟩
    · rw [h1]
    · omega
  · rintro i s t hi ⟨p, q, u, rfl, rfl, h1, h2, h3⟩
    unfold fY_joyOfRow_b25 fM_joy_b50
    have ji : jix (nI i) = i := jix_nI (by omega)
    have e18 : (18 : Int32) + nI i = nI (18 + i) := nI_add 18 i
    have j18 : jix (nI (18 + i)) = 18 + i := jix_nI (by omega)
    obtain ⟨f1, f2, f3⟩ := hf i (by omega)
    have hia : a ≤ i ∨ i < a := by omega
    simp only [a2, b6, ji, e18, j18, f1, nI_1]
    refine Go.no (by rw [nI_le' (by omega) (by omega)]; omega) ?_
    refine Go.gd ((inb_nI (by omega)).mpr (by omega)) ?_
    refine Go.some ?_
    refine Go.no (by rw [nI_le' (by omega) (by omega)]; omega) ?_
    refine Go.gd ((inb_nI (by omega)).mpr (by omega)) ?_
    refine Go.some ?_
    have hu : (u + B 218 (18 + i)).toInt = u.toInt + (B 218 (18 + i)).toInt := i32_add (by omega) (by omega)
    generalize hv : u + B 218 (18 + i) = v at *
    rcases h1 with rfl | ⟨rfl, rfl, rfl⟩
    · refine ⟨(if v ≤ p.1 then p.1 else v, if v ≤ p.1 then p.2 else nI a), (fM_greater p.1 v, if v ≤ p.1 then p.2 else nI a), v, rfl, rfl, Or.inl ?_, by omega, by omega⟩
      congr 1
      rw [← jmax_eq]
      unfold jmax
      by_cases c : v ≤ p.1
      · rw [if_pos c, if_neg (by rw [i32_lt]; rw [i32_le] at c; omega)]
      · rw [if_neg c, if_pos (by rw [i32_lt]; rw [i32_le] at c; omega)]
    · have c1 : ¬ v ≤ (-10 : Int32) := by
        rw [i32_le]
        have : Int32.toInt (-10) = -10 := by decide
        omega
      have c2 : ¬ v ≤ (-100000000 : Int32) := by
        rw [i32_le]
        have : Int32.toInt (-100000000) = -100000000 := by decide
        omega
      refine ⟨(v, nI a), (v, nI a), v, ?_, ?_, Or.inl rfl, by omega, by omega⟩
      · dsimp only
        rw [if_neg c1, if_neg c1]
      · dsimp only
        rw [if_neg c2, ← jmax_eq]
        unfold jmax
        rw [if_pos (by rw [i32_lt]; rw [i32_le] at c2; omega)]
theorem sim_joy {A B : Mm} (x : Int32) (h : RR A B) : Sim A B ((fK_joy x A).bind fun v => some (v, A)) (fM_joy x B) := by
  have h0 := h
  obtain ⟨⟨n, ⟨⟨m, r, hh, ⟨n1, n2, n3⟩, -, -⟩, hd, -⟩, -⟩, -⟩ := h0
  have n2' : A 2 0 = nI n := n2
  have m1 : mput B 217 0 0 217 6 = nI n := hd
  have hf : ∀ e, e < 12 → A 3 e = mput B 217 0 0 218 (18 + e) ∧ Fc (mput B 217 0 0 218 (18 + e)) := fun e he => by
    rw [mput_r (by omega)]
    exact ⟨(n3 e he).1, (n3 e he).2.2.2.2.1⟩
  unfold Sim fK_joy fM_joy
  simp only [isIn_eq, n2', m1]
  refine go_bind.mpr ?_
  by_cases hn0 : n = 0
  · subst hn0
    refine Go.yes (by first | rfl | (simp; done)) ?_
    refine Go.some ?_
    refine Go.some ?_
    refine Go.yes (by first | rfl | (simp; done)) ?_
    refine Go.some ?_
    exact ⟨rfl, fin_0 h⟩
  have nz : ¬ nI n = 0 := nI_ne0 (by omega) (by omega)
  refine Go.no (nz) ?_
  rcases within_nI1 x (a := 0) (b := 1) (by omega) (by omega) with ⟨q, t, -, t1, rfl⟩ | ⟨q, -⟩
  rotate_left
  · have q : fK_isWithin x 0 1 = 0 := q
    refine Go.yes (q) ?_
    refine Go.some ?_
    refine Go.some ?_
    refine Go.no (nz) ?_
    refine Go.yes (q) ?_
    refine Go.some ?_
    exact ⟨rfl, fin_0 h⟩
  have q : fK_isWithin (nI t) 0 1 = 1 := q
  refine Go.no (by rw [q]; decide) ?_
  refine go_bind.mpr ?_
  have L := go_for2 (f := fun s : Int32 × Int32 × Int32 => fY_joyOfRow_b9 (if nI t = 1 then (1 : Int32) else 0) A s.1 s.2.1 s.2.2) (g := fun s : Int32 × Int32 × Int32 => fM_joy_b34 (nI t) (mput B 217 0 0) s.1 s.2.1 s.2.2)
    (Q := fun y y' => y = y') (fun i s t => ∃ p q, s = (p.1, p.2, nI i) ∧ t = (q.1, q.2, nI i) ∧ JoS i p q) n ?_ ?_ (i := 0) (s := (-10, -1, 0)) (t := (-100000000, 0, 0)) (by omega) ⟨(-10, -1), (-100000000, 0), rfl, rfl, Or.inr ⟨rfl, rfl, rfl⟩⟩ (n := 1000000) (by omega)
  · obtain ⟨y, l1, y', l2, rfl⟩ := L
    unfold fY_joyOfRow
    rw [l1]
    refine go_bind.mpr ?_
    refine Go.some ?_
    have ht : t = 0 ∨ t = 1 := by omega
    rcases ht with rfl | rfl
    · refine Go.yes (by first | rfl | (simp; done)) ?_
      refine Go.some ?_
      refine Go.some ?_
      refine Go.some ?_
      refine Go.no (nz) ?_
      refine Go.no (by first | decide | (simp; done)) ?_
      refine go_bind.mpr ?_
      rw [l2]
      refine Go.some ?_
      refine Go.yes (by first | rfl | (simp; done)) ?_
      refine Go.some ?_
      exact ⟨rfl, fin_0 h⟩
    · refine Go.no (by first | decide | (simp; done)) ?_
      refine Go.some ?_
      refine Go.some ?_
      refine Go.some ?_
      refine Go.no (nz) ?_
      refine Go.no (by first | decide | (simp; done)) ?_
      refine go_bind.mpr ?_
      rw [l2]
      refine Go.some ?_
      refine Go.no (by first | decide | (simp; done)) ?_
      refine Go.some ?_
      exact ⟨rfl, fin_0 h⟩
  · rintro s t ⟨p, q, rfl, rfl, h1⟩
    unfold fY_joyOfRow_b9 fM_joy_b34
    dsimp only
    rw [n2', m1]
    refine Go.yes (i32_le.mpr (Int.le_refl _)) ?_
    refine Go.some ?_
    refine Go.yes (i32_le.mpr (Int.le_refl _)) ?_
    refine Go.some ?_
    rcases h1 with h1 | ⟨h1, -⟩
    · rw [h1]
    · omega
  · rintro i s t hi ⟨p, q, rfl, rfl, h1⟩
    obtain ⟨y, l1, y', l2, rfl⟩ := joy_in (if nI _ = 1 then (1 : Int32) else 0) (nI _) n1 hi n2' m1 hf p q h1
    unfold fY_joyOfRow_b9 fM_joy_b34
    dsimp only
    rw [n2', m1]
    refine Go.no (by rw [nI_le' (by omega) (by omega)]; omega) ?_
    refine go_bind.mpr ?_
    rw [l1]
    refine Go.some ?_
    refine Go.some ?_
    refine Go.no (by rw [nI_le' (by omega) (by omega)]; omega) ?_
    refine go_bind.mpr ?_
    rw [l2]
    refine Go.some ?_
    refine Go.some ?_
    exact ⟨y, y, by rw [nI_1], by rw [nI_1], Or.inl rfl⟩
/-! likely -/
theorem likely_eq {A B : Mm} {k : Nat} (hk : k < 7) (hA : ∀ j, j < 49 → A 143 j = B 248 j) : ∃ v, fI_likelyAnswer (nI k) A = some v ∧ fM_likelyOf (nI k) B = some v ∧ (v = -1 ∨ ∃ j, j < 7 ∧ v = nI j) := by
  have L := go_for2 (f := fun s : Int32 × Int32 × Int32 => fI_likelyAnswer_b8 (nI k) A s.1 s.2.1 s.2.2) (g := fun s : Int32 × Int32 => fM_likelyOf_b4 (nI k) B s.1 s.2)
    (Q := fun y y' => y = y' ∧ (y = -1 ∨ ∃ j, j < 7 ∧ y = nI j)) (fun i s t => ∃ be mo, s = (be, mo, nI i) ∧ t = (be, nI i) ∧ ((be = -1 ∧ mo = 0) ∨ ∃ j, j < 7 ∧ be = nI j ∧ mo = B 248 (k * 7 + j))) 7 ?_ ?_ (i := 0) (s := (-1, 0, 0)) (t := (-1, 0)) (by omega) ⟨-1, 0, rfl, rfl, Or.inl ⟨rfl, rfl⟩⟩ (n := 1000000) (by omega)
  · obtain ⟨y, l1, y', l2, rfl, l3⟩ := L
    refine ⟨y, ?_, ?_, l3⟩
    · unfold fI_likelyAnswer; rw [l1]; rfl
    · unfold fM_likelyOf; rw [l2]; rfl
  · rintro s t ⟨be, mo, rfl, rfl, h1⟩
    refine Go.yes (show (7 : Int32) ≤ nI 7 by decide) (Go.some (Go.yes (show (7 : Int32) ≤ nI 7 by decide) (Go.some ⟨rfl, ?_⟩)))
    rcases h1 with ⟨h1, -⟩ | ⟨j, j1, j2, -⟩
    · exact Or.inl h1
    · exact Or.inr ⟨j, j1, j2⟩
  · rintro i s t hi ⟨be, mo, rfl, rfl, h1⟩
    unfold fI_likelyAnswer_b8 fM_likelyOf_b4
    have i1 : ∀ j : Nat, nI k * 7 + nI j = nI (k * 7 + j) := fun j => by rw [lit_nI, nI_mul', nI_add]
    have i2 : ∀ j : Nat, 7 * nI k + nI j = nI (k * 7 + j) := fun j => by rw [lit_nI, nI_mul', nI_add, Nat.mul_comm]
    have ix : ∀ j, j < 7 → inb (nI (k * 7 + j)) 49 := fun j hj => (inb_nI (by omega)).mpr (by omega)
    have jx : ∀ j, j < 7 → jix (nI (k * 7 + j)) = k * 7 + j := fun j hj => jix_nI (by omega)
    simp only [i1, i2, jx i hi, hA (k * 7 + i) (by omega), nI_1]
    refine Go.no (by rw [lit_nI, nI_le' (by omega) (by omega)]; omega) ?_
    refine Go.gd (ix i hi) ?_
    refine Go.some ?_
    refine Go.no (by rw [lit_nI, nI_le' (by omega) (by omega)]; omega) ?_
    refine Go.gd (ix i hi) ?_
    refine Go.bind (P := fun y => y = mo) ?_ ?_
    · rcases h1 with ⟨rfl, rfl⟩ | ⟨j, j1, rfl, rfl⟩
      · refine Go.yes (by first | rfl | (simp; done)) ?_
        refine Go.some ?_
        rfl
      · rw [i2]
        refine Go.no (nI_neg1 (by omega)) ?_
        refine Go.gd (ix j j1) ?_
        refine Go.some ?_
        rw [jx j j1]
    · intro y hy
      rw [hy]
      refine Go.some ?_
      by_cases c : B 248 (k * 7 + i) ≤ mo
      · exact ⟨be, mo, by rw [if_pos c, if_pos c], by rw [if_pos c], h1⟩
      · exact ⟨nI i, B 248 (k * 7 + i), by rw [if_neg c, if_neg c], by rw [if_neg c], Or.inr ⟨i, hi, rfl, rfl⟩⟩
def pc7 (g : Nat) : Nat := (if g.testBit 0 then 1 else 0) + (if g.testBit 1 then 1 else 0) + (if g.testBit 2 then 1 else 0) + (if g.testBit 3 then 1 else 0) + (if g.testBit 4 then 1 else 0) + (if g.testBit 5 then 1 else 0) + (if g.testBit 6 then 1 else 0)
theorem pc7_or {g a : Nat} (hg : g < 128) (ha : a < 7) (h : ¬ g.testBit a = true) : pc7 (g ||| 2 ^ a) = pc7 g + 1 ∧ g ||| 2 ^ a < 128 := by
  have : ∀ g : Fin 128, ∀ a : Fin 7, ¬ g.val.testBit a.val = true → pc7 (g.val ||| 2 ^ a.val) = pc7 g.val + 1 ∧ g.val ||| 2 ^ a.val < 128 := by decide +kernel
  exact this ⟨g, hg⟩ ⟨a, ha⟩ h
theorem pc7_7 {g a : Nat} (hg : g < 128) (ha : a < 7) (h : pc7 g = 7) : g.testBit a = true := by
  have : ∀ g : Fin 128, ∀ a : Fin 7, pc7 g.val = 7 → g.val.testBit a.val = true := by decide +kernel
  exact this ⟨g, hg⟩ ⟨a, ha⟩ h
theorem follows_eq {A B : Mm} {k : Nat} (hk : k < 7) (hA : ∀ j, j < 49 → A 143 j = B 248 j) : ∃ v, fI_follows (nI k) A = some v ∧ fM_followsOf (nI k) B = some v := by
  obtain ⟨v0, e1, e2, e3⟩ := likely_eq hk hA
  unfold fI_follows fM_followsOf
  rw [e2]
  by_cases hv : v0 = -1
  · subst hv
    have st : lp 1000000 (fun s : Int32 × Int32 × Int32 => fI_follows_b8 A s.1 s.2.1 s.2.2) (0, nI k, 0) = some (.inr (.inl 0)) := by
      apply Go.eq
      refine go_lp (fun _ s => s = (0, nI k, 0)) ?_ 1000000 0 _ (by omega) rfl
      rintro _ s rfl
      unfold fI_follows_b8
      have b0 : ((0 : Int32) >>> (nI k &&& 31)) &&& 1 = nI (0 / 2 ^ k % 2) := bit_nI (g := 0) (by omega) (by omega)
      rw [Nat.zero_div] at b0
      dsimp only
      rw [b0, e1]
      refine Go.no (by first | decide | (simp; done)) ?_
      refine Go.no (by first | decide | (simp; done)) ?_
      refine go_bind.mpr ?_
      refine Go.some ?_
      refine Go.yes (by first | rfl | (simp; done)) ?_
      refine Go.some ?_
      rfl
    refine ⟨0, ?_, rfl⟩
    rw [st]; rfl
  have L := go_lp2 (f := fun s : Int32 × Int32 × Int32 => fI_follows_b8 A s.1 s.2.1 s.2.2) (g := fun s : Int32 × Int32 × Int32 => fM_followsOf_b18 B s.1 s.2.1 s.2.2)
    (Q := fun y y' => (∃ u, y = .inl u ∧ y' = .inr u) ∨ (∃ u, u ≠ 0 ∧ y = .inr (.inl u) ∧ y' = .inl ())) (fun l s t => ∃ i g a, l + i = 7 ∧ i ≤ 7 ∧ g < 128 ∧ pc7 g = i ∧ a < 7 ∧ (i = 0 → a = k) ∧ s = (nI g, nI a, nI i) ∧ t = (nI g, nI a, nI i)) ?_ 1000000 7 (0, nI k, 0) (0, nI k, 0) (by omega) ⟨0, 0, k, rfl, by omega, by omega, rfl, hk, fun _ => rfl, rfl, rfl⟩
  · obtain ⟨y, l1, y', l2, q⟩ := L
    rw [l1]
    dsimp only [Option.bind_some]
    rw [if_neg hv, l2]
    rcases q with ⟨u, rfl, rfl⟩ | ⟨u, u0, rfl, rfl⟩
    · exact ⟨u, rfl, rfl⟩
    · refine ⟨-1, ?_, rfl⟩
      dsimp only [Option.bind_some]
      rw [if_neg u0]
  · rintro l s t ⟨i, g, a, li, i7, hg, hp, ha, ha0, rfl, rfl⟩
    unfold fI_follows_b8 fM_followsOf_b18
    have b0 := bit_nI (g := g) (d := a) (by omega) (by omega)
    have lz := lies_nI (g := g) (d := a) (by omega) (by omega)
    dsimp only
    rw [b0, lz, shl_nI (show a < 31 by omega), or_nI, nI_1]
    refine Go.no (by rw [lit_nI, nI_lt' (by omega) (by omega)]; omega) ?_
    by_cases tb : g.testBit a = true
    · have e : g / 2 ^ a % 2 = 1 := by rw [tb_div] at tb; simpa using tb
      rw [e, if_pos tb]
      refine Go.yes (by first | rfl | (simp; done)) ?_
      refine Go.some ?_
      refine Go.no (by first | decide | (simp; done)) ?_
      refine Go.some ?_
      exact Or.inl ⟨nI i, rfl, rfl⟩
    · have e : g / 2 ^ a % 2 = 0 := by
        have : ¬ g / 2 ^ a % 2 = 1 := by rw [tb_div] at tb; simpa using tb
        omega
      obtain ⟨p1, p2⟩ := pc7_or hg ha tb
      have i6 : i ≠ 7 := fun q => tb (pc7_7 hg ha (by omega))
      obtain ⟨v, v1, v2, v3⟩ := likely_eq ha hA
      rw [e, if_neg tb]
      refine Go.no (by first | decide | (simp; done)) ?_
      refine go_bind.mpr ?_
      rw [v1]
      by_cases vn : v = -1
      · refine Go.some ?_
        refine Go.yes (vn) ?_
        refine Go.some ?_
        refine Go.yes (by first | rfl | (simp; done)) ?_
        refine go_bind.mpr ?_
        rw [v2]
        refine Go.some ?_
        refine Go.yes (vn) ?_
        refine Go.some ?_
        refine Or.inr ⟨nI i, ?_, rfl, rfl⟩
        intro z
        have i0 : i = 0 := by
          have : nI i = nI 0 := z
          exact (nI_eq' (by omega) (by omega)).mp this
        have := ha0 i0
        subst this
        rw [e1] at v1
        cases v1
        exact hv vn
      · refine Go.some ?_
        refine Go.no (vn) ?_
        refine Go.some ?_
        refine Go.yes (by first | rfl | (simp; done)) ?_
        refine go_bind.mpr ?_
        rw [v2]
        refine Go.some ?_
        refine Go.no (vn) ?_
        refine Go.some ?_
        rcases v3 with v3 | ⟨j, j1, rfl⟩
        · exact absurd v3 vn
        · refine ⟨l - 1, by omega, i + 1, g ||| 2 ^ a, j, by omega, by omega, p2, by omega, j1, fun z => by omega, rfl, rfl⟩
theorem sim_likely {A B : Mm} (x y : Int32) (h : RR A B) : Sim A B ((fK_likely x y A).bind fun v => some (v, A)) (fM_likely x y B) := by
  have h0 := h
  obtain ⟨-, -, ⟨-, -, -, -, ⟨-, -, hA⟩, -⟩, -⟩ := h0
  have hA' : ∀ j, j < 49 → A 143 j = mput B 217 0 0 248 j := fun j hj => by rw [mput_r (by omega)]; exact hA j hj
  unfold Sim fK_likely fM_likely
  simp only [isIn_eq, kind_some]
  rcases within_nI1 x (a := 0) (b := 6) (by omega) (by omega) with ⟨q, k, -, k6, rfl⟩ | ⟨q, -⟩
  rotate_left
  · have q : fK_isWithin x 0 6 = 0 := q
    refine go_bind.mpr ?_
    refine go_bind.mpr ?_
    refine Go.some ?_
    refine Go.yes (q) ?_
    refine Go.some ?_
    refine Go.some ?_
    refine Go.yes (q) ?_
    refine Go.some ?_
    exact ⟨rfl, fin_0 h⟩
  have q : fK_isWithin (nI k) 0 6 = 1 := q
  refine go_bind.mpr ?_
  refine go_bind.mpr ?_
  refine Go.some ?_
  refine Go.no (by rw [q]; decide) ?_
  rcases within_nI1 y (a := 0) (b := 1) (by omega) (by omega) with ⟨p, t, -, t1, rfl⟩ | ⟨p, -⟩
  rotate_left
  · have p : fK_isWithin y 0 1 = 0 := p
    refine Go.yes (p) ?_
    refine Go.some ?_
    refine Go.some ?_
    refine Go.no (by rw [q]; decide) ?_
    refine Go.yes (p) ?_
    refine Go.some ?_
    exact ⟨rfl, fin_0 h⟩
  have p : fK_isWithin (nI t) 0 1 = 1 := p
  refine Go.no (by rw [p]; decide) ?_
  have ht : t = 0 ∨ t = 1 := by omega
  rcases ht with rfl | rfl
  · obtain ⟨v, v1, v2, -⟩ := likely_eq (show k < 7 by omega) hA'
    refine Go.yes (by first | rfl | (simp; done)) ?_
    refine go_bind.mpr ?_
    rw [v1]
    refine Go.some ?_
    refine Go.some ?_
    refine Go.some ?_
    refine Go.no (by rw [q]; decide) ?_
    refine Go.no (by first | decide | (simp; done)) ?_
    refine Go.yes (by first | rfl | (simp; done)) ?_
    refine go_bind.mpr ?_
    rw [v2]
    refine Go.some ?_
    refine Go.some ?_
    exact ⟨rfl, fin_0 h⟩
  · obtain ⟨v, v1, v2⟩ := follows_eq (show k < 7 by omega) hA'
    refine Go.no (by first | decide | (simp; done)) ?_
    refine go_bind.mpr ?_
    rw [v1]
    refine Go.some ?_
    refine Go.some ?_
    refine Go.some ?_
    refine Go.no (by rw [q]; decide) ?_
    refine Go.no (by first | decide | (simp; done)) ?_
    refine Go.no (by first | decide | (simp; done)) ?_
    refine go_bind.mpr ?_
    rw [v2]
    refine Go.some ?_
    refine Go.some ?_
    exact ⟨rfl, fin_0 h⟩
end PmSmall2
