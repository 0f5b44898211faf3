section PmDay2
variable {β : Nat → Int32}
theorem or_nI (a b : Nat) : nI a ||| nI b = nI (a ||| b) := by
  apply Int32.toBitVec_inj.1
  show BitVec.ofNat 32 a ||| BitVec.ofNat 32 b = BitVec.ofNat 32 (a ||| b)
  apply BitVec.eq_of_getLsbD_eq
  intro i hi
  simp [hi]
theorem shl_nI {d : Nat} (hd : d < 31) : (1 : Int32) <<< (nI d &&& 31) = nI (2 ^ d) := by
  have : ∀ j : Fin 31, (1 : Int32) <<< (nI j.val &&& 31) = nI (2 ^ j.val) := by decide +kernel
  exact this ⟨d, hd⟩
theorem shr_nI {g d : Nat} (hg : g < 2147483648) (hd : d < 31) : nI g >>> (nI d &&& 31) = nI (g / 2 ^ d) := by
  have : ∀ j : Fin 31, ((nI j.val &&& 31).toBitVec.smod 32).toNat = j.val := by decide +kernel
  exact pk_shrN (by simpa using hg) _ d (this ⟨d, hd⟩)
theorem and1_nI {g : Nat} (hg : g < 2147483648) : nI g &&& 1 = nI (g % 2) := by
  have := pk_andN (n := g) (by omega) (m := 1) 1 (by decide)
  simpa using this
theorem bit_nI {g d : Nat} (hg : g < 2147483648) (hd : d < 31) : (nI g >>> (nI d &&& 31)) &&& 1 = nI (g / 2 ^ d % 2) := by
  rw [shr_nI hg hd, and1_nI (Nat.lt_of_le_of_lt (Nat.div_le_self _ _) hg)]
theorem tb_div (g d : Nat) : g.testBit d = decide (g / 2 ^ d % 2 = 1) := by
  rw [Nat.testBit_eq_decide_div_mod_eq]
theorem lies_nI {g d : Nat} (hg : g < 2147483648) (hd : d < 31) : fM_lies (nI g) (nI d) = if g.testBit d then 1 else 0 := by
  unfold fM_lies
  rw [bit_nI hg hd, tb_div]
  by_cases h : g / 2 ^ d % 2 = 1
  · rw [h]; rfl
  · have h2 : g / 2 ^ d % 2 = 0 := by omega
    rw [h2, if_neg (by decide)]; simp
theorem i32_addz {x y : Int32} (h : x + y = x) : y = 0 := by
  have h2 : x + y - x = x - x := by rw [h]
  rw [Int32.add_comm, Int32.add_sub_cancel, Int32.sub_self] at h2
  exact h2
/-- who got something on this round -/
def GR (w : Nat) (A B : Mm) (m : Nat) : Prop := ∃ (f : Nat → Nat) (g : Nat), g < 4096 ∧ B 217 40 = nI g ∧ ∀ e, e < 12 → A (w + 5) e = A (w + 6) e + nI (f e) ∧ f e + m ≤ 24 ∧ (g.testBit e = true ↔ 0 < f e)
theorem GR_step {w m d : Nat} {A B A' B' : Mm} (hm : m + 1 ≤ 24) (hd : d < 12) (h : GR w A B (m + 1)) (a5 : ∀ e, A' (w + 5) e = if e = d then A (w + 5) e + 1 else A (w + 5) e) (a6 : A' (w + 6) = A (w + 6)) (b : B' 217 40 = B 217 40 ||| (1 : Int32) <<< (nI d &&& 31)) : GR w A' B' m := by
  obtain ⟨f, g, g1, g2, g3⟩ := h
  refine ⟨fun e => if e = d then f e + 1 else f e, g ||| 2 ^ d, ?_, ?_, fun e he => ?_⟩
  · exact Nat.or_lt_two_pow (n := 12) g1 (Nat.pow_lt_pow_right (by omega) hd)
  · rw [b, g2, shl_nI (by omega), or_nI]
  · obtain ⟨q1, q2, q3⟩ := g3 e he
    rw [a5, a6, Nat.testBit_or, Nat.testBit_two_pow]
    by_cases ed : e = d
    · subst ed
      simp only [if_true]
      refine ⟨by rw [q1, ← nI_1, Int32.add_assoc], by omega, by simp⟩
    · have ed' : ¬ d = e := fun q => ed q.symm
      simp only [if_neg ed, decide_eq_false ed', Bool.or_false]
      exact ⟨q1, by omega, q3⟩
theorem visit_sim {A B : Mm} {w n m r h d : Nat} (hw : w = 1 ∨ w = 16) (hR : DR w β A B n m r h) (hd : d < 12) (hG : GR w A B m) :
    Go (fW_visit w (nI d) A) (fun p => Go (fM_walksTo (nI d) B) (fun q => p.1 = q.1 ∧ (∃ m' r' h', DR w β p.2 q.2 n m' r' h' ∧ GR w p.2 q.2 m' ∧ m' ≤ m) ∧ FB (mDA w) A p.2 ∧ (∀ c k, mDB c k = true → (c ≠ 217 ∨ k ≠ 40) → q.2 c k = B c k) ∧ q.2 218 9 = B 218 9)) := by
  have L := go_lp2 (f := fun s : Int32 × Int32 × Int32 × Mm => fW_visit_b14 w (nI d) s.1 s.2.1 s.2.2.1 s.2.2.2) (g := fun s : Int32 × Int32 × Mm => fM_walksTo_b4 (nI d) s.1 s.2.1 s.2.2)
    (Q := fun y y' => ∃ br A' B', y = (br, A') ∧ y' = (br, B') ∧ (∃ m' r' h', DR w β A' B' n m' r' h' ∧ GR w A' B' m' ∧ m' ≤ m) ∧ FB (mDA w) A A' ∧ (∀ c k, mDB c k = true → (c ≠ 217 ∨ k ≠ 40) → B' c k = B c k) ∧ B' 218 9 = B 218 9)
    (fun l s t => ∃ br i A' B' m' r' h', s = (br, nI i, nI l, A') ∧ t = (br, nI i, B') ∧ i + l = m' ∧ DR w β A' B' n m' r' h' ∧ GR w A' B' m' ∧ m' ≤ m ∧ FB (mDA w) A A' ∧ (∀ c k, mDB c k = true → (c ≠ 217 ∨ k ≠ 40) → B' c k = B c k) ∧ B' 218 9 = B 218 9) ?_ 1000000 m (0, 0, nI m, A) (0, 0, B) (by have := hR.2.1.1; omega) ⟨0, 0, A, B, m, r, h, rfl, rfl, by omega, hR, hG, Nat.le_refl _, fb_rfl _ _, fun _ _ _ _ => rfl, rfl⟩
  · obtain ⟨e, he, e', he', br, A', B', rfl, rfl, q1, q2, q3⟩ := L
    unfold fW_visit fM_walksTo
    dsimp only
    rw [show A (w + 7) 0 = nI m from hR.2.1.2.1, he]
    refine go_bind.mpr ?_
    refine Go.some ?_
    refine Go.some ?_
    refine go_bind.mpr ?_
    rw [he']
    refine Go.some ?_
    refine Go.some ?_
    exact ⟨rfl, q1, q2, q3⟩
  · rintro l s t ⟨br, i, A', B', m', r', h', rfl, rfl, hil, h1, h2, hmm, h3, h4, h9⟩
    have hm24 : m' ≤ 24 := h1.2.1.1
    have h10 : B' 218 10 = nI m' := h1.2.1.2.2.1
    unfold fW_visit_b14 fM_walksTo_b4
    cases l with
    | zero =>
      dsimp only
      refine Go.yes (by decide) ?_
      refine Go.some ?_
      refine Go.yes (by rw [h10, nI_le' (by omega) (by omega)]; omega) ?_
      refine Go.some ?_
      exact ⟨br, A', B', rfl, rfl, ⟨m', r', h', h1, h2, hmm⟩, h3, h4, h9⟩
    | succ l =>
      have hi : i < m' := by omega
      obtain ⟨l1, l2, l3, l4, l5, ⟨d', hd', ed⟩, -, -⟩ := h1.2.1.2.2.2.2 i hi
      have l2' : A' (w + 9) i = nI d' := l2.trans ed
      have ii : inb (nI i) 24 := (inb_nI (by omega)).mpr (by omega)
      have ji : jix (nI i) = i := jix_nI (by omega)
      have la : fM_letterAt (nI i) + 1 = nI (55 + 5 * i) := by
        unfold fM_letterAt
        rw [lit_nI, lit_nI, nI_mul', nI_add, nI_1]
        exact congrArg nI (by omega)
      have dO : fM_doorOf (nI i) B' = some (nI d') := by
        unfold fM_doorOf
        dsimp only
        rw [la, if_pos ((inb_nI (by omega)).mpr (by omega)), jix_nI (by omega), ed]
      have hS := h1.2.2.1
      obtain ⟨s1, s2, -, -, -, s6, s7, -, -, -, s11, -⟩ := hS
      have hl : fM_health B' = nI h' := by unfold fM_health; rw [s7]; exact health_nI s2
      have dec : nI (l + 1) + (-1) = nI l := pk_m1 l
      dsimp only
      simp only [ji, l2', dO, hl, s11, s6, dec, nI_1]
      have stay : ∃ k', k' < l + 1 ∧ ∃ br' i' A'' B'' m'' r'' h'', (br, nI (i + 1), nI l, A') = (br', nI i', nI k', A'') ∧ (br, nI (i + 1), B') = (br', nI i', B'') ∧ i' + k' = m'' ∧ DR w β A'' B'' n m'' r'' h'' ∧ GR w A'' B'' m'' ∧ m'' ≤ m ∧ FB (mDA w) A A'' ∧ (∀ c k, mDB c k = true → (c ≠ 217 ∨ k ≠ 40) → B'' c k = B c k) ∧ B'' 218 9 = B 218 9 :=
        ⟨l, by omega, br, i + 1, A', B', m', r', h', rfl, rfl, by omega, h1, h2, hmm, h3, h4, h9⟩
      refine Go.no (nI_nle (by omega) (by omega)) ?_
      refine Go.gd (ii) ?_
      refine go_bind.mpr ?_
      by_cases hdd : nI d' = nI d
      rotate_left
      · rw [if_neg hdd]
        refine Go.yes (by first | rfl | (simp; done)) ?_
        refine Go.some ?_
        refine Go.some ?_
        refine Go.no (by rw [h10, nI_le' (by omega) (by omega)]; omega) ?_
        refine go_bind.mpr ?_
        refine Go.some ?_
        refine go_bind.mpr ?_
        refine Go.no (hdd) ?_
        refine Go.some ?_
        refine Go.yes (by first | rfl | (simp; done)) ?_
        refine Go.some ?_
        exact stay
      rw [if_pos hdd]
      by_cases hh : 24 ≤ B' 218 3
      · rw [if_pos hh]
        refine Go.yes (by first | rfl | (simp; done)) ?_
        refine Go.some ?_
        refine Go.some ?_
        refine Go.no (by rw [h10, nI_le' (by omega) (by omega)]; omega) ?_
        refine go_bind.mpr ?_
        refine Go.some ?_
        refine go_bind.mpr ?_
        refine Go.yes (hdd) ?_
        refine Go.yes (hh) ?_
        refine Go.some ?_
        refine Go.yes (by first | rfl | (simp; done)) ?_
        refine Go.some ?_
        exact stay
      rw [if_neg hh]
      by_cases h0 : nI h' ≤ 0
      · rw [if_pos h0]
        refine Go.yes (by first | rfl | (simp; done)) ?_
        refine Go.some ?_
        refine Go.some ?_
        refine Go.no (by rw [h10, nI_le' (by omega) (by omega)]; omega) ?_
        refine go_bind.mpr ?_
        refine Go.some ?_
        refine go_bind.mpr ?_
        refine Go.yes (hdd) ?_
        refine Go.no (hh) ?_
        refine Go.yes (h0) ?_
        refine Go.some ?_
        refine Go.yes (by first | rfl | (simp; done)) ?_
        refine Go.some ?_
        exact stay
      rw [if_neg h0]
      obtain ⟨v, A2, B2, m2, r2, h2', z1, z2, z3, z4, z5, z6, z9⟩ := bring_sim hw h1 hi
      have a6 : A2 (w + 6) = A' (w + 6) := z5.row fun k => mDA_of (by omega) (by omega) (by omega) (by omega)
      have b40 : B2 217 40 = B' 217 40 := z6 217 40 rfl
      refine Go.no (by first | decide | (simp; done)) ?_
      refine go_bind.mpr ?_
      rw [z1]
      refine Go.some ?_
      dsimp only
      rcases z4 with ⟨rfl, rfl, z4⟩ | ⟨vn, vm, d2, hd2, ed2, z4⟩
      · refine Go.yes (by first | rfl | (simp; done)) ?_
        refine Go.some ?_
        refine Go.some ?_
        refine Go.no (by rw [h10, nI_le' (by omega) (by omega)]; omega) ?_
        refine go_bind.mpr ?_
        refine Go.some ?_
        refine go_bind.mpr ?_
        refine Go.yes (hdd) ?_
        refine Go.no (hh) ?_
        refine Go.no (h0) ?_
        refine go_bind.mpr ?_
        rw [z2]
        refine Go.some ?_
        refine Go.yes (by first | rfl | (simp; done)) ?_
        refine Go.some ?_
        refine Go.yes (by first | rfl | (simp; done)) ?_
        refine Go.some ?_
        refine ⟨l, by omega, br, i + 1, A2, B2, m2, r2, h2', rfl, rfl, by omega, z3, ?_, hmm, h3.trans z5, fun c k q1 q2 => by rw [z6 c k q1, h4 c k q1 q2], z9.trans h9⟩
        obtain ⟨f, g, g1, g2, g3⟩ := h2
        exact ⟨f, g, g1, by rw [b40]; exact g2, by rw [z4, a6]; exact g3⟩
      · have dd2 : d2 = d := by
          have : nI d2 = nI d := by rw [← ed2, ed]; exact hdd
          exact (nI_eq' (by omega) (by omega)).mp this
        subst dd2
        refine Go.no (vn) ?_
        refine Go.some ?_
        refine Go.some ?_
        refine Go.no (by rw [h10, nI_le' (by omega) (by omega)]; omega) ?_
        refine go_bind.mpr ?_
        refine Go.some ?_
        refine go_bind.mpr ?_
        refine Go.yes (hdd) ?_
        refine Go.no (hh) ?_
        refine Go.no (h0) ?_
        refine go_bind.mpr ?_
        rw [z2]
        refine Go.some ?_
        refine Go.no (vn) ?_
        refine Go.some ?_
        refine Go.no (by first | decide | (simp; done)) ?_
        refine Go.some ?_
        have fB2 : ∀ c k, (c ≠ 217 ∨ k ≠ 40) → mput B2 217 40 (B2 217 40 ||| (1 : Int32) <<< (nI d2 &&& 31)) c k = B2 c k := fun c k q => mput_q (by omega)
        refine ⟨l, by omega, br + 1, i, A2, _, m2, r2, h2', rfl, rfl, by omega, ?_, ?_, by omega, h3.trans z5, fun c k q1 q2 => by rw [fB2 c k q2, z6 c k q1, h4 c k q1 q2], by rw [mput_r (by omega)]; exact z9.trans h9⟩
        · obtain ⟨y1, y2, y3, y4, y5⟩ := z3
          have e218 : mput B2 217 40 (B2 217 40 ||| (1 : Int32) <<< (nI d2 &&& 31)) 218 = B2 218 := mput_r (by omega)
          have e221 : mput B2 217 40 (B2 217 40 ||| (1 : Int32) <<< (nI d2 &&& 31)) 221 = B2 221 := mput_r (by omega)
          refine ⟨by rw [e218, e221]; exact y1, by rw [e218]; exact y2, by rw [e218]; exact y3, Th_congr rfl rfl (fun _ => rfl) (fB2 217 5 (by omega)) (mput_r (by omega)) y4, RX_congr (fb_rfl _ _) (fb_put (fb_rfl _ _) rfl) y5⟩
        · subst vm
          exact GR_step (by omega) hd h2 z4 a6 (by rw [mput_same]; show B2 217 40 ||| _ = _; rw [b40])
end PmDay2
