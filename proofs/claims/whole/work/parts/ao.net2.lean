section PmNet2
theorem clr_nI {S k : Nat} (hk : k < 32) : nI S &&& (nI (2 ^ k) ^^^ (-1)) = nI (if S.testBit k = true then S - 2 ^ k else S) := by
  apply Int32.toBitVec_inj.1
  show BitVec.ofNat 32 S &&& (BitVec.ofNat 32 (2 ^ k) ^^^ BitVec.allOnes 32) = BitVec.ofNat 32 (if S.testBit k = true then S - 2 ^ k else S)
  apply BitVec.eq_of_getLsbD_eq
  intro i hi
  rw [BitVec.getLsbD_and, BitVec.getLsbD_xor, BitVec.getLsbD_ofNat, BitVec.getLsbD_ofNat, BitVec.getLsbD_ofNat, BitVec.getLsbD_allOnes, Nat.testBit_two_pow]
  simp only [decide_eq_true hi, Bool.true_and, Bool.xor_true]
  by_cases h : S.testBit k = true
  · rw [if_pos h, tb_sub h]
    congr 2
    exact decide_eq_decide.mpr ⟨Eq.symm, Eq.symm⟩
  · rw [if_neg h]
    by_cases e : k = i
    · subst e
      rw [Bool.eq_false_iff.mpr h]; rfl
    · rw [decide_eq_false e]; simp
theorem and_nI (a b : Nat) : nI a &&& nI b = nI (a &&& b) := by
  apply Int32.toBitVec_inj.1
  show BitVec.ofNat 32 a &&& BitVec.ofNat 32 b = BitVec.ofNat 32 (a &&& b)
  apply BitVec.eq_of_getLsbD_eq
  intro i hi
  simp [hi]
theorem sub_nI {U V : Nat} (hU : U < 2147483648) : nI U &&& (nI V ^^^ (-1)) = 0 ↔ SubB U V := by
  have bits : ∀ i, i < 32 → (nI U &&& (nI V ^^^ (-1))).toBitVec.getLsbD i = (U.testBit i && !V.testBit i) := by
    intro i hi
    show (BitVec.ofNat 32 U &&& (BitVec.ofNat 32 V ^^^ BitVec.allOnes 32)).getLsbD i = _
    rw [BitVec.getLsbD_and, BitVec.getLsbD_xor, BitVec.getLsbD_ofNat, BitVec.getLsbD_ofNat, BitVec.getLsbD_allOnes]
    simp only [decide_eq_true hi, Bool.true_and, Bool.xor_true]
  constructor
  · intro h i hi
    have l : i < 32 := by
      refine Classical.byContradiction fun q => ?_
      rw [Nat.testBit_lt_two_pow (Nat.lt_of_lt_of_le hU (show 2 ^ 31 ≤ 2 ^ i from Nat.pow_le_pow_right (by omega) (by omega)))] at hi
      cases hi
    have := bits i l
    rw [h, hi] at this
    have z : (0 : Int32).toBitVec.getLsbD i = false := by
      show (BitVec.ofNat 32 0).getLsbD i = false
      simp
    rw [z] at this
    cases e : V.testBit i
    · rw [e] at this; cases this
    · rfl
  · intro h
    apply Int32.toBitVec_inj.1
    apply BitVec.eq_of_getLsbD_eq
    intro i hi
    rw [bits i hi]
    have z : (0 : Int32).toBitVec.getLsbD i = false := by
      show (BitVec.ofNat 32 0).getLsbD i = false
      simp
    rw [z]
    cases e : U.testBit i
    · rfl
    · rw [h i e]; rfl
theorem lt12 {S p k : Nat} (hp : p ≤ 12) (h : S < 2 ^ p) (b : S.testBit k = true) : k < p := by
  refine Classical.byContradiction fun q => ?_
  rw [Nat.testBit_lt_two_pow (Nat.lt_of_lt_of_le h (Nat.pow_le_pow_right (by omega) (show p ≤ k by omega)))] at b
  cases b
theorem p12 {p : Nat} (hp : p ≤ 12) : 2 ^ p ≤ 4096 := (Nat.pow_le_pow_right (by omega) hp : 2 ^ p ≤ 2 ^ 12)
theorem netK_1 {A : Mm} {D : Nat → Int32} (hD : ∀ q, q < 12 → A 140 q = D q) : Go (lp 1000000 (fun s => fI_fewestPayments_b5 s.1 s.2.1 s.2.2) (0, 0, A)) (fun e => e.1 = nI (cq D 12) ∧ (∀ q, q < 12 → D q ≠ 0 → e.2 170 (cq D q) = D q) ∧ ∀ c, c ≠ 170 → e.2 c = A c) := by
  refine go_for (fun q st => ∃ A', st = (nI (cq D q), nI q, A') ∧ (∀ r, r < q → D r ≠ 0 → A' 170 (cq D r) = D r) ∧ ∀ c, c ≠ 170 → A' c = A c) 12 ?_ ?_ (i := 0) (by omega) ⟨A, rfl, fun r hr => by omega, fun _ _ => rfl⟩ (by omega)
  · rintro st ⟨A', rfl, h, fr⟩
    unfold fI_fewestPayments_b5
    dsimp only
    exact Go.yes (by decide) (Go.some ⟨rfl, h, fr⟩)
  · rintro q st hq ⟨A', rfl, h, fr⟩
    unfold fI_fewestPayments_b5
    dsimp only
    have cl := cq_le D q
    have i12 : inb (nI q) 12 := (inb_nI (by omega)).mpr (by omega)
    refine Go.no (by rw [(lit_nI _ : (12 : Int32) = nI 12), nI_le' (by omega) (by omega)]; omega) ?_
    refine Go.gd (i12) ?_
    refine go_bind.mpr ?_
    simp only [jix_nI (show q < 2147483648 by omega), fr 140 (by omega), hD q hq]
    by_cases z : D q = 0
    · refine Go.yes (z) ?_
      refine Go.some ?_
      refine Go.some ?_
      dsimp only
      rw [nI_1]
      refine ⟨A', by rw [cq_1, if_pos z]; rfl, fun r hr hz => ?_, fr⟩
      by_cases e : r = q
      · subst e; exact absurd z hz
      · exact h r (by omega) hz
    · refine Go.no (z) ?_
      refine Go.gd (i12) ?_
      refine Go.gd ((inb_nI (by omega)).mpr (by omega)) ?_
      refine Go.some ?_
      refine Go.some ?_
      dsimp only
      rw [nI_1, nI_1, jix_nI (by omega)]
      refine ⟨_, by rw [cq_1, if_neg z], fun r hr hz => ?_, fun c hc => by rw [mput_r hc]; exact fr c hc⟩
      by_cases e : r = q
      · subst e; rw [mput_same]
      · rw [mput_s (by have := cq_lt (D := D) (show r < q by omega) hz; omega)]; exact h r (by omega) hz
theorem netK_in {A : Mm} {E : Nat → Int32} {g : Nat → Nat} {p S : Nat} (hp : p ≤ 12) (hS : S < 2 ^ p) (h1 : 1 ≤ S) (h8 : ¬ A 0 8 = 0) (hE : ∀ k, k < p → A 170 k = E k) (hg : ∀ S', S' < S → A 252 S' = ms E S' p ∧ A 252 (4096 + S') = nI (g S') ∧ g S' ≤ S') :
    Go (fI_groupUp (nI S) (nI p) A) (fun A' => A' 252 S = ms E S p ∧ A' 252 (4096 + S) = nI (mx g S p + (if ms E S p = 0 then 1 else 0)) ∧ (∀ j, j ≠ S → j ≠ 4096 + S → A' 252 j = A 252 j) ∧ ∀ c, c ≠ 252 → A' c = A c) := by
  have s4 := p12 hp
  unfold fI_groupUp
  refine Go.bind (P := fun e => e = (ms E S p, nI (mx g S p))) ?_ ?_
  · refine go_for (fun k st => ∃ x, st = (x, nI (mx g S k), nI k) ∧ (x = ms E S p ∨ ∀ j, j < k → ¬ S.testBit j = true)) p ?_ ?_ (i := 0) (by omega) ⟨0, rfl, Or.inr fun j hj => by omega⟩ (by omega)
    · rintro st ⟨x, rfl, hx⟩
      unfold fI_groupUp_b9
      dsimp only
      refine Go.yes (i32_le.mpr (Int.le_refl _)) (Go.some ?_)
      rcases hx with rfl | hx
      · rfl
      · exfalso
        have : S = 0 := by
          apply Nat.eq_of_testBit_eq
          intro i
          rw [Nat.zero_testBit]
          refine Bool.eq_false_iff.mpr fun b => hx i (lt12 hp hS b) b
        omega
    · rintro k st hk ⟨x, rfl, hx⟩
      unfold fI_groupUp_b9
      dsimp only
      have ml := mx_le (f := g) h1 (fun U j b e => by have := tb_ge b; have := p2p j; exact (hg U (by omega)).2.2) k
      rw [shl_nI (by omega), clr_nI (by omega), nI_1]
      refine Go.no (by rw [nI_le' (by omega) (by omega)]; omega) ?_
      refine go_bind.mpr ?_
      by_cases b : S.testBit k = true
      · have ge := tb_ge b
        have pk := p2p k
        obtain ⟨g1, g2, g3⟩ := hg (S - 2 ^ k) (by omega)
        have e4 : 4096 + nI (S - 2 ^ k) = nI (4096 + (S - 2 ^ k)) := nI_add 4096 _
        rw [if_pos b, e4, jix_nI (show S - 2 ^ k < 2147483648 by omega), jix_nI (show 4096 + (S - 2 ^ k) < 2147483648 by omega), jix_nI (show k < 2147483648 by omega), g1, g2, hE k hk, jmax_nI (by omega) (by omega)]
        refine Go.no (by rw [nI_eq' (by omega) (by omega)]; omega) ?_
        refine Go.gd (⟨h8, (inb_nI (by omega)).mpr (by omega)⟩) ?_
        refine Go.gd ((inb_nI (by omega)).mpr (by omega)) ?_
        refine Go.gd (⟨h8, (inb_nI (by omega)).mpr (by omega)⟩) ?_
        refine Go.some ?_
        refine Go.some ?_
        dsimp only
        refine ⟨_, by rw [mx_1, if_pos b], Or.inl ?_⟩
        have := ms_sub (E := E) b p
        rw [if_pos hk] at this
        exact this
      · rw [if_neg b]
        refine Go.yes (rfl) ?_
        refine Go.some ?_
        refine Go.some ?_
        dsimp only
        refine ⟨x, by rw [mx_1, if_neg b], hx.imp id fun q j hj => ?_⟩
        by_cases e : j = k
        · subst e; exact b
        · exact q j (by omega)
  · rintro e rfl
    dsimp only
    have e4 : 4096 + nI S = nI (4096 + S) := nI_add 4096 _
    rw [e4, jix_nI (show S < 2147483648 by omega), jix_nI (show 4096 + S < 2147483648 by omega), nI_1]
    have i1 : inb (nI (4096 + S)) 10025 := (inb_nI (by omega)).mpr (by omega)
    have g8 : ¬ mput A 252 S (ms E S p) 0 8 = 0 := by rw [mput_r (by omega)]; exact h8
    refine Go.gd (⟨h8, (inb_nI (by omega)).mpr (by omega)⟩) ?_
    by_cases z : ms E S p = 0
    · refine Go.yes (z) ?_
      refine Go.gd (⟨g8, i1⟩) ?_
      refine Go.some ?_
      refine ⟨by rw [mput_s (by omega), mput_same], by rw [mput_same, if_pos z], fun j j1 j2 => by rw [mput_s j2, mput_s j1], fun c hc => by rw [mput_r hc, mput_r hc]⟩
    · refine Go.no (z) ?_
      refine Go.gd (⟨g8, i1⟩) ?_
      refine Go.some ?_
      refine ⟨by rw [mput_s (by omega), mput_same], by rw [mput_same, if_neg z]; rfl, fun j j1 j2 => by rw [mput_s j2, mput_s j1], fun c hc => by rw [mput_r hc, mput_r hc]⟩
theorem netK {A : Mm} {D : Nat → Int32} (hD : ∀ q, q < 12 → A 140 q = D q) (h8 : ¬ A 0 8 = 0) :
    Go (fI_fewestPayments A) (fun y => ∃ g E, nR E (cq D 12) g (2 ^ cq D 12) ∧ (∀ q, q < 12 → D q ≠ 0 → E (cq D q) = D q) ∧ y.1 = nI (cq D 12) - nI (g (2 ^ cq D 12 - 1)) ∧ ∀ c, c ≠ 170 → c ≠ 252 → y.2 c = A c) := by
  have hp := cq_le D 12
  have s4 := p12 hp
  have pp := p2p (cq D 12)
  unfold fI_fewestPayments
  refine Go.bind (netK_1 hD) ?_
  rintro ⟨e1, A1⟩ ⟨rfl, hE, fr1⟩
  dsimp only at hE fr1 ⊢
  have g8 : ¬ A1 0 8 = 0 := by rw [fr1 0 (by omega)]; exact h8
  have g9 : ¬ mput A1 252 (jix 0) 0 0 8 = 0 := by rw [mput_r (by omega)]; exact g8
  refine Go.gd (⟨g8, by decide⟩) ?_
  refine Go.gd (⟨g9, by decide⟩) ?_
  rw [shl_nI (by omega)]
  refine Go.bind (P := fun A' => ∃ g, nR (A1 170) (cq D 12) g (2 ^ cq D 12) ∧ (∀ S', S' < 2 ^ cq D 12 → A' 252 (4096 + S') = nI (g S')) ∧ ∀ c, c ≠ 252 → A' c = A1 c) ?_ ?_
  rotate_left
  · rintro A' ⟨g, g1, g2, fr⟩
    have e1 : 4096 + nI (2 ^ cq D 12) - 1 = nI (4096 + (2 ^ cq D 12 - 1)) := by
      rw [(lit_nI _ : (4096 : Int32) = nI 4096), nI_add, (lit_nI _ : (1 : Int32) = nI 1), nI_sub' (by omega)]; exact congrArg nI (by omega)
    rw [e1]
    refine Go.gd (⟨by rw [fr 0 (by omega)]; exact g8, (inb_nI (by omega)).mpr (by omega)⟩) ?_
    refine Go.some ?_
    rw [jix_nI (by omega), g2 _ (by omega)]
    exact ⟨g, A1 170, g1, hE, rfl, fun c h1 h2 => by dsimp only; rw [fr c h2]; exact fr1 c h1⟩
  have f9 : ∀ c, c ≠ 252 → mput (mput A1 252 (jix 0) 0) 252 (jix 4096) 0 c = A1 c := fun c hc => by rw [mput_r hc, mput_r hc]
  have z0 : ms (A1 170) 0 (cq D 12) = 0 := by
    have : ∀ k, ms (A1 170) 0 k = 0 := by
      intro k
      induction k with
      | zero => rfl
      | succ k ih => rw [ms_1, ih, if_neg (by rw [Nat.zero_testBit]; decide)]
    exact this _
  refine go_for (fun S st => 1 ≤ S ∧ ∃ g A', st = (nI S, A') ∧ nR (A1 170) (cq D 12) g S ∧ (∀ S', S' < S → A' 252 S' = ms (A1 170) S' (cq D 12) ∧ A' 252 (4096 + S') = nI (g S') ∧ g S' ≤ S') ∧ ∀ c, c ≠ 252 → A' c = A1 c) (2 ^ cq D 12) ?_ ?_ (i := 1) (by omega) ⟨Nat.le_refl _, fun _ => 0, _, rfl, fun S hS => ?_, fun S hS => ?_, f9⟩ (by omega)
  · rintro st ⟨-, g, A', rfl, g1, g2, fr⟩
    unfold fI_fewestPayments_b57
    dsimp only
    rw [shl_nI (by omega)]
    exact Go.yes (i32_le.mpr (Int.le_refl _)) (Go.some ⟨g, g1, fun S' hS' => (g2 S' hS').2.1, fr⟩)
  · rintro S st hS ⟨h1, g, A', rfl, g1, g2, fr⟩
    unfold fI_fewestPayments_b57
    dsimp only
    rw [shl_nI (by omega), nI_1]
    refine Go.no (by rw [nI_le' (by omega) (by omega)]; omega) ?_
    refine Go.bind (netK_in (E := A1 170) (g := g) hp hS h1 (by rw [fr 0 (by omega)]; exact g8) (fun k hk => by rw [fr 170 (by omega)]) g2) ?_
    rintro A2 ⟨a1, a2, a3, a4⟩
    refine Go.some ?_
    have gS : ∀ U, U < S → (fun U => if U = S then mx g S (cq D 12) + (if ms (A1 170) S (cq D 12) = 0 then 1 else 0) else g U) U = g U := fun U hU => if_neg (by omega)
    have ml := mx_le (f := g) h1 (fun U j b e => by have := tb_ge b; have := p2p j; exact (g2 U (by omega)).2.2) (cq D 12)
    refine ⟨by omega, fun U => if U = S then mx g S (cq D 12) + (if ms (A1 170) S (cq D 12) = 0 then 1 else 0) else g U, A2, rfl, fun U hU => ?_, fun U hU => ?_, fun c hc => by rw [a4 c hc]; exact fr c hc⟩
    · by_cases e : U = S
      · subst e
        rw [mx_congr gS]
        dsimp only
        rw [if_pos rfl, if_neg (show ¬ U = 0 by omega)]
      · rw [mx_congr (fun W hW => gS W (by omega)), gS U (by omega)]; exact g1 U (by omega)
    · by_cases e : U = S
      · subst e
        dsimp only
        rw [if_pos rfl]
        refine ⟨a1, a2, ?_⟩
        split <;> omega
      · rw [gS U (by omega), a3 U (by omega) (by omega), a3 (4096 + U) (by omega) (by omega)]
        exact g2 U (by omega)
  · have : S = 0 := by omega
    subst this
    rfl
  · have : S = 0 := by omega
    subst this
    dsimp only
    rw [z0]
    exact ⟨by rw [show jix 4096 = 4096 from rfl, mput_s (by omega)]; exact mput_same _ _ _ _, mput_same _ _ _ _, by omega⟩
end PmNet2
