section PmFaces3
theorem chg_nI {c l : Nat} (hc : c < 4096) (hl : l < 6) : fM_changeUp (nI c) (nI l) = nI (c / 4 ^ l % 4) := by
  unfold fM_changeUp
  have e : (2 : Int32) * nI l = nI (2 * l) := by rw [(lit_nI _ : (2 : Int32) = nI 2), nI_mul']
  have e4 : 4 ^ l = 2 ^ (2 * l) := by rw [Nat.pow_mul]
  rw [e, shr_nI (by omega) (by omega), e4]
  exact pk_andN (by have := Nat.div_le_self c (2 ^ (2 * l)); omega) 2 (by decide)
theorem sm_bit_le (c a : Nat) : ∀ n, sm (fun l => c / 4 ^ l % 4 * (a / 2 ^ l % 2)) n ≤ 3 * n ∧ sm (fun l => a / 2 ^ l % 2) n ≤ n
  | 0 => ⟨Nat.le_refl _, Nat.le_refl _⟩
  | n + 1 => by
    obtain ⟨h1, h2⟩ := sm_bit_le c a n
    rw [sm_1, sm_1]
    have h3 := dig_lt c n
    have : c / 4 ^ n % 4 * (a / 2 ^ n % 2) ≤ 3 * 1 := Nat.mul_le_mul (by omega) (by omega)
    omega
theorem canBe_in {B : Mm} {a c i : Nat} (hc : c < 4096) (hi : i < 8) (ha : B 249 i = nI a) (ha2 : a < 64) :
    Go (lp 1000000 (fun s => fM_canBe_b15 (nI c) (nI i) B s.1 s.2) (0, 0)) (fun y => y.toInt = ((sm (fun l => c / 4 ^ l % 4 * (a / 2 ^ l % 2)) 6 : Nat) : Int) - ((pc6 a : Nat) : Int)) := by
  refine go_for (fun l st => ∃ y, st = (y, nI l) ∧ y.toInt = ((sm (fun l => c / 4 ^ l % 4 * (a / 2 ^ l % 2)) l : Nat) : Int) - ((sm (fun l => a / 2 ^ l % 2) l : Nat) : Int)) 6 ?_ ?_ (i := 0) (by omega) ⟨0, rfl, rfl⟩ (by omega)
  · rintro st ⟨y, rfl, hy⟩
    unfold fM_canBe_b15
    dsimp only
    exact Go.yes (by decide) (Go.some hy)
  · rintro l st hl ⟨y, rfl, hy⟩
    unfold fM_canBe_b15
    dsimp only
    have b := sm_bit_le c a l
    have d4 := dig_lt c l
    refine Go.no (by rw [(lit_nI _ : (6 : Int32) = nI 6), nI_le' (by omega) (by omega)]; omega) ?_
    refine Go.gd ((inb_nI (by omega)).mpr hi) ?_
    rw [jix_nI (by omega), ha, lies_nI (by omega) (by omega), chg_nI hc hl, nI_1, tb_div]
    refine go_bind.mpr ?_
    by_cases e : a / 2 ^ l % 2 = 1
    · refine Go.no (by rw [if_pos (by simp only [e]; decide)]; decide) ?_
      refine Go.some ?_
      refine Go.some ?_
      refine ⟨_, rfl, ?_⟩
      have t1 : (y + nI (c / 4 ^ l % 4)).toInt = y.toInt + ((c / 4 ^ l % 4 : Nat) : Int) := by
        rw [i32_add (by rw [nI_toInt' (by omega)]; omega) (by rw [nI_toInt' (by omega)]; omega), nI_toInt' (by omega)]
      have t2 : (1 : Int32).toInt = 1 := by decide
      rw [i32_sub (by omega) (by omega), t1, t2, hy, sm_1, sm_1, e, Nat.mul_one]
      omega
    · have e0 : a / 2 ^ l % 2 = 0 := by omega
      refine Go.yes (by rw [if_neg (by simp only [e0]; decide)]) ?_
      refine Go.some ?_
      refine Go.some ?_
      refine ⟨_, rfl, ?_⟩
      rw [hy, sm_1, sm_1, e0, Nat.mul_zero]; rfl
theorem canBe_eq {B : Mm} {a : Nat → Nat} {z : Nat → Int} {p c : Nat} (hc : c < 4096) (hp : p ≤ 8) (h9 : B 217 57 = nI p) (ha : ∀ i, i < p → B 249 i = nI (a i) ∧ a i < 64) (hz : ∀ i, i < p → (B 250 i).toInt = z i) : fM_canBe (nI c) B = some (if fOK a z p c = true then 1 else 0) := by
  refine Go.eq ?_
  unfold fM_canBe
  refine Go.bind (P := fun e => (e = Sum.inl () ∧ ¬ fOK a z p c = true) ∨ (e = Sum.inr () ∧ fOK a z p c = true)) ?_ ?_
  · refine go_for (fun i s => s = nI i ∧ ∀ i', i' < i → ((sm (fun l => c / 4 ^ l % 4 * (a i' / 2 ^ l % 2)) 6 : Nat) : Int) - ((pc6 (a i') : Nat) : Int) = z i') p ?_ ?_ (i := 0) (by omega) ⟨rfl, fun i hi => by omega⟩ (by omega)
    · rintro s ⟨rfl, h⟩
      unfold fM_canBe_b2
      exact Go.yes (by rw [h9]; exact i32_le.mpr (Int.le_refl _)) (Go.some (Or.inr ⟨rfl, decide_eq_true h⟩))
    · rintro i s hi ⟨rfl, h⟩
      unfold fM_canBe_b2
      obtain ⟨a1, a2⟩ := ha i hi
      obtain ⟨y, y1, y2⟩ := canBe_in (B := B) hc (show i < 8 by omega) a1 a2
      refine Go.no (by rw [h9, nI_le' (by omega) (by omega)]; omega) ?_
      refine go_bind.mpr ?_
      refine ⟨y, y1, ?_⟩
      refine Go.gd ((inb_nI (by omega)).mpr (by omega)) ?_
      rw [jix_nI (by omega), nI_1]
      refine Go.ite (fun q => Go.some ⟨rfl, fun i' hi' => ?_⟩) (fun q => Go.some (Or.inl ⟨rfl, fun k => q ?_⟩))
      · by_cases e : i' = i
        · subst e; rw [← y2, ← hz i' hi, q]
        · exact h i' (by omega)
      · apply i32_eq.mpr
        rw [y2, hz i hi]
        exact of_decide_eq_true k i hi
  · rintro e (⟨rfl, h⟩ | ⟨rfl, h⟩)
    · refine Go.some ?_
      rw [if_neg h]
    · refine Go.some ?_
      rw [if_pos h]
theorem kinds_eq {c : Nat} (hc : c < 4096) : fM_kindsFor (nI c) = some (nI (fk4 6 c)) := by
  refine Go.eq ?_
  unfold fM_kindsFor
  refine Go.bind (P := fun e => e = nI (fk4 6 c)) ?_ (fun e he => Go.some he)
  refine go_for (fun l st => ∃ q, st = (nI q, nI l) ∧ q * fk4 (6 - l) (c / 4 ^ l) = fk4 6 c) 6 ?_ ?_ (i := 0) (by omega) ⟨1, rfl, by rw [Nat.one_mul, Nat.pow_zero, Nat.div_one]⟩ (by omega)
  · rintro st ⟨q, rfl, hq⟩
    unfold fM_kindsFor_b4
    dsimp only
    refine Go.yes (by decide) (Go.some (congrArg nI ?_))
    rw [← hq]; exact (Nat.mul_one q).symm
  · rintro l st hl ⟨q, rfl, hq⟩
    unfold fM_kindsFor_b4
    dsimp only
    have e : fk4 (6 - l) (c / 4 ^ l) = w4 (c / 4 ^ l % 4) * fk4 (6 - (l + 1)) (c / 4 ^ (l + 1)) := by
      rw [show 6 - l = (6 - (l + 1)) + 1 by omega, Nat.pow_succ, ← Nat.div_div_eq_div_mul]; rfl
    rw [e, ← Nat.mul_assoc] at hq
    have d4 := dig_lt c l
    refine Go.no (by rw [(lit_nI _ : (6 : Int32) = nI 6), nI_le' (by omega) (by omega)]; omega) ?_
    rw [chg_nI hc hl, nI_1]
    refine go_bind.mpr ?_
    generalize c / 4 ^ l % 4 = d at *
    have hd : d = 0 ∨ d = 1 ∨ d = 2 ∨ d = 3 := by omega
    have t : ∀ u : Nat, u = w4 d → ∃ q', ((nI q * nI u, nI (l + 1)) : Int32 × Int32) = (nI q', nI (l + 1)) ∧ q' * fk4 (6 - (l + 1)) (c / 4 ^ (l + 1)) = fk4 6 c := by
      rintro u rfl
      exact ⟨q * w4 d, by rw [nI_mul'], hq⟩
    rcases hd with rfl | rfl | rfl | rfl
    · refine Go.yes (by first | rfl | (simp; done)) ?_
      refine Go.some ?_
      refine Go.some ?_
      exact t 3 rfl
    · refine Go.no (by decide) ?_
      refine Go.yes (by first | rfl | (simp; done)) ?_
      refine Go.some ?_
      refine Go.some ?_
      exact t 2 rfl
    · refine Go.no (by decide) ?_
      refine Go.no (by decide) ?_
      refine Go.some ?_
      refine Go.some ?_
      exact t 1 rfl
    · refine Go.no (by decide) ?_
      refine Go.no (by decide) ?_
      refine Go.some ?_
      refine Go.some ?_
      exact t 1 rfl
theorem xor_nI (a b : Nat) : nI a ^^^ nI b = nI (a ^^^ b) := by
  apply Int32.toBitVec_inj.1
  show BitVec.ofNat 32 a ^^^ BitVec.ofNat 32 b = BitVec.ofNat 32 (a ^^^ b)
  apply BitVec.eq_of_getLsbD_eq
  intro i hi
  simp [hi]
/-- what is known of the first that fits, and of how the others differ -/
def fFD (ok : Nat → Bool) (i : Nat) (f y : Int32) : Prop := (f = -1 ∧ y = 0 ∧ ∀ c, c < i → ¬ ok c = true) ∨ ∃ f0 y0, f0 < i ∧ ok f0 = true ∧ f = nI f0 ∧ y = nI y0 ∧ y0 < 4096 ∧ ∀ j, y0.testBit j = true ↔ ∃ c, c < i ∧ ok c = true ∧ c.testBit j ≠ f0.testBit j
theorem facM {B : Mm} {ok : Nat → Bool} (x : Int32) (h : ∀ c, c < 4096 → fM_canBe (nI c) B = some (if ok c = true then 1 else 0)) :
    Go (lp 1000000 (fun s => fM_faces_b27 x B s.1 s.2.1 s.2.2.1 s.2.2.2) (0, (-1), 0, 0)) (fun e => e.1 = nI (sm (fun c => if ok c = true then fk4 6 c else 0) 4096) ∧ fFD ok 4096 e.2.1 e.2.2) := by
  refine go_for (fun i st => ∃ f y, st = (nI (sm (fun c => if ok c = true then fk4 6 c else 0) i), f, y, nI i) ∧ fFD ok i f y) 4096 ?_ ?_ (i := 0) (by omega) ⟨-1, 0, rfl, Or.inl ⟨rfl, rfl, fun c hc => by omega⟩⟩ (by omega)
  · rintro st ⟨f, y, rfl, hf⟩
    unfold fM_faces_b27
    dsimp only
    exact Go.yes (by decide) (Go.some ⟨rfl, hf⟩)
  · rintro i st hi ⟨f, y, rfl, hf⟩
    unfold fM_faces_b27
    dsimp only
    refine Go.no (by rw [(lit_nI _ : (4096 : Int32) = nI 4096), nI_le' (by omega) (by omega)]; omega) ?_
    refine go_bind.mpr ?_
    rw [h i hi, nI_1]
    refine Go.some ?_
    refine go_bind.mpr ?_
    by_cases e : ok i = true
    · refine Go.no (by rw [if_pos e]; decide) ?_
      refine go_bind.mpr ?_
      rw [kinds_eq hi]
      refine Go.some ?_
      refine Go.some ?_
      refine Go.some ?_
      dsimp only
      rw [nI_add]
      refine ⟨if f = -1 then nI i else f, y ||| (nI i ^^^ (if f = -1 then nI i else f)), by rw [sm_1, if_pos e], ?_⟩
      rcases hf with ⟨h1, h2, h3⟩ | ⟨f0, y0, h1, h2, h3, h4, h5, h6⟩
      · rw [if_pos h1, h2, xor_nI, Nat.xor_self]
        refine Or.inr ⟨i, 0, by omega, e, rfl, by decide, by omega, fun j => ?_⟩
        rw [Nat.zero_testBit]
        refine ⟨fun q => absurd q (by decide), ?_⟩
        rintro ⟨c, c1, c2, c3⟩
        by_cases q : c = i
        · subst q; exact absurd rfl c3
        · exact absurd c2 (h3 c (by omega))
      · rw [h3, if_neg (nI_neg1 (by omega)), h4, xor_nI, or_nI]
        refine Or.inr ⟨f0, _, by omega, h2, rfl, rfl, Nat.or_lt_two_pow (n := 12) h5 (Nat.xor_lt_two_pow (n := 12) hi (by show f0 < 4096; omega)), fun j => ?_⟩
        rw [Nat.testBit_or, Nat.testBit_xor, Bool.or_eq_true, h6 j, bne_iff_ne]
        constructor
        · rintro (⟨c, c1, c2, c3⟩ | q)
          · exact ⟨c, by omega, c2, c3⟩
          · exact ⟨i, by omega, e, q⟩
        · rintro ⟨c, c1, c2, c3⟩
          by_cases q : c = i
          · subst q; exact Or.inr c3
          · exact Or.inl ⟨c, by omega, c2, c3⟩
    · refine Go.yes (by rw [if_neg e]) ?_
      refine Go.some ?_
      refine Go.some ?_
      dsimp only
      refine ⟨f, y, by rw [sm_1, if_neg e]; rfl, ?_⟩
      rcases hf with ⟨h1, h2, h3⟩ | ⟨f0, y0, h1, h2, h3, h4, h5, h6⟩
      · refine Or.inl ⟨h1, h2, fun c hc => ?_⟩
        by_cases q : c = i
        · subst q; exact e
        · exact h3 c (by omega)
      · refine Or.inr ⟨f0, y0, by omega, h2, h3, h4, h5, fun j => ?_⟩
        rw [h6 j]
        constructor
        · rintro ⟨c, c1, c2, c3⟩; exact ⟨c, by omega, c2, c3⟩
        · rintro ⟨c, c1, c2, c3⟩
          by_cases q : c = i
          · subst q; exact absurd c2 e
          · exact ⟨c, by omega, c2, c3⟩
def msk (P : Nat → Bool) : Nat → Nat
  | 0 => 0
  | l + 1 => if P l = true then msk P l ||| 2 ^ l else msk P l
theorem msk_congr {P Q : Nat → Bool} : ∀ {n}, (∀ l, l < n → P l = Q l) → msk P n = msk Q n
  | 0, _ => rfl
  | n + 1, h => by
    show (if P n = true then msk P n ||| 2 ^ n else msk P n) = (if Q n = true then msk Q n ||| 2 ^ n else msk Q n)
    rw [msk_congr (fun l hl => h l (by omega)), h n (by omega)]
theorem sureK {M : Mm} {x : Nat → Nat} (hx : f172 M x) : lp 1000000 (fun s => fI_sureLetters_b10 M s.1 s.2) (0, 0) = some (nI (msk (fun l => decide (fJ_bitCount_0f7a4 (nI (x l)) = 1)) 6)) := by
  refine Go.eq ?_
  refine go_for (fun l st => st = (nI (msk (fun l => decide (fJ_bitCount_0f7a4 (nI (x l)) = 1)) l), nI l)) 6 ?_ ?_ (i := 0) (by omega) rfl (by omega)
  · rintro st rfl
    unfold fI_sureLetters_b10
    dsimp only
    exact Go.yes (by decide) (Go.some rfl)
  · rintro l st hl rfl
    unfold fI_sureLetters_b10
    dsimp only
    refine Go.no (by rw [(lit_nI _ : (6 : Int32) = nI 6), nI_le' (by omega) (by omega)]; omega) ?_
    refine Go.gd ((inb_nI (by omega)).mpr hl) ?_
    refine go_bind.mpr ?_
    rw [jix_nI (by omega), (hx l hl).1, shl_nI (by omega), or_nI, nI_1]
    by_cases e : fJ_bitCount_0f7a4 (nI (x l)) = 1
    · refine Go.yes (e) ?_
      refine Go.some ?_
      refine Go.some ?_
      show (nI (msk _ l ||| 2 ^ l), nI (l + 1)) = (nI (if decide (fJ_bitCount_0f7a4 (nI (x l)) = 1) = true then _ else _), nI (l + 1))
      rw [if_pos (decide_eq_true e)]
    · refine Go.no (e) ?_
      refine Go.some ?_
      refine Go.some ?_
      show (nI (msk _ l), nI (l + 1)) = (nI (if decide (fJ_bitCount_0f7a4 (nI (x l)) = 1) = true then _ else _), nI (l + 1))
      rw [if_neg (by rw [decide_eq_true_eq]; exact e)]
theorem sureM {B : Mm} {P : Nat → Bool} {f y : Int32} (h : (f = -1 ∧ ∀ l, l < 6 → P l = false) ∨ (f ≠ -1 ∧ ∃ y0, y = nI y0 ∧ y0 < 4096 ∧ ∀ l, l < 6 → P l = decide (y0 / 4 ^ l % 4 = 0))) : lp 1000000 (fun s => fM_faces_b91 f y B s.1 s.2) (0, 0) = some (nI (msk P 6)) := by
  refine Go.eq ?_
  refine go_for (fun l st => st = (nI (msk P l), nI l)) 6 ?_ ?_ (i := 0) (by omega) rfl (by omega)
  · rintro st rfl
    unfold fM_faces_b91
    dsimp only
    exact Go.yes (by decide) (Go.some rfl)
  · rintro l st hl rfl
    unfold fM_faces_b91
    dsimp only
    refine Go.no (by rw [(lit_nI _ : (6 : Int32) = nI 6), nI_le' (by omega) (by omega)]; omega) ?_
    refine go_bind.mpr ?_
    rw [nI_1]
    rcases h with ⟨h1, h2⟩ | ⟨h1, y0, rfl, h3, h4⟩
    · refine Go.yes (h1) ?_
      refine Go.some ?_
      refine Go.some ?_
      show (nI (msk P l), nI (l + 1)) = (nI (if P l = true then _ else _), nI (l + 1))
      rw [if_neg (by rw [h2 l hl]; decide)]
    · rw [chg_nI h3 hl, shl_nI (by omega), or_nI]
      have d4 := dig_lt y0 l
      refine Go.no (h1) ?_
      by_cases e : y0 / 4 ^ l % 4 = 0
      · refine Go.yes (by rw [e]; rfl) ?_
        refine Go.some ?_
        refine Go.some ?_
        show (nI (msk P l ||| 2 ^ l), nI (l + 1)) = (nI (if P l = true then _ else _), nI (l + 1))
        rw [if_pos (by rw [h4 l hl]; exact decide_eq_true e)]
      · refine Go.no (by rw [← nI_zero, nI_eq' (by omega) (by omega)]; exact e) ?_
        refine Go.some ?_
        refine Go.some ?_
        show (nI (msk P l), nI (l + 1)) = (nI (if P l = true then _ else _), nI (l + 1))
        rw [if_neg (by rw [h4 l hl, decide_eq_true_eq]; exact e)]
theorem one_bit {x : Nat} (hx : x < 16) : fJ_bitCount_0f7a4 (nI x) = 1 ↔ ∃ d, d < 4 ∧ ∀ e, e < 4 → (x.testBit e = true ↔ e = d) := by
  have : ∀ x : Fin 16, fJ_bitCount_0f7a4 (nI x.val) = 1 ↔ ∃ d : Fin 4, ∀ e : Fin 4, (x.val.testBit e.val = true ↔ e.val = d.val) := by decide +kernel
  rw [this ⟨x, hx⟩]
  constructor
  · rintro ⟨d, h⟩; exact ⟨d.val, d.isLt, fun e he => h ⟨e, he⟩⟩
  · rintro ⟨d, hd, h⟩; exact ⟨⟨d, hd⟩, fun e => h e.val e.isLt⟩
theorem sim_faces {A B : Mm} (x : Int32) (h : RR A B) : Sim A B (fK_faces x A) (fM_faces x B) := by
  have h0 := h
  obtain ⟨-, -, ⟨-, -, -, -, -, h9, p, hp, h57, hfs⟩, -⟩ := h0
  rw [h57] at h9
  have h9 : A 138 9 = nI p := h9
  obtain ⟨a, ha⟩ := Classical.axiomOfChoice (r := fun i (c : Nat) => i < p → c < 64 ∧ A 144 i = nI c ∧ B 249 i = nI c) (fun i => by
    by_cases e : i < p
    · obtain ⟨a1, -, ⟨s, s1, s2⟩, -⟩ := hfs i e
      exact ⟨s, fun _ => ⟨s1, a1.trans s2, s2⟩⟩
    · exact ⟨0, fun e' => absurd e' e⟩)
  have hzA : ∀ i, i < p → (A 145 i).toInt = (B 250 i).toInt ∧ -2 ≤ (B 250 i).toInt ∧ (B 250 i).toInt ≤ 2 := fun i hi => by
    obtain ⟨-, a2, -, a3⟩ := hfs i hi
    have a2 : A 145 i = B 250 i := a2
    exact ⟨by rw [a2], a3⟩
  have b57 : mput B 217 0 0 217 57 = nI p := by rw [mput_s (by omega)]; exact h57
  obtain ⟨y, ye, yf, y1, xx, hx, hb⟩ := facK (A := A) (a := a) (z := fun i => (B 250 i).toInt) hp h9 (fun i hi => ⟨(ha i hi).2.1, (ha i hi).1⟩) hzA
  have fin : RR y.2 (mput B 217 0 0) ∧ KF A y.2 ∧ MF B (mput B 217 0 0) ∧ CNs B (mput B 217 0 0) := by
    refine fin_r h (fun c k e => ?_) (fb_put (fb_rfl _ _) rfl)
    rw [yf c (fun q => by subst q; exact absurd e (by rw [show aR 171 k = false from rfl]; decide)) (fun q => by subst q; exact absurd e (by rw [show aR 172 k = false from rfl]; decide))]
  have me : ∀ x, Go (lp 1000000 (fun s => fM_faces_b27 x (mput B 217 0 0) s.1 s.2.1 s.2.2.1 s.2.2.2) (0, (-1), 0, 0)) (fun e => e.1 = nI (sm (fun c => if fOK a (fun i => (B 250 i).toInt) p c = true then fk4 6 c else 0) 4096) ∧ fFD (fOK a (fun i => (B 250 i).toInt) p) 4096 e.2.1 e.2.2) := fun x => facM x fun c hc => canBe_eq hc hp b57 (fun i hi => by rw [mput_r (by omega)]; exact ⟨(ha i hi).2.2, (ha i hi).1⟩) (fun i hi => by rw [mput_r (by omega)])
  obtain ⟨e, ee, e1, e2⟩ := me x
  unfold Sim fK_faces fM_faces
  simp only [isIn_eq]
  by_cases x0 : x = 0
  · subst x0
    refine Go.yes (by first | rfl | (simp; done)) ?_
    refine go_bind.mpr ?_
    refine ⟨y, ye, ?_⟩
    refine Go.some ?_
    refine Go.no (by decide) ?_
    refine go_bind.mpr ?_
    refine ⟨e, ee, ?_⟩
    refine Go.yes (by first | rfl | (simp; done)) ?_
    refine Go.some ?_
    exact ⟨by rw [y1, e1], fin⟩
  by_cases x1 : x = 1
  · subst x1
    unfold fI_sureLetters
    refine Go.no (x0) ?_
    refine Go.yes (by first | rfl | (simp; done)) ?_
    refine go_bind.mpr ?_
    refine go_bind.mpr ?_
    refine ⟨y, ye, ?_⟩
    refine go_bind.mpr ?_
    rw [sureK hx]
    refine Go.some ?_
    refine Go.some ?_
    refine Go.some ?_
    refine Go.no (by decide) ?_
    refine go_bind.mpr ?_
    refine ⟨e, ee, ?_⟩
    refine Go.no (by decide) ?_
    refine go_bind.mpr ?_
    rw [sureM (P := fun l => decide (fJ_bitCount_0f7a4 (nI (xx l)) = 1)) (f := e.2.1) (y := e.2.2) ?_]
    · refine Go.some ?_
      refine Go.some ?_
      exact ⟨rfl, fin⟩
    rcases e2 with ⟨f1, f2, f3⟩ | ⟨f0, y0, f1, f2, f3, f4, f5, f6⟩
    · refine Or.inl ⟨f1, fun l hl => ?_⟩
      rw [decide_eq_false_iff_not, one_bit (hx l hl).2]
      rintro ⟨d, hd, q⟩
      obtain ⟨c, c1, c2, -⟩ := (hb l hl d hd).mp ((q d hd).mpr rfl)
      exact f3 c c1 c2
    · refine Or.inr ⟨by rw [f3]; exact nI_neg1 (by omega), y0, f4, f5, fun l hl => ?_⟩
      rw [decide_eq_decide, one_bit (hx l hl).2, dig_zero]
      have same : (∀ c, c < 4096 → fOK a (fun i => (B 250 i).toInt) p c = true → c / 4 ^ l % 4 = f0 / 4 ^ l % 4) ↔ (y0.testBit (2 * l) = false ∧ y0.testBit (2 * l + 1) = false) := by
        constructor
        · intro q
          constructor
          · refine Bool.eq_false_iff.mpr fun k => ?_
            obtain ⟨c, c1, c2, c3⟩ := (f6 _).mp k
            exact c3 ((dig_bits c f0 l).mp (q c c1 c2)).1
          · refine Bool.eq_false_iff.mpr fun k => ?_
            obtain ⟨c, c1, c2, c3⟩ := (f6 _).mp k
            exact c3 ((dig_bits c f0 l).mp (q c c1 c2)).2
        · rintro ⟨q1, q2⟩ c c1 c2
          refine (dig_bits c f0 l).mpr ⟨Classical.byContradiction fun k => ?_, Classical.byContradiction fun k => ?_⟩
          · rw [(f6 _).mpr ⟨c, c1, c2, k⟩] at q1; cases q1
          · rw [(f6 _).mpr ⟨c, c1, c2, k⟩] at q2; cases q2
      rw [← same]
      constructor
      · rintro ⟨d, hd, q⟩ c c1 c2
        have g1 := (q _ (dig_lt c l)).mp ((hb l hl _ (dig_lt c l)).mpr ⟨c, c1, c2, rfl⟩)
        have g2 := (q _ (dig_lt f0 l)).mp ((hb l hl _ (dig_lt f0 l)).mpr ⟨f0, f1, f2, rfl⟩)
        rw [g1, g2]
      · intro q
        refine ⟨f0 / 4 ^ l % 4, dig_lt f0 l, fun d hd => ?_⟩
        rw [hb l hl d hd]
        constructor
        · rintro ⟨c, c1, c2, rfl⟩; exact q c c1 c2
        · rintro rfl; exact ⟨f0, f1, f2, rfl⟩
  · have w : fK_isWithin x 0 1 = 0 := by
      rcases within_nI1 x (a := 0) (b := 1) (by omega) (by omega) with ⟨q, k, -, hk, rfl⟩ | ⟨q, -⟩
      · have : k = 0 ∨ k = 1 := by omega
        rcases this with rfl | rfl
        · exact absurd rfl x0
        · exact absurd rfl x1
      · exact q
    refine Go.no (x0) ?_
    refine Go.no (x1) ?_
    refine Go.some ?_
    refine Go.yes (w) ?_
    refine Go.some ?_
    exact ⟨rfl, fin_0 h⟩
end PmFaces3
