section PmFaces2
def oN (n : Nat) : Int64 := Int64.ofNat n
theorem oN_add (a b : Nat) : oN a + oN b = oN (a + b) := (Int64.ofNat_add a b).symm
theorem oN_mul (a b : Nat) : oN a * oN b = oN (a * b) := (Int64.ofNat_mul a b).symm
theorem i64_assoc (a b c : Int64) : a - b - c = a - (b + c) := by
  apply Int64.toBitVec_inj.1
  show a.toBitVec - b.toBitVec - c.toBitVec = a.toBitVec - (b.toBitVec + c.toBitVec)
  rw [BitVec.sub_eq_add_neg, BitVec.sub_eq_add_neg, BitVec.sub_eq_add_neg, BitVec.neg_add, BitVec.sub_eq_add_neg, BitVec.add_assoc]
theorem oN_small {d : Nat} (hd : d < 64) : Int32.toInt64 (nI d) = oN d := by
  have : ∀ d : Fin 64, Int32.toInt64 (nI d.val) = oN d.val := by decide +kernel
  exact this ⟨d, hd⟩
theorem oN_rem {t s d v : Nat} (hd : d < 4) : oN t - oN s - Int32.toInt64 (nI d) * oN v = oN t - oN (s + d * v) := by
  rw [oN_small (by omega), oN_mul, i64_assoc, oN_add]
theorem oN_cmp {t s : Nat} (ht : t < 2 ^ 63) (hs : s < 2 ^ 63) : lg_cmp (oN t - oN s) 0 = 0 ↔ s = t := by
  have h1 : ∀ x : Int64, lg_cmp x 0 = 0 ↔ x = 0 := by
    intro x
    unfold lg_cmp
    constructor
    · intro h
      split at h
      · exact absurd h (by decide)
      · split at h
        · assumption
        · exact absurd h (by decide)
    · rintro rfl; decide
  rw [h1, Int64.sub_eq_iff_eq_add, Int64.zero_add]
  constructor
  · intro h
    have := congrArg Int64.toInt h
    unfold oN at this
    rw [Int64.toInt_ofNat_of_lt ht, Int64.toInt_ofNat_of_lt hs] at this
    omega
  · rintro rfl; rfl
def f172 (M : Mm) (x : Nat → Nat) : Prop := ∀ l, l < 6 → M 172 l = nI (x l) ∧ x l < 16
theorem mgl_row {M M' : Mm} {a : Nat} (h : M' a = M a) (k : Nat) : mgl M' a k = mgl M a k := by unfold mgl; rw [h]
theorem fC1_w4 {d : Nat} (hd : d < 4) : fC1 (jix (nI d)) = nI (w4 d) := by
  have : ∀ d : Fin 4, fC1 (jix (nI d.val)) = nI (w4 d.val) := by decide +kernel
  exact this ⟨d, hd⟩
theorem tb_pow (d e : Nat) : (2 ^ d).testBit e = true ↔ e = d := by
  rw [Nat.testBit_two_pow]; simp only [decide_eq_true_eq]; exact ⟨fun h => h.symm, fun h => h.symm⟩
theorem waysFrom_go {v : Nat → Nat} {t : Nat} (hv : ∀ l, l < 6 → v l < 2 ^ 50) (ht : t < 2 ^ 63) : ∀ r, r ≤ 6 → ∀ n s M x, r < n → s ≤ (6 - r) * 2 ^ 52 → (∀ l, l < 6 → mgl M 171 l = oN (v l)) → f172 M x →
    Go (fI_waysFrom n (nI (6 - r)) (oN t - oN s) M) (fun y => y.1 = nI (fW v t r s) ∧ (∀ c, c ≠ 172 → y.2 c = M c) ∧ ∃ x', f172 y.2 x' ∧ ∀ l, l < 6 → ∀ d, d < 4 → ((x' l).testBit d = true ↔ (x l).testBit d = true ∨ Sol v t r s l d)) := by
  intro r
  induction r with
  | zero =>
    intro _ n s M x hn hs hM hx
    obtain ⟨n, rfl⟩ : ∃ k, n = k + 1 := ⟨n - 1, by omega⟩
    show Go (fI_waysFrom_r (fI_waysFrom n) (nI 6) (oN t - oN s) M) _
    unfold fI_waysFrom_r
    have q : ∀ l, l < 6 → ∀ d, d < 4 → ((x l).testBit d = true ↔ (x l).testBit d = true ∨ Sol v t 0 s l d) := fun l hl d _ => ⟨Or.inl, fun h => h.elim id fun ⟨h1, _⟩ => by omega⟩
    refine Go.no (by decide) ?_
    by_cases e : s = t
    · refine Go.yes ((oN_cmp ht (by omega)).mpr e) ?_
      refine Go.some ?_
      refine ⟨?_, fun _ _ => rfl, x, hx, q⟩
      show (1 : Int32) = nI (0 + (if s + 0 = t then 1 else 0))
      rw [if_pos (by omega)]; rfl
    · refine Go.no (fun h => e ((oN_cmp ht (by omega)).mp h)) ?_
      refine Go.some ?_
      refine ⟨?_, fun _ _ => rfl, x, hx, q⟩
      show (0 : Int32) = nI (0 + (if s + 0 = t then 1 else 0))
      rw [if_neg (by omega)]; rfl
  | succ r ih =>
    intro hr n s M x hn hs hM hx
    obtain ⟨n, rfl⟩ : ∃ k, n = k + 1 := ⟨n - 1, by omega⟩
    show Go (fI_waysFrom_r (fI_waysFrom n) (nI (6 - (r + 1))) (oN t - oN s) M) _
    rw [show 6 - (r + 1) = 5 - r by omega]
    unfold fI_waysFrom_r
    refine Go.yes (by rw [(lit_nI _ : (6 : Int32) = nI 6), nI_lt' (by omega) (by omega)]; omega) ?_
    refine Go.bind (P := fun e => e.1 = nI (fW v t (r + 1) s) ∧ (∀ c, c ≠ 172 → e.2 c = M c) ∧ ∃ x', f172 e.2 x' ∧ ∀ l, l < 6 → ∀ d, d < 4 → ((x' l).testBit d = true ↔ (x l).testBit d = true ∨ Sol v t (r + 1) s l d)) ?_ (fun e he => Go.some he)
    refine go_for (fun d st => ∃ M' x', st = (nI (sm (fun e => fW v t r (s + e * v (5 - r)) * w4 e) d), nI d, M') ∧ (∀ c, c ≠ 172 → M' c = M c) ∧ f172 M' x' ∧ ∀ l, l < 6 → ∀ dd, dd < 4 → ((x' l).testBit dd = true ↔ (x l).testBit dd = true ∨ ∃ e, e < d ∧ ((l = 5 - r ∧ dd = e ∧ fW v t r (s + e * v (5 - r)) ≠ 0) ∨ Sol v t r (s + e * v (5 - r)) l dd))) 4 ?_ ?_ (i := 0) (by omega) ⟨M, x, rfl, fun _ _ => rfl, hx, fun l _ dd _ => ⟨Or.inl, fun h => h.elim id fun ⟨e, he, _⟩ => by omega⟩⟩ (by omega)
    · rintro st ⟨M', x', rfl, fr, hx', hb⟩
      unfold fI_waysFrom_b24
      dsimp only
      refine Go.yes (by decide) (Go.some ⟨?_, fr, x', hx', fun l hl dd hd => ?_⟩)
      · rw [fW_1]
        refine congrArg nI ?_
        show 0 + fW v t r (s + 0 * v (5 - r)) * w4 0 + fW v t r (s + 1 * v (5 - r)) * w4 1 + fW v t r (s + 2 * v (5 - r)) * w4 2 + fW v t r (s + 3 * v (5 - r)) * w4 3 = _
        rw [Nat.zero_add, Nat.mul_comm (w4 0), Nat.mul_comm (w4 1), Nat.mul_comm (w4 2), Nat.mul_comm (w4 3)]
      · rw [hb l hl dd hd, Sol_1 (by omega)]
    · rintro d st hd ⟨M', x', rfl, fr, hx', hb⟩
      unfold fI_waysFrom_b24
      dsimp only
      have v5 := hv (5 - r) (by omega)
      have sb : s + d * v (5 - r) ≤ (6 - r) * 2 ^ 52 := by
        have : d * v (5 - r) ≤ 3 * 2 ^ 50 := Nat.mul_le_mul (by omega) (by omega)
        rw [show 6 - r = (6 - (r + 1)) + 1 by omega, Nat.add_mul]; omega
      refine Go.no (by rw [(lit_nI _ : (4 : Int32) = nI 4), nI_le' (by omega) (by omega)]; omega) ?_
      refine Go.gd ((inb_nI (by omega)).mpr (by omega)) ?_
      refine go_bind.mpr ?_
      rw [jix_nI (show 5 - r < 2147483648 by omega), mgl_row (fr 171 (by omega)), hM (5 - r) (by omega), oN_rem hd, nI_1, show 5 - r + 1 = 6 - r by omega]
      obtain ⟨y, ye, y1, y2, x2, hx2, hb2⟩ := ih (by omega) n (s + d * v (5 - r)) M' x' (by omega) sb (fun l hl => by rw [mgl_row (fr 171 (by omega))]; exact hM l hl) hx'
      refine ⟨y, ye, ?_⟩
      have fr2 : ∀ c, c ≠ 172 → y.2 c = M c := fun c hc => by rw [y2 c hc]; exact fr c hc
      have wl := fW_le v t r (s + d * v (5 - r))
      have w7 : 7 ^ r ≤ 7 ^ 5 := Nat.pow_le_pow_right (by omega) (by omega)
      have hb3 : ∀ l, l < 6 → ∀ dd, dd < 4 → ((x2 l).testBit dd = true ↔ (x l).testBit dd = true ∨ (∃ e, e < d ∧ ((l = 5 - r ∧ dd = e ∧ fW v t r (s + e * v (5 - r)) ≠ 0) ∨ Sol v t r (s + e * v (5 - r)) l dd)) ∨ Sol v t r (s + d * v (5 - r)) l dd) := fun l hl dd hdd => by
        rw [hb2 l hl dd hdd, hb l hl dd hdd, or_assoc]
      refine go_bind.mpr ?_
      rw [y1]
      by_cases e : fW v t r (s + d * v (5 - r)) = 0
      · refine Go.yes (by rw [e]; decide) ?_
        refine Go.some ?_
        refine Go.some ?_
        dsimp only
        rw [nI_1]
        refine ⟨y.2, x2, ?_, fr2, hx2, fun l hl dd hdd => ?_⟩
        · rw [sm_1, e, Nat.zero_mul]; rfl
        · rw [hb3 l hl dd hdd]
          constructor
          · rintro (h | ⟨e', h1, h2⟩ | h)
            · exact Or.inl h
            · exact Or.inr ⟨e', by omega, h2⟩
            · exact Or.inr ⟨d, by omega, Or.inr h⟩
          · rintro (h | ⟨e', h1, h2⟩)
            · exact Or.inl h
            · by_cases q : e' = d
              · subst q
                rcases h2 with ⟨-, -, h2⟩ | h2
                · exact absurd e h2
                · exact Or.inr (Or.inr h2)
              · exact Or.inr (Or.inl ⟨e', by omega, h2⟩)
      · have i5 : inb (nI (5 - r)) 6 := (inb_nI (by omega)).mpr (by omega)
        refine Go.no (by rw [← nI_zero, nI_le' (by omega) (by omega)]; omega) ?_
        refine Go.gd (i5) ?_
        refine Go.gd (i5) ?_
        refine Go.gd ((inb_nI (by omega)).mpr (by omega)) ?_
        refine Go.some ?_
        refine Go.some ?_
        dsimp only
        rw [fC1_w4 hd, nI_mul', nI_add, nI_1, (hx2 (5 - r) (by omega)).1, shl_nI (by omega), or_nI]
        refine ⟨_, fun l => if l = 5 - r then x2 l ||| 2 ^ d else x2 l, rfl, fun c hc => by rw [mput_r hc]; exact fr2 c hc, fun l hl => ?_, fun l hl dd hdd => ?_⟩
        · dsimp only
          by_cases q : l = 5 - r
          · subst q
            rw [mput_same, if_pos rfl]
            exact ⟨rfl, Nat.or_lt_two_pow (n := 4) (hx2 _ hl).2 (Nat.pow_lt_pow_right (n := 4) (by omega) hd)⟩
          · rw [mput_s q, if_neg q]; exact hx2 l hl
        · dsimp only
          have key : ((if l = 5 - r then x2 l ||| 2 ^ d else x2 l).testBit dd = true) ↔ ((x2 l).testBit dd = true ∨ (l = 5 - r ∧ dd = d)) := by
            by_cases q : l = 5 - r
            · rw [if_pos q, Nat.testBit_or, Bool.or_eq_true, tb_pow]
              exact ⟨fun h => h.imp id fun h => ⟨q, h⟩, fun h => h.imp id fun h => h.2⟩
            · rw [if_neg q]
              exact ⟨Or.inl, fun h => h.elim id fun h => absurd h.1 q⟩
          rw [key, hb3 l hl dd hdd]
          constructor
          · rintro ((h | ⟨e', h1, h2⟩ | h) | ⟨h1, h2⟩)
            · exact Or.inl h
            · exact Or.inr ⟨e', by omega, h2⟩
            · exact Or.inr ⟨d, by omega, Or.inr h⟩
            · exact Or.inr ⟨d, by omega, Or.inl ⟨h1, h2, e⟩⟩
          · rintro (h | ⟨e', h1, h2⟩)
            · exact Or.inl (Or.inl h)
            · by_cases q : e' = d
              · subst q
                rcases h2 with ⟨h3, h4, h2⟩ | h2
                · exact Or.inr ⟨h3, h4⟩
                · exact Or.inl (Or.inr (Or.inr h2))
              · exact Or.inl (Or.inr (Or.inl ⟨e', by omega, h2⟩))
def pc6 (a : Nat) : Nat := sm (fun l => a / 2 ^ l % 2) 6
theorem bitCount6 {a : Nat} (h : a < 64) : fJ_bitCount_0f7a4 (nI a) = nI (pc6 a) ∧ pc6 a ≤ 6 := by
  have : ∀ a : Fin 64, fJ_bitCount_0f7a4 (nI a.val) = nI (pc6 a.val) ∧ pc6 a.val ≤ 6 := by decide +kernel
  exact this ⟨a, h⟩
/-- what the faces say fits the kinds c -/
def fOK (a : Nat → Nat) (z : Nat → Int) (p c : Nat) : Bool := decide (∀ i, i < p → ((sm (fun l => c / 4 ^ l % 4 * (a i / 2 ^ l % 2)) 6 : Nat) : Int) - ((pc6 (a i) : Nat) : Int) = z i)
theorem dfill_go {M : Mm} : Go (fJ_fill_d0a16 171 6 0 M) (fun M' => (∀ l, l < 6 → mgl M' 171 l = oN 0) ∧ ∀ c, c ≠ 171 → M' c = M c) := by
  unfold fJ_fill_d0a16
  refine Go.bind (P := fun M' => (∀ l, l < 6 → mgl M' 171 l = oN 0) ∧ ∀ c, c ≠ 171 → M' c = M c) ?_ (fun e he => Go.some he)
  refine go_for (fun i st => ∃ M', st = (nI i, M') ∧ (∀ l, l < i → mgl M' 171 l = oN 0) ∧ ∀ c, c ≠ 171 → M' c = M c) 6 ?_ ?_ (i := 0) (by omega) ⟨M, rfl, fun l hl => by omega, fun _ _ => rfl⟩ (by omega)
  · rintro st ⟨M', rfl, h, fr⟩
    unfold fJ_fill_d0a16_b6
    dsimp only
    exact Go.yes (i32_le.mpr (Int.le_refl _)) (Go.some ⟨h, fr⟩)
  · rintro i st hi ⟨M', rfl, h, fr⟩
    unfold fJ_fill_d0a16_b6
    dsimp only
    refine Go.no (by rw [nI_le' (by omega) (by omega)]; omega) ?_
    refine Go.gd ((inb_nI (by omega)).mpr (by omega)) ?_
    refine Go.some ?_
    rw [jix_nI (by omega), nI_1]
    refine ⟨_, rfl, fun l hl => ?_, fun c hc => by rw [mpl_row _ _ _ _ _ hc]; exact fr c hc⟩
    by_cases e : l = i
    · subst e; rw [mgl_same]; rfl
    · rw [mgl_ne _ _ _ _ _ e]; exact h l (by omega)
theorem fac_in {M : Mm} {V : Nat → Nat} {a i : Nat} (x2 : Int64) (x4 : Int32) (ha : a < 64) (hM : ∀ l, l < 6 → mgl M 171 l = oN (V l)) :
    Go (lp 1000000 (fun s => fI_waysOfFaces_b82 x2 x4 (nI a) (oN (64 ^ i)) s.1 s.2) (0, M)) (fun M' => (∀ l, l < 6 → mgl M' 171 l = oN (V l + a / 2 ^ l % 2 * 64 ^ i)) ∧ ∀ c, c ≠ 171 → M' c = M c) := by
  refine go_for (fun j st => ∃ M', st = (nI j, M') ∧ (∀ l, l < 6 → mgl M' 171 l = if l < j then oN (V l + a / 2 ^ l % 2 * 64 ^ i) else oN (V l)) ∧ ∀ c, c ≠ 171 → M' c = M c) 6 ?_ ?_ (i := 0) (by omega) ⟨M, rfl, fun l hl => by rw [if_neg (by omega)]; exact hM l hl, fun _ _ => rfl⟩ (by omega)
  · rintro st ⟨M', rfl, h, fr⟩
    unfold fI_waysOfFaces_b82
    dsimp only
    exact Go.yes (by decide) (Go.some ⟨fun l hl => by rw [h l hl, if_pos hl], fr⟩)
  · rintro j st hj ⟨M', rfl, h, fr⟩
    unfold fI_waysOfFaces_b82
    dsimp only
    have ij : inb (nI j) 6 := (inb_nI (by omega)).mpr (by omega)
    refine Go.no (by rw [(lit_nI _ : (6 : Int32) = nI 6), nI_le' (by omega) (by omega)]; omega) ?_
    refine Go.gd (ij) ?_
    refine Go.gd (ij) ?_
    refine Go.some ?_
    rw [jix_nI (by omega), nI_1, h j hj, if_neg (by omega), bit_nI (by omega) (by omega), oN_small (by omega), oN_mul, oN_add]
    refine ⟨_, rfl, fun l hl => ?_, fun c hc => by rw [mpl_row _ _ _ _ _ hc]; exact fr c hc⟩
    by_cases e : l = j
    · subst e; rw [mgl_same, if_pos (by omega), Nat.mul_comm]
    · rw [mgl_ne _ _ _ _ _ e, h l hl]
      by_cases q : l < j
      · rw [if_pos q, if_pos (by omega)]
      · rw [if_neg q, if_neg (by omega)]
theorem pow64 {i : Nat} (hi : i < 8) : (1 : Int64) <<< (Int32.toInt64 (6 * nI i) &&& 63) = oN (64 ^ i) := by
  have : ∀ i : Fin 8, (1 : Int64) <<< (Int32.toInt64 (6 * nI i.val) &&& 63) = oN (64 ^ i.val) := by decide +kernel
  exact this ⟨i, hi⟩
theorem facK {A : Mm} {a : Nat → Nat} {z : Nat → Int} {p : Nat} (hp : p ≤ 8) (h9 : A 138 9 = nI p) (ha : ∀ i, i < p → A 144 i = nI (a i) ∧ a i < 64) (hz : ∀ i, i < p → (A 145 i).toInt = z i ∧ -2 ≤ z i ∧ z i ≤ 2) :
    Go (fI_waysOfFaces A) (fun y => (∀ c, c ≠ 171 → c ≠ 172 → y.2 c = A c) ∧ y.1 = nI (sm (fun c => if fOK a z p c = true then fk4 6 c else 0) 4096) ∧ ∃ x, f172 y.2 x ∧ ∀ l, l < 6 → ∀ d, d < 4 → ((x l).testBit d = true ↔ ∃ c, c < 4096 ∧ fOK a z p c = true ∧ c / 4 ^ l % 4 = d)) := by
  unfold fI_waysOfFaces
  rw [fill_eq (by omega)]
  refine go_bind.mpr ?_
  refine Go.some ?_
  refine go_bind.mpr ?_
  obtain ⟨M1, M1e, M1h, M1f⟩ := dfill_go (M := mfill A 172 6 0)
  refine ⟨M1, M1e, ?_⟩
  have m172 : ∀ {M' : Mm}, (∀ c, c ≠ 171 → M' c = M1 c) → f172 M' (fun _ => 0) := fun {M'} h l hl => by
    rw [h 172 (by omega), M1f 172 (by omega), mfill_in hl]; exact ⟨rfl, by show 0 < 16; omega⟩
  have fr1 : ∀ c, c ≠ 171 → c ≠ 172 → M1 c = A c := fun c h1 h2 => by rw [M1f c h1, mfill_r h2]
  refine go_bind.mpr ?_
  refine Go.mono (P := fun e => (∃ M', e = Sum.inl M' ∧ (∀ c, c ≠ 171 → M' c = M1 c) ∧ ∃ i, i < p ∧ z i + (pc6 (a i) : Nat) < 0) ∨ ∃ M', e = Sum.inr (oN (pk64 (fun i => (z i + (pc6 (a i) : Nat)).toNat) p), M') ∧ (∀ c, c ≠ 171 → M' c = M1 c) ∧ (∀ l, l < 6 → mgl M' 171 l = oN (pV a l p)) ∧ ∀ i, i < p → 0 ≤ z i + (pc6 (a i) : Nat)) ?_ ?_
  · refine go_for (fun i st => ∃ M', st = (oN (pk64 (fun i => (z i + (pc6 (a i) : Nat)).toNat) i), nI i, M') ∧ (∀ c, c ≠ 171 → M' c = M1 c) ∧ (∀ l, l < 6 → mgl M' 171 l = oN (pV a l i)) ∧ ∀ i', i' < i → 0 ≤ z i' + (pc6 (a i') : Nat)) p ?_ ?_ (i := 0) (by omega) ⟨M1, rfl, fun _ _ => rfl, M1h, fun i hi => by omega⟩ (by omega)
    · rintro st ⟨M', rfl, fr, hm, hb⟩
      unfold fI_waysOfFaces_b21
      dsimp only
      exact Go.yes (by rw [fr 138 (by omega), fr1 138 (by omega) (by omega), h9]; exact i32_le.mpr (Int.le_refl _)) (Go.some (Or.inr ⟨M', rfl, fr, hm, hb⟩))
    · rintro i st hi ⟨M', rfl, fr, hm, hb⟩
      unfold fI_waysOfFaces_b21
      dsimp only
      obtain ⟨a1, a2⟩ := ha i hi
      obtain ⟨z1, z2, z3⟩ := hz i hi
      obtain ⟨b1, b2⟩ := bitCount6 a2
      have i8 : inb (nI i) 8 := (inb_nI (by omega)).mpr (by omega)
      refine Go.no (by rw [fr 138 (by omega), fr1 138 (by omega) (by omega), h9, nI_le' (by omega) (by omega)]; omega) ?_
      refine Go.gd (i8) ?_
      refine Go.gd (i8) ?_
      rw [jix_nI (by omega), fr 144 (by omega), fr1 144 (by omega) (by omega), a1, b1, fr 145 (by omega), fr1 145 (by omega) (by omega)]
      have ti : (A 145 i + nI (pc6 (a i))).toInt = z i + (pc6 (a i) : Nat) := by
        rw [i32_add (by rw [nI_toInt' (by omega)]; omega) (by rw [nI_toInt' (by omega)]; omega), nI_toInt' (by omega), z1]
      by_cases e : 0 ≤ z i + (pc6 (a i) : Nat)
      · have te : A 145 i + nI (pc6 (a i)) = nI (z i + (pc6 (a i) : Nat)).toNat := i32_nI (by rw [ti]; omega) (by omega)
        refine Go.yes (by rw [i32_le, ti]; exact e) ?_
        rw [te, pow64 (by omega), oN_small (by omega), oN_mul, oN_add]
        refine Go.bind (fac_in (V := fun l => pV a l i) _ (nI i) a2 hm) ?_
        rintro M2 ⟨m1, m2⟩
        refine Go.some ?_
        dsimp only
        rw [nI_1]
        refine ⟨M2, rfl, fun c hc => by rw [m2 c hc]; exact fr c hc, m1, fun i' hi' => ?_⟩
        by_cases q : i' = i
        · subst q; exact e
        · exact hb i' (by omega)
      · refine Go.no (by rw [i32_le, ti]; exact e) ?_
        refine Go.some ?_
        exact Or.inl ⟨M', rfl, fr, i, hi, by omega⟩
  · rintro e (⟨M', rfl, fr, i, hi, neg⟩ | ⟨M', rfl, fr, hm, hb⟩)
    · dsimp only
      refine Go.some ?_
      have no : ∀ c, ¬ fOK a z p c = true := by
        intro c h
        have := of_decide_eq_true h i hi
        omega
      refine ⟨fun c h1 h2 => by dsimp only; rw [fr c h1]; exact fr1 c h1 h2, ?_, fun _ => 0, m172 fr, fun l hl d hd => ?_⟩
      · rw [sm_zero.mpr fun c _ => if_neg (no c)]; rfl
      · rw [Nat.zero_testBit]
        exact ⟨fun h => absurd h (by decide), fun ⟨c, _, h, _⟩ => absurd h (no c)⟩
    · dsimp only
      have bl : ∀ i, i < p → (z i + (pc6 (a i) : Nat)).toNat < 64 := fun i hi => by
        have := (hz i hi).2
        have := (bitCount6 (ha i hi).2).2
        omega
      have p64 : 64 ^ p ≤ 64 ^ 8 := Nat.pow_le_pow_right (by omega) hp
      have e48 : 64 ^ 8 = 2 ^ 48 := by decide
      have okc : ∀ c, fOK a z p c = true ↔ 0 + fsum (fun l => pV a l p) 6 c = pk64 (fun i => (z i + (pc6 (a i) : Nat)).toNat) p := by
        intro c
        rw [faces_iff bl]
        unfold fOK
        rw [decide_eq_true_eq]
        constructor
        · intro h i hi; have := h i hi; have := hb i hi; omega
        · intro h i hi; have := h i hi; have := hb i hi; omega
      obtain ⟨y, ye, y1, y2, x, hx, hbx⟩ := waysFrom_go (v := fun l => pV a l p) (t := pk64 (fun i => (z i + (pc6 (a i) : Nat)).toNat) p) (fun l _ => by have := pV_lt a l p; omega) (by have := pk64_lt p bl; omega) 6 (by omega) 8 0 M' (fun _ => 0) (by omega) (by omega) hm (m172 fr)
      have e0 : oN (pk64 (fun i => (z i + (pc6 (a i) : Nat)).toNat) p) - oN 0 = oN (pk64 (fun i => (z i + (pc6 (a i) : Nat)).toNat) p) := Int64.sub_zero _
      rw [e0] at ye
      refine go_bind.mpr ?_
      refine ⟨y, ye, ?_⟩
      refine Go.some ?_
      refine ⟨fun c h1 h2 => by dsimp only; rw [y2 c h2, fr c h1]; exact fr1 c h1 h2, ?_, x, hx, fun l hl d hd => ?_⟩
      · dsimp only
        rw [y1]
        refine congrArg nI (sm_congr fun c _ => ?_)
        by_cases q : fOK a z p c = true
        · rw [if_pos q, if_pos ((okc c).mp q)]
        · rw [if_neg q, if_neg fun h => q ((okc c).mpr h)]
      · rw [hbx l hl d hd, Nat.zero_testBit]
        unfold Sol
        constructor
        · rintro (h | ⟨-, c, c1, c2, c3⟩)
          · exact absurd h (by decide)
          · exact ⟨c, c1, (okc c).mpr c2, c3⟩
        · rintro ⟨c, c1, c2, c3⟩
          exact Or.inr ⟨by omega, c, c1, (okc c).mp c2, c3⟩
end PmFaces2
