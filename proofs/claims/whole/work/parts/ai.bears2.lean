section PmBears2
theorem bmr_z {b : Nat → Int} {f : Nat → Nat} {T s : Nat} (h : ∀ U, U < s → f U = 0) : ∀ j, bmr b f T s j = 0
  | 0 => rfl
  | j + 1 => by
    rw [bmr_1, bmr_z h j]
    by_cases e : T.testBit j = true ∧ T - 2 ^ j < s
    · rw [if_pos e, h _ e.2]; rfl
    · rw [if_neg e]; rfl
theorem bme_le (b : Nat → Int) (a T s : Nat) : ∀ j, bme b a T s j ≤ 99
  | 0 => by show 0 ≤ 99; omega
  | j + 1 => by
    rw [bme_1]
    have := bme_le b a T s j
    have := bst_le b a j
    split <;> omega
theorem bme_low {b : Nat → Int} {a T s : Nat} (hT : T < 256) (h : T ≤ s) : ∀ j, j ≤ 8 → bme b a T s j = 0
  | 0, _ => rfl
  | j + 1, hj => by
    rw [bme_1, bme_low hT h j (by omega), if_neg]
    · rfl
    rintro ⟨e1, e2⟩
    have := ((bit8 hT (show j < 8 by omega)).2 e1).2.1
    have := p2pos j
    omega
theorem p2le {n : Nat} (h : n ≤ 8) : 2 ^ n ≤ 256 := Nat.pow_le_pow_right (n := 2) (by omega) h
theorem beaK_in {A : Mm} {b : Nat → Int} {n s : Nat} {c : Nat → Nat} (x4 : Int32) (hn : n ≤ 8) (hA : A 138 0 = nI n) (hb : ∀ k, k < n → (A 139 k).toInt = b k ∧ -50 ≤ b k ∧ b k ≤ 50) (hs : s < 2 ^ n) (hc : ∀ T, T < 2 ^ n → A 169 T = nI (c T) ∧ c T ≤ 99) :
    Go (lp 1000000 (fun st => fI_leftBehindAll_b38 x4 (nI s) st.1 st.2) (0, A)) (fun A' => (∀ T, T < 2 ^ n → A' 169 T = nI (max (c T) (bme b (c s) T s n))) ∧ ∀ r, r ≠ 169 → A' r = A r) := by
  have h256 := p2le hn
  refine go_for (fun k st => ∃ A', st = (nI k, A') ∧ (∀ T, T < 2 ^ n → A' 169 T = nI (max (c T) (bme b (c s) T s k))) ∧ ∀ r, r ≠ 169 → A' r = A r) n ?_ ?_ (i := 0) (by omega) ⟨A, rfl, fun T hT => by rw [(hc T hT).1]; exact congrArg nI (Nat.max_zero _).symm, fun _ _ => rfl⟩ (by omega)
  · rintro st ⟨A', rfl, t, fr⟩
    unfold fI_leftBehindAll_b38
    dsimp only
    exact Go.yes (by rw [fr 138 (by omega), hA]; exact i32_le.mpr (Int.le_refl _)) (Go.some ⟨t, fr⟩)
  · rintro k st hk ⟨A', rfl, t, fr⟩
    unfold fI_leftBehindAll_b38
    dsimp only
    have cs := (hc s hs).2
    have ts : A' 169 s = nI (c s) := by rw [t s hs, bme_low (by omega) (Nat.le_refl _) k (by omega), Nat.max_zero]
    refine Go.no (by rw [fr 138 (by omega), hA, nI_le' (by omega) (by omega)]; omega) ?_
    refine Go.gd ((inb_nI (by omega)).mpr (by omega)) ?_
    simp only [shl_nI (show k < 31 by omega), or_nI, jix_nI (show s < 2147483648 by omega), ts, jix_nI (show k < 2147483648 by omega), fr 139 (by omega)]
    by_cases e0 : c s = 0
    · refine Go.yes (by rw [e0]; decide) ?_
      refine Go.some ?_
      refine ⟨fun T hT => ?_, fr⟩
      rw [t T hT, e0, bme_z, bme_z]
    obtain ⟨b1, b2, b3⟩ := hb k hk
    have v1 : (jmin 99 (nI (c s) + A 139 k)).toInt = min 99 ((c s : Int) + b k) := by
      rw [jmin_toInt, i32_add (by rw [nI_toInt' (by omega)]; omega) (by rw [nI_toInt' (by omega)]; omega), nI_toInt' (by omega), b1]; rfl
    have v2 : ((bst b (c s) k : Nat) : Int) = max 0 (min 99 ((c s : Int) + b k)) := by
      unfold bst; rw [if_neg e0]; omega
    refine Go.no (by rw [(lit_nI _ : (0 : Int32) = nI 0), nI_le' (by omega) (by omega)]; omega) ?_
    refine Go.gd ((inb_nI (by omega)).mpr (by omega)) ?_
    refine Go.gd ((inb_nI (by omega)).mpr (by omega)) ?_
    refine go_bind.mpr ?_
    by_cases e1 : s.testBit k = true
    · rw [((bit8 (by omega) (by omega)).2 e1).1]
      refine Go.yes (rfl) ?_
      refine Go.some ?_
      refine Go.some ?_
      rw [nI_1]
      refine ⟨A', rfl, fun T hT => ?_, fr⟩
      rw [t T hT, bme_1, if_neg, Nat.max_zero]
      rintro ⟨q1, q2⟩
      have := ((bit8 (show T < 256 by omega) (show k < 8 by omega)).2 q1).2.2
      rw [q2] at this
      exact this e1
    · obtain ⟨o1, o2⟩ := (bit8 (show s < 256 by omega) (show k < 8 by omega)).1 e1
      have pk := p2pos k
      have o3 : s + 2 ^ k < 2 ^ n := by
        rw [← o1]
        exact Nat.or_lt_two_pow hs (Nat.pow_lt_pow_right (by omega) hk)
      rw [o1]
      have oT : ∀ T, T < 2 ^ n → T ≠ s + 2 ^ k → bme b (c s) T s (k + 1) = bme b (c s) T s k := by
        intro T hT hne
        rw [bme_1, if_neg, Nat.max_zero]
        rintro ⟨q1, q2⟩
        have := ((bit8 (show T < 256 by omega) (show k < 8 by omega)).2 q1).2.1
        omega
      have o4 : bme b (c s) (s + 2 ^ k) s (k + 1) = max (bme b (c s) (s + 2 ^ k) s k) (bst b (c s) k) := by
        rw [bme_1, if_pos ⟨o2, by omega⟩]
      have m1 := (hc _ o3).2
      have m2 := bme_le b (c s) (s + 2 ^ k) s k
      refine Go.no (by rw [nI_eq' (by omega) (by omega)]; omega) ?_
      refine Go.gd ((inb_nI (by omega)).mpr (by omega)) ?_
      rw [jix_nI (show s + 2 ^ k < 2147483648 by omega), t _ o3]
      refine Go.ite (fun q => ?_) (fun q => ?_)
      · rw [i32_le, v1, nI_toInt' (by omega)] at q
        refine Go.some ?_
        refine Go.some ?_
        rw [nI_1]
        refine ⟨A', rfl, fun T hT => ?_, fr⟩
        by_cases e : T = s + 2 ^ k
        · subst e; rw [t _ hT, o4]; exact congrArg nI (by omega)
        · rw [t T hT, oT T hT e]
      · rw [i32_le, v1, nI_toInt' (by omega)] at q
        refine Go.gd ((inb_nI (by omega)).mpr (by omega)) ?_
        refine Go.some ?_
        refine Go.some ?_
        rw [nI_1]
        refine ⟨_, rfl, fun T hT => ?_, fun r hr => by rw [mput_r hr]; exact fr r hr⟩
        by_cases e : T = s + 2 ^ k
        · subst e; rw [mput_same, o4]
          refine i32_nI ?_ (by have := bst_le b (c s) k; omega)
          rw [v1]; omega
        · rw [mput_s e, t T hT, oT T hT e]
theorem beaK {A : Mm} {b : Nat → Int} {n s0 h0 : Nat} (hn : n ≤ 8) (hA : A 138 0 = nI n) (hb : ∀ k, k < n → (A 139 k).toInt = b k ∧ -50 ≤ b k ∧ b k ≤ 50) (hs : s0 < 2 ^ n) (hh : h0 ≤ 99) :
    Go (fI_leftBehindAll (nI s0) (nI h0) A) (fun r => ∃ f A', r = (nI (f (2 ^ n - 1)), A') ∧ f (2 ^ n - 1) ≤ 99 ∧ bR2 b n s0 h0 f (2 ^ n) ∧ ∀ c, c ≠ 169 → A' c = A c) := by
  have h256 := p2le hn
  have pn := p2pos n
  unfold fI_leftBehindAll
  have e1 : (1 : Int32) <<< (A 138 0 &&& 31) - 1 = nI (2 ^ n - 1) := by rw [hA, shl_nI (by omega), (lit_nI _ : (1 : Int32) = nI 1), nI_sub' (by omega)]
  rw [e1, fill_eq (by omega)]
  refine go_bind.mpr ?_
  refine Go.some ?_
  refine Go.gd ((inb_nI (by omega)).mpr (by omega)) ?_
  rw [jix_nI (show s0 < 2147483648 by omega)]
  refine Go.bind (P := fun A' => ∃ f, (∀ T, T < 2 ^ n → A' 169 T = nI (f T) ∧ f T ≤ 99) ∧ bR2 b n s0 h0 f (2 ^ n) ∧ ∀ c, c ≠ 169 → A' c = A c) ?_ ?_
  rotate_left
  · rintro A' ⟨f, f1, f2, f3⟩
    refine Go.gd ((inb_nI (by omega)).mpr (by omega)) ?_
    refine Go.some ?_
    rw [jix_nI (by omega)]
    exact ⟨f, A', by rw [(f1 _ (by omega)).1], (f1 _ (by omega)).2, f2, f3⟩
  refine go_for (fun s st => ∃ c A', st = (nI s, A') ∧ (∀ T, T < 2 ^ n → A' 169 T = nI (c T) ∧ c T ≤ 99) ∧ (∀ T, T < 2 ^ n → c T = max (if T = s0 then h0 else 0) (bmr b c T s n)) ∧ ∀ r, r ≠ 169 → A' r = A r) (2 ^ n - 1) ?_ ?_ (i := s0) (by omega) ⟨fun T => if T = s0 then h0 else 0, _, rfl, fun T hT => ⟨?_, by dsimp only; split <;> omega⟩, fun T hT => ?_, fun r hr => by rw [mput_r hr, mfill_r hr]⟩ (by omega)
  · rintro st ⟨c, A', rfl, c1, c2, fr⟩
    unfold fI_leftBehindAll_b28
    dsimp only
    refine Go.yes (i32_le.mpr (Int.le_refl _)) (Go.some ⟨c, c1, fun T hT => ?_, fr⟩)
    rw [c2 T hT, bmr_big (show T ≤ 2 ^ n - 1 by omega) (Nat.le_refl T) n (fun i hi q => ((bit8 (by omega) (by omega)).2 q).2.1)]
  · rintro s st hs ⟨c, A', rfl, c1, c2, fr⟩
    unfold fI_leftBehindAll_b28
    dsimp only
    refine Go.no (by rw [nI_le' (by omega) (by omega)]; omega) ?_
    refine Go.bind (beaK_in (b := b) (nI (2 ^ n - 1)) hn (by rw [fr 138 (by omega)]; exact hA) (fun k hk => by rw [fr 139 (by omega)]; exact hb k hk) (show s < 2 ^ n by omega) c1) ?_
    rintro A2 ⟨a1, a2⟩
    refine Go.some ?_
    rw [nI_1]
    refine ⟨fun T => max (c T) (bme b (c s) T s n), A2, rfl, fun T hT => ⟨a1 T hT, ?_⟩, fun T hT => ?_, fun r hr => by rw [a2 r hr]; exact fr r hr⟩
    · have := (c1 T hT).2
      have := bme_le b (c s) T s n
      dsimp only
      omega
    · have : bmr b (fun T => max (c T) (bme b (c s) T s n)) T (s + 1) n = bmr b c T (s + 1) n := by
        refine bmr_congr (fun U hU => ?_) n
        rw [bme_low (by omega) (by omega) n hn, Nat.max_zero]
      rw [this, bmr_next]
      dsimp only
      have := c2 T hT
      omega
  · dsimp only
    by_cases e : T = s0
    · subst e; rw [mput_same, if_pos rfl]
    · rw [mput_s e, mfill_in (by omega), if_neg e]; rfl
  · dsimp only
    rw [bmr_z (fun U hU => if_neg (by omega)), Nat.max_zero]
def enc (x : Nat) : Int32 := if x = 0 then -1 else nI x
theorem enc_toInt {x : Nat} (h : x ≤ 99) : (enc x).toInt = if x = 0 then -1 else (x : Int) := by
  unfold enc
  split
  · rfl
  · exact nI_toInt' (by omega)
theorem enc_neg1 {x : Nat} (h : x ≤ 99) : enc x = -1 ↔ x = 0 := by
  unfold enc
  split
  · exact ⟨fun _ => by assumption, fun _ => rfl⟩
  · exact ⟨fun q => absurd q (nI_neg1 (by omega)), fun q => absurd q (by assumption)⟩
theorem enc_max {x y : Nat} (h : x ≤ 99) (k : y ≤ 99) : fM_greater (enc x) (enc y) = enc (max x y) := by
  rw [← jmax_eq]
  apply i32_eq.mpr
  rw [jmax_toInt, enc_toInt h, enc_toInt k, enc_toInt (by omega)]
  split <;> split <;> split <;> omega
theorem behind_eq {B : Mm} {b : Nat → Int} {a k : Nat} (hk : k < 8) (ha : a ≤ 99) (hb : (B 241 k).toInt = b k ∧ -50 ≤ b k ∧ b k ≤ 50) : fM_behind (enc a) (nI k) B = some (enc (bst b a k)) := by
  refine Go.eq ?_
  unfold fM_behind
  obtain ⟨b1, b2, b3⟩ := hb
  by_cases e : a = 0
  · subst e
    refine go_bind.mpr ?_
    refine Go.yes (rfl) ?_
    refine Go.some ?_
    refine Go.no (by decide) ?_
    refine Go.some ?_
    rfl
  · have v1 : (jmin 99 (nI a + B 241 k)).toInt = min 99 ((a : Int) + b k) := by
      rw [jmin_toInt, i32_add (by rw [nI_toInt' (by omega)]; omega) (by rw [nI_toInt' (by omega)]; omega), nI_toInt' (by omega), b1]; rfl
    rw [show enc a = nI a from if_neg e]
    refine go_bind.mpr ?_
    refine Go.no (nI_neg1 (by omega)) ?_
    refine Go.gd ((inb_nI (by omega)).mpr (by omega)) ?_
    refine Go.some ?_
    rw [jix_nI (by omega), ← jmin_eq]
    have q : bst b a k = (min 99 ((a : Int) + b k)).toNat := if_neg e
    refine Go.ite (fun l => Go.some ?_) (fun l => Go.some ?_)
    · rw [i32_le, v1] at l
      have l : (1 : Int) ≤ min 99 ((a : Int) + b k) := l
      unfold enc
      rw [if_neg (by omega)]
      exact i32_nI (by rw [v1]; omega) (by omega)
    · rw [i32_le, v1] at l
      have l : ¬ (1 : Int) ≤ min 99 ((a : Int) + b k) := l
      unfold enc
      rw [if_pos (by omega)]
theorem clr8 {s k : Nat} (hs : s < 256) (hk : k < 8) (h : s.testBit k = true) : nI s &&& (nI (2 ^ k) ^^^ (-1)) = nI (s - 2 ^ k) := by
  have : ∀ s : Fin 256, ∀ k : Fin 8, s.val.testBit k.val = true → nI s.val &&& (nI (2 ^ k.val) ^^^ (-1)) = nI (s.val - 2 ^ k.val) := by decide +kernel
  exact this ⟨s, hs⟩ ⟨k, hk⟩ h
theorem beaM_in {B : Mm} {b : Nat → Int} {n T v0 : Nat} {g : Nat → Nat} (x1 x2 x3 : Int32) (hn : n ≤ 8) (hx : x2 = -1 ∨ ∃ k0, k0 < n ∧ x2 = nI k0 ∧ (∀ U, U < T → ¬ U.testBit k0 = true → g U = 0)) (hT : T < 2 ^ n) (h45 : B 217 45 = nI n) (hb : ∀ k, k < n → (B 241 k).toInt = b k ∧ -50 ≤ b k ∧ b k ≤ 50) (hg : ∀ U, U < T → B 242 U = enc (g U) ∧ g U ≤ 99) (hv : v0 ≤ 99) (h0 : B 242 T = enc v0) :
    Go (lp 1000000 (fun s => fM_mostLeft_b69 x1 x2 x3 (nI T) s.1 s.2) (0, B)) (fun B' => B' 242 T = enc (max v0 (bmr b g T T n)) ∧ (∀ U, U ≠ T → B' 242 U = B 242 U) ∧ ∀ c, c ≠ 242 → B' c = B c) := by
  have h256 := p2le hn
  refine go_for (fun k st => ∃ B', st = (nI k, B') ∧ B' 242 T = enc (max v0 (bmr b g T T k)) ∧ (∀ U, U ≠ T → B' 242 U = B 242 U) ∧ ∀ c, c ≠ 242 → B' c = B c) n ?_ ?_ (i := 0) (by omega) ⟨B, rfl, by rw [h0]; exact congrArg enc (Nat.max_zero _).symm, fun _ _ => rfl, fun _ _ => rfl⟩ (by omega)
  · rintro st ⟨B', rfl, t, u, fr⟩
    unfold fM_mostLeft_b69
    dsimp only
    exact Go.yes (by rw [fr 217 (by omega), h45]; exact i32_le.mpr (Int.le_refl _)) (Go.some ⟨t, u, fr⟩)
  · rintro k st hk ⟨B', rfl, t, u, fr⟩
    unfold fM_mostLeft_b69
    dsimp only
    refine Go.no (by rw [fr 217 (by omega), h45, nI_le' (by omega) (by omega)]; omega) ?_
    refine go_bind.mpr ?_
    rw [lies_nI (by omega) (by omega), nI_1]
    by_cases e : T.testBit k = true
    rotate_left
    · refine Go.yes (by rw [if_neg e]) ?_
      refine Go.some ?_
      refine Go.some ?_
      refine ⟨B', rfl, ?_, u, fr⟩
      rw [t, bmr_1, if_neg (fun q => e q.1), Nat.max_zero]
    refine Go.no (by rw [if_pos e]; decide) ?_
    obtain ⟨-, t1, t2⟩ := (bit8 (show T < 256 by omega) (show k < 8 by omega)).2 e
    have pk := p2pos k
    obtain ⟨g1, g2⟩ := hg (T - 2 ^ k) (by omega)
    have m1 := bmr_le b g T T k
    have m2 := bst_le b (g (T - 2 ^ k)) k
    have s1 : bmr b g T T (k + 1) = max (bmr b g T T k) (bst b (g (T - 2 ^ k)) k) := by rw [bmr_1, if_pos ⟨e, by omega⟩]
    have main : Go (fM_mostLeft_j111 x1 x2 x3 (nI T) (nI k) B') (fun B2 => B2 242 T = enc (max v0 (bmr b g T T (k + 1))) ∧ (∀ U, U ≠ T → B2 242 U = B 242 U) ∧ ∀ c, c ≠ 242 → B2 c = B c) := by
      unfold fM_mostLeft_j111
      rw [shl_nI (show k < 31 by omega), clr8 (by omega) (by omega) e]
      refine Go.gd ((inb_nI (by omega)).mpr (by omega)) ?_
      refine Go.gd ((inb_nI (by omega)).mpr (by omega)) ?_
      refine go_bind.mpr ?_
      rw [jix_nI (by omega), jix_nI (by omega), u _ (by omega), g1, behind_eq (b := b) (by omega) g2 (by rw [fr 241 (by omega)]; exact hb k hk), t]
      refine Go.some ?_
      refine Go.gd ((inb_nI (by omega)).mpr (by omega)) ?_
      refine Go.some ?_
      rw [enc_max (by omega) (by omega), mput_same, s1]
      exact ⟨congrArg enc (by omega), fun U hU => by rw [mput_s hU]; exact u U hU, fun c hc => by rw [mput_r hc]; exact fr c hc⟩
    rcases hx with rfl | ⟨k0, k1, rfl, k2⟩
    · refine Go.yes (by first | rfl | (simp; done)) ?_
      exact main.mono fun y q => Go.some ⟨y, rfl, q.1, q.2.1, q.2.2⟩
    · refine Go.no (nI_neg1 (by omega)) ?_
      rw [shl_nI (show k < 31 by omega), clr8 (by omega) (by omega) e, lies_nI (by omega) (by omega)]
      by_cases e2 : (T - 2 ^ k).testBit k0 = true
      · refine Go.no (by rw [if_pos e2]; decide) ?_
        exact main.mono fun y q => Go.some ⟨y, rfl, q.1, q.2.1, q.2.2⟩
      · refine Go.yes (by rw [if_neg e2]) ?_
        refine Go.some ?_
        refine Go.some ⟨B', rfl, ?_, u, fr⟩
        rw [t, s1, k2 _ (by omega) e2]
        exact congrArg enc (by rw [show bst b 0 k = 0 from rfl]; omega)
theorem beaM {B : Mm} {b : Nat → Int} {n s0 h0 h : Nat} (x2 : Int32) (hn : n ≤ 8) (hh : h ≤ 99) (hp : 1 ≤ h) (hx : (x2 = -1 ∧ s0 = 0 ∧ h0 = h) ∨ ∃ k0, k0 < n ∧ x2 = nI k0 ∧ s0 = 2 ^ k0 ∧ h0 = bst b h k0) (h45 : B 217 45 = nI n) (hb : ∀ k, k < n → (B 241 k).toInt = b k ∧ -50 ≤ b k ∧ b k ≤ 50) :
    Go (fM_mostLeft (nI h) x2 B) (fun r => ∃ f B', r = (enc (f (2 ^ n - 1)), B') ∧ f (2 ^ n - 1) ≤ 99 ∧ bR2 b n s0 h0 f (2 ^ n) ∧ ∀ c, c ≠ 242 → B' c = B c) := by
  have h256 := p2le hn
  have pn := p2pos n
  have hh0 : h0 ≤ 99 := by
    rcases hx with ⟨-, -, rfl⟩ | ⟨k0, -, -, -, rfl⟩
    · exact hh
    · exact bst_le b h k0
  unfold fM_mostLeft
  have e1 : (1 : Int32) <<< (B 217 45 &&& 31) - 1 = nI (2 ^ n - 1) := by rw [h45, shl_nI (by omega), (lit_nI _ : (1 : Int32) = nI 1), nI_sub' (by omega)]
  rw [e1]
  refine Go.bind (P := fun B' => ∃ g, (∀ T, T < 2 ^ n → B' 242 T = enc (g T) ∧ g T ≤ 99) ∧ bR2 b n s0 h0 g (2 ^ n) ∧ ∀ c, c ≠ 242 → B' c = B c) ?_ ?_
  rotate_left
  · rintro B' ⟨f, f1, f2, f3⟩
    refine Go.gd ((inb_nI (by omega)).mpr (by omega)) ?_
    refine Go.some ?_
    rw [jix_nI (by omega)]
    exact ⟨f, B', by rw [(f1 _ (by omega)).1], (f1 _ (by omega)).2, f2, f3⟩
  refine go_for (fun T st => ∃ g B', st = (nI T, B') ∧ (∀ U, U < T → B' 242 U = enc (g U) ∧ g U ≤ 99) ∧ bR2 b n s0 h0 g T ∧ (x2 = -1 ∨ ∃ k0, k0 < n ∧ x2 = nI k0 ∧ (∀ U, U < T → ¬ U.testBit k0 = true → g U = 0)) ∧ ∀ c, c ≠ 242 → B' c = B c) (2 ^ n) ?_ ?_ (i := 0) (by omega) ⟨fun _ => 0, B, rfl, fun U hU => by omega, fun U hU => by omega, ?_, fun _ _ => rfl⟩ (by omega)
  · rintro st ⟨g, B', rfl, g1, g2, g3, fr⟩
    unfold fM_mostLeft_b12
    dsimp only
    exact Go.yes ((nI_lt' (by omega) (by omega)).mpr (by omega)) (Go.some ⟨g, g1, g2, fr⟩)
  · rintro T st hT ⟨g, B', rfl, g1, g2, g3, fr⟩
    unfold fM_mostLeft_b12
    dsimp only
    refine Go.no (by rw [nI_lt' (by omega) (by omega)]; omega) ?_
    refine Go.gd ((inb_nI (by omega)).mpr (by omega)) ?_
    rw [jix_nI (show T < 2147483648 by omega), nI_1]
    refine Go.bind (P := fun B2 => B2 242 T = enc (if T = s0 then h0 else 0) ∧ (∀ U, U ≠ T → B2 242 U = B' 242 U) ∧ ∀ c, c ≠ 242 → B2 c = B c) ?_ ?_
    · have t0 : (nI T = 0) ↔ T = 0 := by rw [← nI_zero, nI_eq' (by omega) (by omega)]
      rcases hx with ⟨rfl, rfl, rfl⟩ | ⟨k0, k1, rfl, rfl, rfl⟩
      · refine Go.yes (by first | rfl | (simp; done)) ?_
        refine Go.some ?_
        refine ⟨?_, fun U hU => mput_s hU, fun c hc => by rw [mput_r hc]; exact fr c hc⟩
        rw [mput_same]
        by_cases e : T = 0
        · rw [if_pos (t0.mpr e), if_pos rfl, if_pos e]
          unfold enc; rw [if_neg (by omega)]
        · rw [if_neg (fun q => e (t0.mp q)), if_neg e]; rfl
      · have pk := p2pos k0
        have lk : 2 ^ k0 < 2 ^ n := Nat.pow_lt_pow_right (by omega) k1
        refine Go.no (nI_neg1 (by omega)) ?_
        rw [shl_nI (show k0 < 31 by omega)]
        by_cases e : T = 2 ^ k0
        · have eh : nI h = enc h := (if_neg (by omega)).symm
          refine Go.yes (by rw [e]) ?_
          refine go_bind.mpr ?_
          rw [eh, behind_eq (b := b) (by omega) hh (by rw [mput_r (by omega), fr 241 (by omega)]; exact hb k0 k1)]
          refine Go.some ?_
          refine Go.gd ((inb_nI (by omega)).mpr (by omega)) ?_
          refine Go.some ?_
          exact ⟨by rw [mput_same, if_pos e], fun U hU => by rw [mput_s hU, mput_s hU], fun c hc => by rw [mput_r hc, mput_r hc]; exact fr c hc⟩
        · refine Go.no (by rw [nI_eq' (by omega) (by omega)]; exact e) ?_
          refine Go.some ?_
          refine ⟨?_, fun U hU => mput_s hU, fun c hc => by rw [mput_r hc]; exact fr c hc⟩
          rw [mput_same, if_neg e, if_neg (nI_neg1 (show k0 < 2147483648 by omega))]
          split <;> rfl
    · rintro B2 ⟨t1, t2, t3⟩
      refine Go.bind (beaM_in (b := b) (g := g) (v0 := if T = s0 then h0 else 0) (nI h) x2 (nI (2 ^ n - 1)) hn g3 hT (by rw [t3 217 (by omega)]; exact h45) (fun k hk => by rw [t3 241 (by omega)]; exact hb k hk) (fun U hU => by rw [t2 U (by omega)]; exact g1 U hU) (by split <;> omega) t1) ?_
      rintro B3 ⟨u1, u2, u3⟩
      refine Go.some ?_
      have gT : ∀ U, U < T → (fun U => if U = T then max (if T = s0 then h0 else 0) (bmr b g T T n) else g U) U = g U := fun U hU => if_neg (by omega)
      refine ⟨fun U => if U = T then max (if T = s0 then h0 else 0) (bmr b g T T n) else g U, B3, rfl, fun U hU => ?_, fun U hU => ?_, ?_, fun c hc => by rw [u3 c hc]; exact t3 c hc⟩
      · by_cases e : U = T
        · subst e
          dsimp only
          rw [if_pos rfl, u1]
          refine ⟨rfl, ?_⟩
          have := bmr_le b g U U n
          split <;> omega
        · rw [gT U (by omega), u2 U e, t2 U e]; exact g1 U (by omega)
      · by_cases e : U = T
        · subst e
          rw [bmr_congr gT n]
          dsimp only
          rw [if_pos rfl]
        · rw [bmr_congr (fun W hW => gT W (by omega)) n, gT U (by omega)]; exact g2 U (by omega)
      · rcases g3 with g3 | ⟨k0, k1, k2, k3⟩
        · exact Or.inl g3
        · refine Or.inr ⟨k0, k1, k2, fun U hU hb => ?_⟩
          by_cases e : U = T
          · subst e
            dsimp only
            rw [if_pos rfl]
            rcases hx with ⟨q, -, -⟩ | ⟨k0', q1, q2, q3, -⟩
            · rw [k2] at q; exact absurd q (nI_neg1 (by omega))
            · rw [k2, nI_eq' (by omega) (by omega)] at q2
              subst q2
              have n1 : ¬ U = s0 := by
                rintro rfl
                rw [q3] at hb
                exact hb (Nat.testBit_two_pow_self)
              rw [if_neg n1]
              have : ∀ j, j ≤ n → bmr b g U U j = 0 := by
                intro j
                induction j with
                | zero => intro _; rfl
                | succ j ih =>
                  intro hj
                  rw [bmr_1, ih (by omega)]
                  by_cases e : U.testBit j = true ∧ U - 2 ^ j < U
                  · rw [if_pos e, k3 _ e.2]
                    · rfl
                    · have : ∀ s : Fin 256, ∀ j k : Fin 8, s.val.testBit j.val = true → ¬ s.val.testBit k.val = true → ¬ (s.val - 2 ^ j.val).testBit k.val = true := by decide +kernel
                      exact this ⟨U, by omega⟩ ⟨j, by omega⟩ ⟨k0, by omega⟩ e.1 hb
                  · rw [if_neg e]; rfl
              rw [this n (Nat.le_refl _)]; rfl
          · rw [gT U (by omega)]; exact k3 U (by omega) hb
  · rcases hx with ⟨q, -, -⟩ | ⟨k0, q1, q2, -, -⟩
    · exact Or.inl q
    · exact Or.inr ⟨k0, q1, q2, fun U hU => by omega⟩
end PmBears2
