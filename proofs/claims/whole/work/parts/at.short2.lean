section PmShort2
/-- goals and ways between them -/
def sG (A : Mm) (m : Nat) (go : Nat → Nat) (dd : Nat → Nat → Nat) : Prop := (∀ j, j < m → A 175 j = nI (go j) ∧ go j < 12) ∧ ∀ i j, i < m → j < m → A 174 (12 * go i + go j) = nI (dd i j) ∧ dd i j ≤ 1000000
theorem sG_fr {A A' : Mm} {m : Nat} {go : Nat → Nat} {dd : Nat → Nat → Nat} (h : sG A m go dd) (fr : ∀ c, c ≠ 252 → A' c = A c) : sG A' m go dd := by
  unfold sG
  rw [fr 175 (by omega), fr 174 (by omega)]; exact h
theorem ix8 (a b : Nat) : nI a * 8 + nI b = nI (8 * a + b) := by rw [(lit_nI _ : (8 : Int32) = nI 8), nI_mul', nI_add, Nat.mul_comm]
theorem ix8' (a b : Nat) : 8 * nI a + nI b = nI (8 * a + b) := by rw [(lit_nI _ : (8 : Int32) = nI 8), nI_mul', nI_add]
theorem shoK_on {A : Mm} {c dd : Nat → Nat → Nat} {go : Nat → Nat} {m S g : Nat} (hm : m ≤ 8) (hS : S < 2 ^ m) (hg : g < m) (h8 : ¬ A 0 8 = 0) (hG : sG A m go dd) (hc : ∀ T, T < 2 ^ m → ∀ h, h < m → A 252 (8 * T + h) = nI (c T h) ∧ c T h ≤ 1000000) :
    Go (fY_walkOn (nI S) (nI g) (nI m) A) (fun A' => (∀ T, T < 2 ^ m → ∀ h, h < m → A' 252 (8 * T + h) = nI (sU dd c S g T h)) ∧ ∀ b, b ≠ 252 → A' b = A b) := by
  have h256 := p2le hm
  unfold fY_walkOn
  rw [ix8, jix_nI (by omega), (hc S hS g hg).1]
  have cS := (hc S hS g hg).2
  refine Go.gd (⟨h8, (inb_nI (by omega)).mpr (by omega)⟩) ?_
  refine Go.bind (P := fun A' => (∀ T, T < 2 ^ m → ∀ h, h < m → A' 252 (8 * T + h) = nI (sU dd c S g T h)) ∧ ∀ b, b ≠ 252 → A' b = A b) ?_ (fun e he => Go.some he)
  refine go_for (fun k st => ∃ A', st = (nI k, A') ∧ (∀ T, T < 2 ^ m → ∀ h, h < m → A' 252 (8 * T + h) = nI (if h < k then sU dd c S g T h else c T h)) ∧ ∀ b, b ≠ 252 → A' b = A b) m ?_ ?_ (i := 0) (by omega) ⟨A, rfl, fun T hT h hh => by rw [if_neg (by omega)]; exact (hc T hT h hh).1, fun _ _ => rfl⟩ (by omega)
  · rintro st ⟨A', rfl, t, fr⟩
    unfold fY_walkOn_b14
    dsimp only
    refine Go.yes (i32_le.mpr (Int.le_refl _)) (Go.some ⟨fun T hT h hh => by rw [t T hT h hh, if_pos hh], fr⟩)
  · rintro k st hk ⟨A', rfl, t, fr⟩
    unfold fY_walkOn_b14
    dsimp only
    obtain ⟨g1, g2⟩ := hG.1 g hg
    obtain ⟨k1, k2⟩ := hG.1 k hk
    obtain ⟨d1, d2⟩ := hG.2 g k hg hk
    have g8 : ¬ A' 0 8 = 0 := by rw [fr 0 (by omega)]; exact h8
    simp only [fr 175 (by omega), jix_nI (show g < 2147483648 by omega), jix_nI (show k < 2147483648 by omega), g1, k1, ix12, jix_nI (show 12 * go g + go k < 2147483648 by omega), fr 174 (by omega), d1, nI_add, shl_nI (show k < 31 by omega), or_nI, ix8, bit_nI (show S < 2147483648 by omega) (show k < 31 by omega), nI_1]
    refine Go.no (by rw [nI_le' (by omega) (by omega)]; omega) ?_
    refine Go.gd ((inb_nI (by omega)).mpr (by omega)) ?_
    refine Go.gd ((inb_nI (by omega)).mpr (by omega)) ?_
    refine Go.gd ((inb_nI (by omega)).mpr (by omega)) ?_
    refine go_bind.mpr ?_
    have bS := bit8 (show S < 256 by omega) (show k < 8 by omega)
    have tS := tb_d S k
    by_cases b : S.testBit k = true
    · rw [b] at tS
      have tS := of_decide_eq_true tS.symm
      refine Go.no (by rw [tS]; decide) ?_
      refine Go.some ?_
      refine Go.some ?_
      refine ⟨A', rfl, fun T hT h hh => ?_, fr⟩
      rw [t T hT h hh]
      by_cases e : h = k
      · subst e
        rw [if_neg (by omega), if_pos (by omega)]
        unfold sU
        rw [if_neg]
        rintro ⟨q1, q2⟩
        have := ((bit8 (show T < 256 by omega) (show h < 8 by omega)).2 q1).2.2
        rw [q2] at this
        exact this b
      · by_cases l : h < k
        · rw [if_pos l, if_pos (by omega)]
        · rw [if_neg l, if_neg (by omega)]
    · have b' : S.testBit k = false := Bool.eq_false_iff.mpr b
      rw [b'] at tS
      have tS := of_decide_eq_false tS.symm
      obtain ⟨o1, o2⟩ := bS.1 b
      have pk := p2p k
      have o3 : S + 2 ^ k < 2 ^ m := by
        rw [← o1]
        exact Nat.or_lt_two_pow hS (Nat.pow_lt_pow_right (by omega) hk)
      have uT : sU dd c S g (S + 2 ^ k) k = min (c (S + 2 ^ k) k) (c S g + dd g k) := if_pos ⟨o2, by omega⟩
      have uN : ∀ T, T < 2 ^ m → T ≠ S + 2 ^ k → sU dd c S g T k = c T k := by
        intro T hT hne
        refine if_neg ?_
        rintro ⟨q1, q2⟩
        have := tb_ge q1
        omega
      have ct := t (S + 2 ^ k) o3 k hk
      rw [if_neg (by omega)] at ct
      have cl := (hc (S + 2 ^ k) o3 k hk).2
      rw [o1]
      have i1 : inb (nI (8 * (S + 2 ^ k) + k)) 10025 := (inb_nI (by omega)).mpr (by omega)
      refine Go.yes (by rw [show S / 2 ^ k % 2 = 0 by omega]; rfl) ?_
      refine Go.gd (⟨g8, i1⟩) ?_
      rw [jix_nI (show 8 * (S + 2 ^ k) + k < 2147483648 by omega), ct]
      refine Go.ite (fun q => ?_) (fun q => ?_)
      · rw [nI_le' (by omega) (by omega)] at q
        refine Go.some ?_
        refine Go.some ?_
        refine ⟨A', rfl, fun T hT h hh => ?_, fr⟩
        rw [t T hT h hh]
        by_cases e : h = k
        · subst e
          rw [if_neg (by omega), if_pos (by omega)]
          by_cases e2 : T = S + 2 ^ h
          · subst e2; rw [uT]; exact congrArg nI (by omega)
          · rw [uN T hT e2]
        · by_cases l : h < k
          · rw [if_pos l, if_pos (by omega)]
          · rw [if_neg l, if_neg (by omega)]
      · rw [nI_le' (by omega) (by omega)] at q
        refine Go.gd (⟨g8, i1⟩) ?_
        refine Go.some ?_
        refine Go.some ?_
        refine ⟨_, rfl, fun T hT h hh => ?_, fun b hb => by rw [mput_r hb]; exact fr b hb⟩
        by_cases e : h = k ∧ T = S + 2 ^ k
        · obtain ⟨rfl, rfl⟩ := e
          rw [mput_same, if_pos (by omega), uT]; exact congrArg nI (by omega)
        · rw [mput_s (by omega), t T hT h hh]
          by_cases e1 : h = k
          · subst e1
            rw [if_neg (by omega), if_pos (by omega), uN T hT (fun q => e ⟨rfl, q⟩)]
          · by_cases l : h < k
            · rw [if_pos l, if_pos (by omega)]
            · rw [if_neg l, if_neg (by omega)]
theorem shoK_set {A : Mm} {c dd : Nat → Nat → Nat} {go ds : Nat → Nat} {m S : Nat} (hm : m ≤ 8) (hS : S < 2 ^ m) (h8 : ¬ A 0 8 = 0) (hG : sG A m go dd) (hc : ∀ T, T < 2 ^ m → ∀ h, h < m → A 252 (8 * T + h) = nI (c T h) ∧ c T h = sV ds dd m c S 0 T h) :
    Go (lp 1000000 (fun s => fY_walkSets_b69 (nI m) (nI S) s.1 s.2) (0, A)) (fun A' => ∃ c', (∀ T, T < 2 ^ m → ∀ h, h < m → A' 252 (8 * T + h) = nI (c' T h) ∧ c' T h = sV ds dd m c' (S + 1) 0 T h) ∧ ∀ b, b ≠ 252 → A' b = A b) := by
  have h256 := p2le hm
  refine go_for (fun k st => ∃ c A', st = (nI k, A') ∧ (∀ T, T < 2 ^ m → ∀ h, h < m → A' 252 (8 * T + h) = nI (c T h) ∧ c T h = sV ds dd m c S k T h) ∧ ∀ b, b ≠ 252 → A' b = A b) m ?_ ?_ (i := 0) (by omega) ⟨c, A, rfl, hc, fun _ _ => rfl⟩ (by omega)
  · rintro st ⟨c, A', rfl, t, fr⟩
    unfold fY_walkSets_b69
    dsimp only
    refine Go.yes (i32_le.mpr (Int.le_refl _)) (Go.some ⟨c, fun T hT h hh => ⟨(t T hT h hh).1, ?_⟩, fr⟩)
    rw [← sV_next]; exact (t T hT h hh).2
  · rintro k st hk ⟨c, A', rfl, t, fr⟩
    unfold fY_walkSets_b69
    dsimp only
    have g8 : ¬ A' 0 8 = 0 := by rw [fr 0 (by omega)]; exact h8
    have le : ∀ T, T < 2 ^ m → ∀ h, h < m → c T h ≤ 1000000 := fun T hT h hh => by rw [(t T hT h hh).2]; exact sV_le
    have ck := (t S hS k hk).1
    have cl := le S hS k hk
    simp only [ix8, jix_nI (show 8 * S + k < 2147483648 by omega), ck, nI_1]
    refine Go.no (by rw [nI_le' (by omega) (by omega)]; omega) ?_
    refine Go.gd (⟨g8, (inb_nI (by omega)).mpr (by omega)⟩) ?_
    refine go_bind.mpr ?_
    have fin : ∀ {A2 : Mm}, (∀ T, T < 2 ^ m → ∀ h, h < m → A2 252 (8 * T + h) = nI (sU dd c S k T h)) → (∀ b, b ≠ 252 → A2 b = A' b) → ∃ c A3, (nI (k + 1), A2) = (nI (k + 1), A3) ∧ (∀ T, T < 2 ^ m → ∀ h, h < m → A3 252 (8 * T + h) = nI (c T h) ∧ c T h = sV ds dd m c S (k + 1) T h) ∧ ∀ b, b ≠ 252 → A3 b = A b := fun {A2} q1 q2 =>
      ⟨sU dd c S k, A2, rfl, fun T hT h hh => ⟨q1 T hT h hh, sV_step (t T hT h hh).2⟩, fun b hb => by rw [q2 b hb]; exact fr b hb⟩
    by_cases e : c S k = 1000000
    · refine Go.yes (by rw [e]; exact i32_le.mpr (Int.le_refl _)) ?_
      refine Go.some ?_
      refine Go.some ?_
      refine fin (fun T hT h hh => ?_) (fun _ _ => rfl)
      rw [(t T hT h hh).1]
      unfold sU
      have := le T hT h hh
      split
      · exact congrArg nI (by omega)
      · rfl
    · refine Go.no (by rw [(lit_nI _ : (1000000 : Int32) = nI 1000000), nI_le' (by omega) (by omega)]; omega) ?_
      refine go_bind.mpr ?_
      obtain ⟨A2, z1, z2, z3⟩ := shoK_on (dd := dd) (go := go) hm hS hk g8 (sG_fr hG fr) (fun T hT h hh => ⟨(t T hT h hh).1, le T hT h hh⟩)
      rw [z1]
      refine Go.some ?_
      refine Go.some ?_
      refine Go.some ?_
      exact fin z2 z3
theorem shoK {A : Mm} {dd : Nat → Nat → Nat} {go ds : Nat → Nat} {m x : Nat} (hm : m ≤ 8) (hx : x < 12) (h8 : ¬ A 0 8 = 0) (hG : sG A m go dd) (hd : ∀ j, j < m → A 174 (12 * x + go j) = nI (ds j) ∧ ds j ≤ 1000000) :
    Go (fY_walkSets (nI x) (nI m) A) (fun A' => ∃ c, (∀ T, T < 2 ^ m → ∀ h, h < m → A' 252 (8 * T + h) = nI (c T h)) ∧ sR ds dd m c (2 ^ m) ∧ ∀ b, b ≠ 252 → A' b = A b) := by
  have h256 := p2le hm
  have pm := p2p m
  have e8 : (8 : Int32) <<< (nI m &&& 31) = nI (8 * 2 ^ m) := by
    have : ∀ j : Fin 9, (8 : Int32) <<< (nI j.val &&& 31) = nI (8 * 2 ^ j.val) := by decide +kernel
    exact this ⟨m, by omega⟩
  unfold fY_walkSets
  rw [e8, fda19_eq h8 (by omega)]
  refine go_bind.mpr ?_
  refine Go.some ?_
  refine Go.bind (P := fun A' => (∀ T, T < 2 ^ m → ∀ h, h < m → A' 252 (8 * T + h) = nI (sB ds T h)) ∧ ∀ b, b ≠ 252 → A' b = A b) ?_ ?_
  · refine go_for (fun k st => ∃ A', st = (nI k, A') ∧ (∀ T, T < 2 ^ m → ∀ h, h < m → A' 252 (8 * T + h) = nI (if h < k then sB ds T h else 1000000)) ∧ ∀ b, b ≠ 252 → A' b = A b) m ?_ ?_ (i := 0) (by omega) ⟨_, rfl, fun T hT h hh => by rw [if_neg (by omega), mfill_in (by omega)]; rfl, fun b hb => mfill_r hb⟩ (by omega)
    · rintro st ⟨A', rfl, t, fr⟩
      unfold fY_walkSets_b14
      dsimp only
      exact Go.yes (i32_le.mpr (Int.le_refl _)) (Go.some ⟨fun T hT h hh => by rw [t T hT h hh, if_pos hh], fr⟩)
    · rintro k st hk ⟨A', rfl, t, fr⟩
      unfold fY_walkSets_b14
      dsimp only
      obtain ⟨k1, k2⟩ := hG.1 k hk
      obtain ⟨d1, d2⟩ := hd k hk
      have g8 : ¬ A' 0 8 = 0 := by rw [fr 0 (by omega)]; exact h8
      have lk : 2 ^ k < 2 ^ m := Nat.pow_lt_pow_right (by omega) hk
      have pk := p2p k
      simp only [fr 175 (by omega), jix_nI (show k < 2147483648 by omega), k1, ix12, jix_nI (show 12 * x + go k < 2147483648 by omega), fr 174 (by omega), d1, shl_nI (show k < 31 by omega), ix8, jix_nI (show 8 * 2 ^ k + k < 2147483648 by omega), nI_1]
      refine Go.no (by rw [nI_le' (by omega) (by omega)]; omega) ?_
      refine Go.gd ((inb_nI (by omega)).mpr (by omega)) ?_
      refine Go.gd ((inb_nI (by omega)).mpr (by omega)) ?_
      refine Go.gd (⟨g8, (inb_nI (by omega)).mpr (by omega)⟩) ?_
      refine Go.some ?_
      refine ⟨_, rfl, fun T hT h hh => ?_, fun b hb => by rw [mput_r hb]; exact fr b hb⟩
      by_cases e : h = k ∧ T = 2 ^ k
      · obtain ⟨rfl, rfl⟩ := e
        rw [mput_same, if_pos (by omega)]
        unfold sB
        rw [if_pos rfl]
      · rw [mput_s (by omega), t T hT h hh]
        by_cases e1 : h = k
        · subst e1
          rw [if_neg (by omega), if_pos (by omega)]
          unfold sB
          rw [if_neg (fun q => e ⟨rfl, q⟩)]
        · by_cases l : h < k
          · rw [if_pos l, if_pos (by omega)]
          · rw [if_neg l, if_neg (by omega)]
  · rintro A1 ⟨a1, fr1⟩
    refine Go.bind (P := fun A' => ∃ c, (∀ T, T < 2 ^ m → ∀ h, h < m → A' 252 (8 * T + h) = nI (c T h)) ∧ sR ds dd m c (2 ^ m) ∧ ∀ b, b ≠ 252 → A' b = A b) ?_ (fun e he => Go.some he)
    refine go_for (fun s st => ∃ c A', st = (nI s, A') ∧ (∀ T, T < 2 ^ m → ∀ h, h < m → A' 252 (8 * T + h) = nI (c T h) ∧ c T h = sV ds dd m c s 0 T h) ∧ ∀ b, b ≠ 252 → A' b = A b) (2 ^ m) ?_ ?_ (i := 1) (by omega) ⟨sB ds, A1, rfl, fun T hT h hh => ⟨a1 T hT h hh, sV_first (hd h hh).2 hm⟩, fr1⟩ (by omega)
    · rintro st ⟨c, A', rfl, t, fr⟩
      unfold fY_walkSets_b58
      dsimp only
      rw [shl_nI (by omega)]
      exact Go.yes (i32_le.mpr (Int.le_refl _)) (Go.some ⟨c, fun T hT h hh => (t T hT h hh).1, sV_last (fun T hT h hh => (t T hT h hh).2), fr⟩)
    · rintro s st hs ⟨c, A', rfl, t, fr⟩
      unfold fY_walkSets_b58
      dsimp only
      rw [shl_nI (by omega), nI_1]
      refine Go.no (by rw [nI_le' (by omega) (by omega)]; omega) ?_
      refine Go.bind (shoK_set hm hs (by rw [fr 0 (by omega)]; exact h8) (sG_fr hG fr) t) ?_
      rintro A2 ⟨c2, t2, fr2⟩
      refine Go.some ?_
      exact ⟨c2, A2, rfl, t2, fun b hb => by rw [fr2 b hb]; exact fr b hb⟩
theorem shoK_end {A : Mm} {w go : Nat → Nat} {m : Nat} (x2 : Int32) (hm : m ≤ 8) (h0 : 0 < m) (h8 : ¬ A 0 8 = 0) (hG : ∀ j, j < m → A 175 j = nI (go j) ∧ go j < 12) (hw : ∀ h, h < m → A 252 (8 * (2 ^ m - 1) + h) = nI (w h) ∧ w h ≤ 1000000) :
    Go (lp 1000000 (fun s => fY_shortestEnd_b17 (nI m) x2 (nI (2 ^ m - 1)) A s.1 s.2.1 s.2.2) (1000000, (-1), 0)) (fun e => ∃ c, FL w m c ∧ e = (nI (w c), if w c = 1000000 then -1 else nI (go c))) := by
  have h256 := p2le hm
  refine go_for (fun i s => (i = 0 ∧ s = (1000000, (-1), 0)) ∨ ∃ c, FL w i c ∧ s = (nI (w c), (if w c = 1000000 then -1 else nI (go c)), nI i)) m ?_ ?_ (i := 0) (by omega) (Or.inl ⟨rfl, rfl⟩) (by omega)
  · rintro s (⟨h, -⟩ | ⟨c, h, rfl⟩)
    · omega
    unfold fY_shortestEnd_b17
    dsimp only
    exact Go.yes (i32_le.mpr (Int.le_refl _)) (Go.some ⟨c, h, rfl⟩)
  · rintro i s hi hJ
    obtain ⟨w1, w2⟩ := hw i hi
    obtain ⟨g1, g2⟩ := hG i hi
    have ib : inb (nI (8 * (2 ^ m - 1) + i)) 10025 := (inb_nI (by omega)).mpr (by omega)
    rcases hJ with ⟨rfl, rfl⟩ | ⟨c, h, rfl⟩
    · unfold fY_shortestEnd_b17
      dsimp only
      have z : nI (2 ^ m - 1) * 8 + 0 = nI (8 * (2 ^ m - 1) + 0) := ix8 _ 0
      rw [z, jix_nI (show 8 * (2 ^ m - 1) + 0 < 2147483648 by omega), w1]
      have f1 : FL w 1 0 := ⟨by omega, fun a ha => ⟨by have : a = 0 := by omega
                                                       subst this; exact Nat.le_refl _, fun q => by omega⟩⟩
      refine Go.no (by rw [← nI_zero, nI_le' (by omega) (by omega)]; omega) ?_
      refine Go.gd (⟨h8, ib⟩) ?_
      refine go_bind.mpr ?_
      by_cases e : w 0 = 1000000
      · refine Go.yes (by rw [e]; exact i32_le.mpr (Int.le_refl _)) ?_
        refine Go.some ?_
        refine Go.some ?_
        exact Or.inr ⟨0, f1, by rw [e]; rfl⟩
      · refine Go.no (by rw [(lit_nI _ : (1000000 : Int32) = nI 1000000), nI_le' (by omega) (by omega)]; omega) ?_
        refine Go.gd (⟨h8, ib⟩) ?_
        refine Go.gd (by decide) ?_
        refine Go.some ?_
        refine Go.some ?_
        exact Or.inr ⟨0, f1, by rw [if_neg e, ← g1]; rfl⟩
    · have cm := h.1
      have wc := (hw c (by omega)).2
      unfold fY_shortestEnd_b17
      dsimp only
      simp only [ix8, jix_nI (show 8 * (2 ^ m - 1) + i < 2147483648 by omega), w1, jix_nI (show i < 2147483648 by omega), g1, nI_1]
      refine Go.no (by rw [nI_le' (by omega) (by omega)]; omega) ?_
      refine Go.gd (⟨h8, ib⟩) ?_
      refine go_bind.mpr ?_
      have st := h.step
      by_cases e : w c ≤ w i
      · rw [if_pos e] at st
        refine Go.yes ((nI_le' (by omega) (by omega)).mpr e) ?_
        refine Go.some ?_
        refine Go.some ?_
        exact Or.inr ⟨c, st, rfl⟩
      · rw [if_neg e] at st
        refine Go.no (by rw [nI_le' (by omega) (by omega)]; exact e) ?_
        refine Go.gd (⟨h8, ib⟩) ?_
        refine Go.gd ((inb_nI (by omega)).mpr (by omega)) ?_
        refine Go.some ?_
        refine Go.some ?_
        exact Or.inr ⟨i, st, by rw [if_neg (show ¬ w i = 1000000 by omega)]⟩
end PmShort2
