section PmShort3
def eM (x : Nat) : Nat := if x = 1000000 then 100000000 else x
theorem eM_le {x : Nat} (h : x ≤ 1000000) : eM x ≤ 100000000 := by unfold eM; split <;> omega
theorem eM_min {a b d : Nat} (ha : a ≤ 1000000) (hb : b = 1000000 ∨ b ≤ 400000) (hd : d = 1000000 ∨ d ≤ 1287) : fM_lesser (nI (eM a)) (nI (eM b) + nI (eM d)) = nI (eM (min a (b + d))) := by
  have h1 := eM_le ha
  have h2 := eM_le (show b ≤ 1000000 by omega)
  have h3 := eM_le (show d ≤ 1000000 by omega)
  rw [← jmin_eq, nI_add, jmin_nI (by omega) (by omega)]
  refine congrArg nI ?_
  unfold eM
  rcases hb with rfl | hb
  · rw [if_pos rfl]
    split <;> split <;> split <;> omega
  · rcases hd with rfl | hd
    · rw [if_pos (rfl : (1000000 : Nat) = 1000000)]
      split <;> split <;> split <;> omega
    · rw [if_neg (show ¬ b = 1000000 by omega), if_neg (show ¬ d = 1000000 by omega)]
      split <;> split <;> omega
/-- goals and ways between them, in the model -/
def sM (B : Mm) (m : Nat) (go : Nat → Nat) (dd : Nat → Nat → Nat) : Prop := B 217 42 = nI m ∧ (∀ j, j < m → B 239 j = nI (go j) ∧ go j < 12) ∧ ∀ i j, i < m → j < m → B 238 (12 * go i + go j) = nI (eM (dd i j)) ∧ (dd i j = 1000000 ∨ dd i j ≤ 1287)
theorem sM_fr {B B' : Mm} {m : Nat} {go : Nat → Nat} {dd : Nat → Nat → Nat} (h : sM B m go dd) (fr : ∀ c, c ≠ 240 → B' c = B c) : sM B' m go dd := by
  unfold sM
  rw [fr 217 (by omega), fr 239 (by omega), fr 238 (by omega)]; exact h
theorem shoM_least {B : Mm} {f dd : Nat → Nat → Nat} {go ds : Nat → Nat} {m S g x : Nat} (hm : m ≤ 8) (hx : x < 12) (hS : S < 2 ^ m) (hg : g < m) (b : S.testBit g = true) (hM : sM B m go dd) (hd : ∀ j, j < m → B 238 (12 * x + go j) = nI (eM (ds j)) ∧ (ds j = 1000000 ∨ ds j ≤ 1287)) (hf : sR ds dd m f S) (ht : ∀ T, T < S → ∀ h, h < m → T.testBit h = true → B 240 (8 * T + h) = nI (eM (f T h))) :
    fM_leastTo (nI x) (nI S) (nI g) B = some (nI (eM (min (sB ds S g) (sn f dd (S - 2 ^ g) g m)))) := by
  have h256 := p2le hm
  have ge := tb_ge b
  have pg := p2p g
  obtain ⟨h42, hgo, hdd⟩ := hM
  obtain ⟨d1, d2⟩ := hd g hg
  refine Go.eq ?_
  unfold fM_leastTo
  rw [shl_nI (by omega), clr_nI (by omega), if_pos b]
  by_cases z : S = 2 ^ g
  · have r0 : S - 2 ^ g = 0 := by omega
    rw [r0]
    refine Go.yes (rfl) ?_
    refine Go.gd ((inb_nI (by omega)).mpr (by omega)) ?_
    rw [jix_nI (show g < 2147483648 by omega), (hgo g hg).1, ix12']
    have := (hgo g hg).2
    refine Go.gd ((inb_nI (by omega)).mpr (by omega)) ?_
    refine Go.some ?_
    rw [jix_nI (by omega), d1, sn_inf (fun i hi => by rw [hf 0 (by omega) i hi, if_neg (by rw [Nat.zero_testBit]; decide)])]
    unfold sB
    rw [if_pos z]
    exact congrArg (fun y => nI (eM y)) (by omega)
  · have eB : sB ds S g = 1000000 := if_neg z
    have sl := sn_le f dd (S - 2 ^ g) g m
    refine Go.no (by rw [← nI_zero, nI_eq' (by omega) (by omega)]; omega) ?_
    have e1 : min (sB ds S g) (sn f dd (S - 2 ^ g) g m) = sn f dd (S - 2 ^ g) g m := by rw [eB]; omega
    rw [e1]
    refine Go.bind (P := fun y => y = nI (eM (sn f dd (S - 2 ^ g) g m))) ?_ (fun e he => Go.some he)
    refine go_for (fun k st => st = (nI (eM (sn f dd (S - 2 ^ g) g k)), nI k)) m ?_ ?_ (i := 0) (by omega) rfl (by omega)
    · rintro st rfl
      unfold fM_leastTo_b39
      dsimp only
      exact Go.yes (by rw [h42]; exact i32_le.mpr (Int.le_refl _)) (Go.some rfl)
    · rintro k st hk rfl
      unfold fM_leastTo_b39
      dsimp only
      have gk := hgo k hk
      have gg := hgo g hg
      have dk := hdd k g hk hg
      have fb := sR_bd hf (by omega) (fun h hh => (hd h hh).2) (fun i h hi hh => (hdd i h hi hh).2) (S - 2 ^ g) (by omega) k hk
      rw [lies_nI (by omega) (by omega), ix8', jix_nI (show 8 * (S - 2 ^ g) + k < 2147483648 by omega), jix_nI (show k < 2147483648 by omega), jix_nI (show g < 2147483648 by omega), gk.1, gg.1, ix12', jix_nI (show 12 * go k + go g < 2147483648 by omega), dk.1, nI_1]
      refine Go.no (by rw [h42, nI_le' (by omega) (by omega)]; omega) ?_
      refine go_bind.mpr ?_
      by_cases c : (S - 2 ^ g).testBit k = true
      · refine Go.no (by rw [if_pos c]; decide) ?_
        refine Go.gd ((inb_nI (by omega)).mpr (by omega)) ?_
        refine Go.gd ((inb_nI (by omega)).mpr (by omega)) ?_
        refine Go.gd ((inb_nI (by omega)).mpr (by omega)) ?_
        refine Go.gd ((inb_nI (by omega)).mpr (by omega)) ?_
        refine Go.some ?_
        refine Go.some ?_
        rw [ht (S - 2 ^ g) (by omega) k hk c, eM_min (sn_le f dd (S - 2 ^ g) g k) (by omega) dk.2, sn_1]
      · refine Go.yes (by rw [if_neg c]) ?_
        refine Go.some ?_
        refine Go.some ?_
        have := sn_le f dd (S - 2 ^ g) g k
        rw [sn_1, hf (S - 2 ^ g) (by omega) k hk, if_neg c]
        exact congrArg (fun y => (nI (eM y), nI (k + 1))) (by omega)
theorem shoM_set {B : Mm} {f dd : Nat → Nat → Nat} {go ds : Nat → Nat} {m S x : Nat} (x2 x3 : Int32) (hm : m ≤ 8) (hx : x < 12) (hS : S < 2 ^ m) (hM : sM B m go dd) (hd : ∀ j, j < m → B 238 (12 * x + go j) = nI (eM (ds j)) ∧ (ds j = 1000000 ∨ ds j ≤ 1287)) (hf : sR ds dd m f S) (ht : ∀ T, T < S → ∀ h, h < m → T.testBit h = true → B 240 (8 * T + h) = nI (eM (f T h))) :
    Go (lp 1000000 (fun s => fM_shortest_b83 (nI x) x2 x3 (nI S) s.1 s.2) (0, B)) (fun B' => (∀ h, h < m → S.testBit h = true → B' 240 (8 * S + h) = nI (eM (min (sB ds S h) (sn f dd (S - 2 ^ h) h m)))) ∧ (∀ T, T < S → ∀ h, h < m → B' 240 (8 * T + h) = B 240 (8 * T + h)) ∧ ∀ c, c ≠ 240 → B' c = B c) := by
  have h256 := p2le hm
  refine go_for (fun g st => ∃ B', st = (nI g, B') ∧ (∀ h, h < g → S.testBit h = true → B' 240 (8 * S + h) = nI (eM (min (sB ds S h) (sn f dd (S - 2 ^ h) h m)))) ∧ (∀ T, T < S → ∀ h, h < m → B' 240 (8 * T + h) = B 240 (8 * T + h)) ∧ ∀ c, c ≠ 240 → B' c = B c) m ?_ ?_ (i := 0) (by omega) ⟨B, rfl, fun h hh => by omega, fun _ _ _ _ => rfl, fun _ _ => rfl⟩ (by omega)
  · rintro st ⟨B', rfl, t, u, fr⟩
    unfold fM_shortest_b83
    dsimp only
    exact Go.yes (by rw [(sM_fr hM fr).1]; exact i32_le.mpr (Int.le_refl _)) (Go.some ⟨t, u, fr⟩)
  · rintro g st hg ⟨B', rfl, t, u, fr⟩
    unfold fM_shortest_b83
    dsimp only
    rw [lies_nI (by omega) (by omega), nI_1]
    refine Go.no (by rw [(sM_fr hM fr).1, nI_le' (by omega) (by omega)]; omega) ?_
    refine go_bind.mpr ?_
    by_cases b : S.testBit g = true
    · refine Go.no (by rw [if_pos b]; decide) ?_
      refine go_bind.mpr ?_
      rw [shoM_least hm hx hS hg b (sM_fr hM fr) (fun j hj => by rw [fr 238 (by omega)]; exact hd j hj) hf (fun T hT h hh q => by rw [u T hT h hh]; exact ht T hT h hh q), ix8']
      refine Go.some ?_
      refine Go.gd ((inb_nI (by omega)).mpr (by omega)) ?_
      refine Go.some ?_
      refine Go.some ?_
      rw [jix_nI (by omega)]
      refine ⟨_, rfl, fun h hh q => ?_, fun T hT h hh => by rw [mput_s (by omega)]; exact u T hT h hh, fun c hc => by rw [mput_r hc]; exact fr c hc⟩
      by_cases e : h = g
      · subst e; rw [mput_same]
      · rw [mput_s (by omega)]; exact t h (by omega) q
    · refine Go.yes (by rw [if_neg b]) ?_
      refine Go.some ?_
      refine Go.some ?_
      refine ⟨B', rfl, fun h hh q => ?_, u, fr⟩
      by_cases e : h = g
      · subst e; exact absurd q b
      · exact t h (by omega) q
theorem shoM {B : Mm} {dd : Nat → Nat → Nat} {go ds : Nat → Nat} {m x : Nat} (x2 : Int32) (hm : m ≤ 8) (hx : x < 12) (hM : sM B m go dd) (hd : ∀ j, j < m → B 238 (12 * x + go j) = nI (eM (ds j)) ∧ (ds j = 1000000 ∨ ds j ≤ 1287)) :
    Go (lp 1000000 (fun s => fM_shortest_b74 (nI x) x2 (nI (2 ^ m - 1)) s.1 s.2) (1, B)) (fun B' => ∃ f, (∀ T, T < 2 ^ m → ∀ h, h < m → T.testBit h = true → B' 240 (8 * T + h) = nI (eM (f T h))) ∧ sR ds dd m f (2 ^ m) ∧ ∀ c, c ≠ 240 → B' c = B c) := by
  have h256 := p2le hm
  have pm := p2p m
  refine go_for (fun S st => ∃ f B', st = (nI S, B') ∧ (∀ T, T < S → ∀ h, h < m → T.testBit h = true → B' 240 (8 * T + h) = nI (eM (f T h))) ∧ sR ds dd m f S ∧ ∀ c, c ≠ 240 → B' c = B c) (2 ^ m) ?_ ?_ (i := 1) (by omega) ⟨fun _ _ => 1000000, B, rfl, fun T hT h hh q => ?_, fun T hT h hh => ?_, fun _ _ => rfl⟩ (by omega)
  · rintro st ⟨f, B', rfl, t, u, fr⟩
    unfold fM_shortest_b74
    dsimp only
    exact Go.yes ((nI_lt' (by omega) (by omega)).mpr (by omega)) (Go.some ⟨f, t, u, fr⟩)
  · rintro S st hS ⟨f, B', rfl, t, u, fr⟩
    unfold fM_shortest_b74
    dsimp only
    rw [nI_1]
    refine Go.no (by rw [nI_lt' (by omega) (by omega)]; omega) ?_
    refine Go.bind (shoM_set x2 _ hm hx hS (sM_fr hM fr) (fun j hj => by rw [fr 238 (by omega)]; exact hd j hj) u t) ?_
    rintro B2 ⟨v1, v2, v3⟩
    refine Go.some ?_
    have low : ∀ T, T < S → ∀ h, (fun T h => if T = S then (if S.testBit h = true then min (sB ds S h) (sn f dd (S - 2 ^ h) h m) else 1000000) else f T h) T h = f T h := fun T hT h => if_neg (by omega)
    refine ⟨fun T h => if T = S then (if S.testBit h = true then min (sB ds S h) (sn f dd (S - 2 ^ h) h m) else 1000000) else f T h, B2, rfl, fun T hT h hh q => ?_, fun T hT h hh => ?_, fun c hc => by rw [v3 c hc]; exact fr c hc⟩
    · by_cases e : T = S
      · subst e
        dsimp only
        rw [if_pos rfl, if_pos q]
        exact v1 h hh q
      · rw [low T (by omega) h, v2 T (by omega) h hh]; exact t T (by omega) h hh q
    · have snl : ∀ U, U < S → ∀ g k, sn (fun T h => if T = S then (if S.testBit h = true then min (sB ds S h) (sn f dd (S - 2 ^ h) h m) else 1000000) else f T h) dd U g k = sn f dd U g k := fun U hU g k => sn_congr fun i _ => low U hU i
      by_cases e : T = S
      · subst e
        dsimp only
        rw [if_pos rfl]
        by_cases q : T.testBit h = true
        · have := tb_ge q
          have := p2p h
          rw [if_pos q, if_pos q, snl _ (by omega)]
        · rw [if_neg q, if_neg q]
      · rw [low T (by omega) h, u T (by omega) h hh]
        by_cases q : T.testBit h = true
        · have := tb_ge q
          have := p2p h
          rw [if_pos q, if_pos q, snl _ (by omega)]
        · rw [if_neg q, if_neg q]
  · have : T = 0 := by omega
    subst this
    rw [Nat.zero_testBit] at q; cases q
  · have : T = 0 := by omega
    subst this
    rw [if_neg (by rw [Nat.zero_testBit]; decide)]
theorem shoM_end {B : Mm} {w : Nat → Nat} {m : Nat} (x2 : Int32) (hm : m ≤ 8) (h0 : 0 < m) (h42 : B 217 42 = nI m) (hw : ∀ h, h < m → B 240 (8 * (2 ^ m - 1) + h) = nI (w h) ∧ w h ≤ 100000000) :
    Go (lp 1000000 (fun s => fM_shortest_b143 x2 (nI (2 ^ m - 1)) B s.1 s.2) (0, 1)) (fun e => ∃ c, FL w m c ∧ e = nI c) := by
  have h256 := p2le hm
  have f1 : FL w 1 0 := ⟨by omega, fun a ha => by
    have : a = 0 := by omega
    subst this; exact ⟨Nat.le_refl _, fun q => by omega⟩⟩
  refine go_for (fun i s => ∃ c, FL w i c ∧ s = (nI c, nI i)) m ?_ ?_ (i := 1) (by omega) ⟨0, f1, rfl⟩ (by omega)
  · rintro s ⟨c, h, rfl⟩
    unfold fM_shortest_b143
    dsimp only
    exact Go.yes (by rw [h42]; exact i32_le.mpr (Int.le_refl _)) (Go.some ⟨c, h, rfl⟩)
  · rintro i s hi ⟨c, h, rfl⟩
    have cm := h.1
    obtain ⟨w1, w2⟩ := hw i hi
    obtain ⟨c1, c2⟩ := hw c (by omega)
    unfold fM_shortest_b143
    dsimp only
    simp only [ix8', jix_nI (show 8 * (2 ^ m - 1) + i < 2147483648 by omega), jix_nI (show 8 * (2 ^ m - 1) + c < 2147483648 by omega), w1, c1, nI_1]
    refine Go.no (by rw [h42, nI_le' (by omega) (by omega)]; omega) ?_
    refine Go.gd ((inb_nI (by omega)).mpr (by omega)) ?_
    refine Go.gd ((inb_nI (by omega)).mpr (by omega)) ?_
    refine Go.some ?_
    refine ⟨_, h.step, ?_⟩
    simp only [nI_le' (show w c < 2147483648 by omega) (show w i < 2147483648 by omega)]
    by_cases e : w c ≤ w i
    · simp only [if_pos e]
    · simp only [if_neg e]
/-! which doors have letters -/
theorem goK {A : Mm} {D : Nat → Int32} {n m x : Nat} (x2 : Int32) (hn : n ≤ 12) (hx : x < n) (hm : m ≤ 24) (h2 : A 2 0 = nI n) (h8 : A 8 0 = nI m) (hD : ∀ q, D q = if q ≠ x ∧ cnt (A 10) (nI q) m ≠ 0 then 1 else 0) :
    Go (lp 1000000 (fun s => fY_walkAll_b6 (nI x) x2 s.1 s.2.1 s.2.2) (0, 0, A)) (fun e => (8 < cq D n ∧ ∃ A', e = Sum.inl A' ∧ ∀ c, c ≠ 175 → A' c = A c) ∨ (cq D n ≤ 8 ∧ ∃ A', e = Sum.inr (nI (cq D n), A') ∧ (∀ q, q < n → D q ≠ 0 → A' 175 (cq D q) = nI q) ∧ ∀ c, c ≠ 175 → A' c = A c)) := by
  refine go_for (fun q st => ∃ A', st = (nI (cq D q), nI q, A') ∧ cq D q ≤ 8 ∧ (∀ r, r < q → D r ≠ 0 → A' 175 (cq D r) = nI r) ∧ ∀ c, c ≠ 175 → A' c = A c) n ?_ ?_ (i := 0) (by omega) ⟨A, rfl, by show 0 ≤ 8; omega, fun r hr => by omega, fun _ _ => rfl⟩ (by omega)
  · rintro st ⟨A', rfl, c8, t, fr⟩
    unfold fY_walkAll_b6
    dsimp only
    exact Go.yes (by rw [fr 2 (by omega), h2]; exact i32_le.mpr (Int.le_refl _)) (Go.some (Or.inr ⟨c8, A', rfl, t, fr⟩))
  · rintro q st hq ⟨A', rfl, c8, t, fr⟩
    unfold fY_walkAll_b6 fY_walkAll_j57
    dsimp only
    have a2 : A' 2 0 = nI n := by rw [fr 2 (by omega)]; exact h2
    have a8 : A' 8 0 = nI m := by rw [fr 8 (by omega)]; exact h8
    have cl : cnt (A 10) (nI q) m ≤ m := cnt_le _ _ _
    rw [countFor_eq (nI q) hm a8, fr 10 (by omega), nI_1]
    refine Go.no (by rw [a2, nI_le' (by omega) (by omega)]; omega) ?_
    have skip : D q = 0 → ∃ A2, (nI (cq D q), nI (q + 1), A') = (nI (cq D (q + 1)), nI (q + 1), A2) ∧ cq D (q + 1) ≤ 8 ∧ (∀ r, r < q + 1 → D r ≠ 0 → A2 175 (cq D r) = nI r) ∧ ∀ c, c ≠ 175 → A2 c = A c := fun z => by
      refine ⟨A', by rw [cq_1, if_pos z]; rfl, by rw [cq_1, if_pos z]; exact c8, fun r hr hz => ?_, fr⟩
      by_cases e : r = q
      · subst e; exact absurd z hz
      · exact t r (by omega) hz
    by_cases e : q = x
    · refine Go.yes (by rw [e]) ?_
      refine Go.some ?_
      exact skip (by rw [hD, if_neg (fun k => k.1 e)])
    · refine Go.no (by rw [nI_eq' (by omega) (by omega)]; exact e) ?_
      refine go_bind.mpr ?_
      refine Go.some ?_
      by_cases z : cnt (A 10) (nI q) m = 0
      · refine Go.yes (by rw [z]; decide) ?_
        refine Go.some ?_
        exact skip (by rw [hD, if_neg (fun k => k.2 z)])
      · have nz : D q ≠ 0 := by rw [hD, if_pos ⟨e, z⟩]; decide
        refine Go.no (by rw [← nI_zero, nI_le' (by omega) (by omega)]; omega) ?_
        by_cases l : cq D q < 8
        · refine Go.yes (by rw [(lit_nI _ : (8 : Int32) = nI 8), nI_lt' (by omega) (by omega)]; exact l) ?_
          refine Go.gd ((inb_nI (by omega)).mpr l) ?_
          refine Go.some ?_
          rw [jix_nI (by omega), nI_1]
          refine ⟨_, by rw [cq_1, if_neg nz], by rw [cq_1, if_neg nz]; omega, fun r hr hz => ?_, fun c hc => by rw [mput_r hc]; exact fr c hc⟩
          by_cases e : r = q
          · subst e; rw [mput_same]
          · rw [mput_s (by have := cq_lt (D := D) (show r < q by omega) hz; omega)]; exact t r (by omega) hz
        · refine Go.no (by rw [(lit_nI _ : (8 : Int32) = nI 8), nI_lt' (by omega) (by omega)]; exact l) ?_
          refine Go.some ?_
          refine Or.inl ⟨?_, A', rfl, fr⟩
          have := cq_lt (D := D) hq nz
          omega
theorem goM {B : Mm} {D : Nat → Int32} {n m x : Nat} (hn : n ≤ 12) (hx : x < n) (hm : m ≤ 24) (h6 : B 217 6 = nI n) (h10 : B 218 10 = nI m) (hD : ∀ q, D q = if q ≠ x ∧ cnt (fun i => B 218 (55 + 5 * i)) (nI q) m ≠ 0 then 1 else 0) :
    Go (fM_findsGoals (nI x) B) (fun B' => B' 217 42 = nI (cq D n) ∧ (∀ q, q < n → D q ≠ 0 → B' 239 (cq D q) = nI q) ∧ ∀ c k, c ≠ 239 → ¬ (c = 217 ∧ k = 42) → B' c k = B c k) := by
  unfold fM_findsGoals
  refine Go.bind (P := fun B' => B' 217 42 = nI (cq D n) ∧ (∀ q, q < n → D q ≠ 0 → B' 239 (cq D q) = nI q) ∧ ∀ c k, c ≠ 239 → ¬ (c = 217 ∧ k = 42) → B' c k = B c k) ?_ (fun e he => Go.some he)
  refine go_for (fun q st => ∃ B', st = (nI q, B') ∧ B' 217 42 = nI (cq D q) ∧ (∀ r, r < q → D r ≠ 0 → B' 239 (cq D r) = nI r) ∧ ∀ c k, c ≠ 239 → ¬ (c = 217 ∧ k = 42) → B' c k = B c k) n ?_ ?_ (i := 0) (by omega) ⟨_, rfl, mput_same _ _ _ _, fun r hr => by omega, fun c k _ h => mput_q h⟩ (by omega)
  · rintro st ⟨B', rfl, h42, t, fr⟩
    unfold fM_findsGoals_b7
    dsimp only
    exact Go.yes (by rw [fr 217 6 (by omega) (by omega), h6]; exact i32_le.mpr (Int.le_refl _)) (Go.some ⟨h42, t, fr⟩)
  · rintro q st hq ⟨B', rfl, h42, t, fr⟩
    unfold fM_findsGoals_b7
    dsimp only
    have b10 : B' 218 10 = nI m := by rw [fr 218 10 (by omega) (by omega)]; exact h10
    have e218 : (fun i => B' 218 (55 + 5 * i)) = fun i => B 218 (55 + 5 * i) := funext fun i => fr 218 _ (by omega) (by omega)
    have cl : cnt (fun i => B 218 (55 + 5 * i)) (nI q) m ≤ m := cnt_le _ _ _
    have ql := cq_le D q
    rw [lettersFor_eq (nI q) hm b10, e218, nI_1]
    refine Go.no (by rw [fr 217 6 (by omega) (by omega), h6, nI_le' (by omega) (by omega)]; omega) ?_
    refine go_bind.mpr ?_
    have skip : D q = 0 → ∃ B2, (nI (q + 1), B') = (nI (q + 1), B2) ∧ B2 217 42 = nI (cq D (q + 1)) ∧ (∀ r, r < q + 1 → D r ≠ 0 → B2 239 (cq D r) = nI r) ∧ ∀ c k, c ≠ 239 → ¬ (c = 217 ∧ k = 42) → B2 c k = B c k := fun z => by
      refine ⟨B', rfl, by rw [cq_1, if_pos z]; exact h42, fun r hr hz => ?_, fr⟩
      by_cases e : r = q
      · subst e; exact absurd z hz
      · exact t r (by omega) hz
    by_cases e : q = x
    · refine Go.yes (by rw [e]) ?_
      refine Go.some ?_
      refine Go.some ?_
      exact skip (by rw [hD, if_neg (fun k => k.1 e)])
    · refine Go.no (by rw [nI_eq' (by omega) (by omega)]; exact e) ?_
      refine go_bind.mpr ?_
      refine Go.some ?_
      by_cases z : cnt (fun i => B 218 (55 + 5 * i)) (nI q) m = 0
      · refine Go.yes (by rw [z]; rfl) ?_
        refine Go.some ?_
        refine Go.some ?_
        exact skip (by rw [hD, if_neg (fun k => k.2 z)])
      · have nz : D q ≠ 0 := by rw [hD, if_pos ⟨e, z⟩]; decide
        refine Go.no (by rw [← nI_zero, nI_eq' (by omega) (by omega)]; exact z) ?_
        refine Go.gd (by rw [h42]; exact (inb_nI (by omega)).mpr (by omega)) ?_
        refine Go.some ?_
        refine Go.some ?_
        rw [h42, jix_nI (by omega)]
        refine ⟨_, rfl, ?_, fun r hr hz => ?_, fun c k h1 h2 => by rw [mput_q h2, mput_r h1]; exact fr c k h1 h2⟩
        · rw [mput_same, mput_r (by omega), h42, nI_1, cq_1, if_neg nz]
        · rw [mput_r (by omega)]
          by_cases e : r = q
          · subst e; rw [mput_same]
          · rw [mput_s (by have := cq_lt (D := D) (show r < q by omega) hz; omega)]; exact t r (by omega) hz
end PmShort3
