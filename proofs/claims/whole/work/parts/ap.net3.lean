section PmNet3
def pop (x : Nat) : Nat := sm (fun l => x / 2 ^ l % 2) 12
theorem pop_step {x : Nat} (h : x < 4096) (h1 : 1 ≤ x) : x &&& (x - 1) < x ∧ pop (x &&& (x - 1)) + 1 = pop x := by
  have : ∀ a b : Fin 64, 1 ≤ 64 * a.val + b.val → (64 * a.val + b.val) &&& (64 * a.val + b.val - 1) < 64 * a.val + b.val ∧ pop ((64 * a.val + b.val) &&& (64 * a.val + b.val - 1)) + 1 = pop (64 * a.val + b.val) := by decide +kernel
  have e : x = 64 * (x / 64) + x % 64 := by omega
  have k := this ⟨x / 64, by omega⟩ ⟨x % 64, by omega⟩
  dsimp only at k
  rw [← e] at k
  exact k h1
theorem ones_eq {x : Nat} (h : x < 4096) : fM_onesOf (nI x) = some (nI (pop x)) := by
  refine Go.eq ?_
  unfold fM_onesOf
  refine Go.bind (P := fun y => y = nI (pop x)) ?_ (fun e he => Go.some he)
  refine go_lp (fun k st => ∃ c, st = (nI c, nI k) ∧ k < 4096 ∧ c + pop k = pop x) ?_ _ x _ (by omega) ⟨0, rfl, h, by omega⟩
  rintro k st ⟨c, rfl, hk, hc⟩
  unfold fM_onesOf_b4
  dsimp only
  by_cases e : k = 0
  · subst e
    exact Go.yes rfl (Go.some (congrArg nI (show c = pop x from hc)))
  · obtain ⟨p1, p2⟩ := pop_step hk (by omega)
    refine Go.no (by rw [← nI_zero, nI_eq' (by omega) (by omega)]; exact e) ?_
    refine Go.some ?_
    rw [(lit_nI _ : (1 : Int32) = nI 1), nI_sub' (by omega), and_nI, nI_add]
    exact ⟨k &&& (k - 1), p1, c + 1, rfl, by omega, by omega⟩
theorem al_lt (D : Nat → Int32) : al D 12 < 4096 := ph_lt D _ 12
theorem pop_al (D : Nat → Int32) : pop (al D 12) = cq D 12 := by
  have : ∀ n, n ≤ 12 → sm (fun l => al D 12 / 2 ^ l % 2) n = cq D n := by
    intro n
    induction n with
    | zero => intro _; rfl
    | succ n ih =>
      intro hn
      rw [sm_1, ih (by omega), cq_1]
      have b := al_bit D 12 n
      rw [tb_d, decide_eq_true_eq] at b
      by_cases z : D n = 0
      · rw [if_pos z]
        have : ¬ al D 12 / 2 ^ n % 2 = 1 := fun h => (b.mp h).2 z
        omega
      · rw [if_neg z, b.mpr ⟨by omega, z⟩]
  exact this 12 (Nat.le_refl _)
theorem netM_1 {B : Mm} {D : Nat → Int32} (hD : ∀ q, q < 12 → B 244 q = D q) : lp 1000000 (fun s => fM_fewestPayments_b4 B s.1 s.2) (0, 0) = some (nI (al D 12)) := by
  refine Go.eq ?_
  have b4095 : ∀ q, q ≤ 12 → (4095 : Nat).testBit (cq D q) = true ∨ q = 12 := fun q hq => by
    by_cases e : q = 12
    · exact Or.inr e
    · have := cq_le D q
      left
      have : ∀ j : Fin 12, (4095 : Nat).testBit j.val = true := by decide
      exact this ⟨cq D q, by omega⟩
  have last : ph D 4095 12 = al D 12 := by
    apply Nat.eq_of_testBit_eq
    intro i
    apply Bool.eq_iff_iff.mpr
    rw [ph_bit, al_bit]
    refine ⟨fun h => ⟨h.1, h.2.1⟩, fun h => ⟨h.1, h.2, ?_⟩⟩
    exact (b4095 i (by omega)).elim id fun e => by omega
  refine go_for (fun q st => st = (nI (ph D 4095 q), nI q)) 12 ?_ ?_ (i := 0) (by omega) rfl (by omega)
  · rintro st rfl
    unfold fM_fewestPayments_b4
    dsimp only
    exact Go.yes (by decide) (Go.some (by rw [last]))
  · rintro q st hq rfl
    unfold fM_fewestPayments_b4
    dsimp only
    refine Go.no (by rw [(lit_nI _ : (12 : Int32) = nI 12), nI_le' (by omega) (by omega)]; omega) ?_
    refine Go.gd ((inb_nI (by omega)).mpr hq) ?_
    refine go_bind.mpr ?_
    rw [jix_nI (by omega), hD q hq, shl_nI (by omega), or_nI, nI_1]
    by_cases z : D q = 0
    · refine Go.yes (z) ?_
      refine Go.some ?_
      refine Go.some ?_
      rw [ph_1, if_neg (fun k => k.1 z)]
    · refine Go.no (z) ?_
      refine Go.some ?_
      refine Go.some ?_
      rw [ph_1, if_pos ⟨z, (b4095 q (by omega)).elim id fun e => by omega⟩]
      have := Nat.two_pow_add_eq_or_of_lt (ph_lt D 4095 q) 1
      rw [Nat.mul_one] at this
      rw [this, Nat.or_comm]
theorem netOf_eq {B : Mm} {D : Nat → Int32} {U : Nat} (hU : U < 4096) (hD : ∀ q, q < 12 → B 244 q = D q) : fM_netOf (nI U) B = some (ms D U 12) := by
  refine Go.eq ?_
  unfold fM_netOf
  refine Go.bind (P := fun y => y = ms D U 12) ?_ (fun e he => Go.some he)
  refine go_for (fun q st => st = (ms D U q, nI q)) 12 ?_ ?_ (i := 0) (by omega) rfl (by omega)
  · rintro st rfl
    unfold fM_netOf_b4
    dsimp only
    exact Go.yes (by decide) (Go.some rfl)
  · rintro q st hq rfl
    unfold fM_netOf_b4
    dsimp only
    rw [lies_nI (by omega) (by omega), nI_1]
    refine Go.no (by rw [(lit_nI _ : (12 : Int32) = nI 12), nI_le' (by omega) (by omega)]; omega) ?_
    refine go_bind.mpr ?_
    by_cases b : U.testBit q = true
    · refine Go.no (by rw [if_pos b]; decide) ?_
      refine Go.gd ((inb_nI (by omega)).mpr hq) ?_
      refine Go.some ?_
      refine Go.some ?_
      rw [jix_nI (by omega), hD q hq, ms_1, if_pos b]
    · refine Go.yes (by rw [if_neg b]) ?_
      refine Go.some ?_
      refine Go.some ?_
      rw [ms_1, if_neg b]
theorem netM_in {B : Mm} {G : Nat → Nat} {U V : Nat} (x : Int32) (hU : U < 4096) (h1 : 1 ≤ U) (hs : SubB U V) (hG : ∀ W, W < U → SubB W V → B 245 W = nI (G W) ∧ G W ≤ W) : lp 1000000 (fun s => fM_fewestPayments_b61 x (nI U) B s.1 s.2) (0, 0) = some (nI (mx G U 12)) := by
  refine Go.eq ?_
  have sub : ∀ k, U.testBit k = true → SubB (U - 2 ^ k) V := fun k b i hi => by
    rw [tb_sub b, Bool.and_eq_true] at hi
    exact hs i hi.1
  refine go_for (fun q st => st = (nI (mx G U q), nI q)) 12 ?_ ?_ (i := 0) (by omega) rfl (by omega)
  · rintro st rfl
    unfold fM_fewestPayments_b61
    dsimp only
    exact Go.yes (by decide) (Go.some rfl)
  · rintro q st hq rfl
    unfold fM_fewestPayments_b61
    dsimp only
    have ml := mx_le (f := G) h1 (fun W j b e => by have := tb_ge b; have := p2p j; subst e; exact (hG (U - 2 ^ j) (by omega) (sub j b)).2) q
    rw [lies_nI (by omega) (by omega), nI_1, shl_nI (by omega), clr_nI (by omega)]
    refine Go.no (by rw [(lit_nI _ : (12 : Int32) = nI 12), nI_le' (by omega) (by omega)]; omega) ?_
    refine go_bind.mpr ?_
    by_cases b : U.testBit q = true
    · have ge := tb_ge b
      have pk := p2p q
      obtain ⟨g1, g2⟩ := hG (U - 2 ^ q) (by omega) (sub q b)
      rw [if_pos b, if_pos b]
      refine Go.no (by decide) ?_
      refine Go.gd ((inb_nI (by omega)).mpr (by omega)) ?_
      refine Go.some ?_
      refine Go.some ?_
      rw [jix_nI (by omega), g1, ← jmax_eq, jmax_nI (by omega) (by omega), mx_1, if_pos b]
    · refine Go.yes (by rw [if_neg b]) ?_
      refine Go.some ?_
      refine Go.some ?_
      rw [mx_1, if_neg b]
theorem netM {B : Mm} {D : Nat → Int32} (hD : ∀ q, q < 12 → B 244 q = D q) :
    Go (fM_fewestPayments B) (fun y => ∃ G, (∀ U, U ≤ al D 12 → SubB U (al D 12) → G U = if U = 0 then 0 else mx G U 12 + (if ms D U 12 = 0 then 1 else 0)) ∧ y.1 = nI (cq D 12) - nI (G (al D 12)) ∧ ∀ c, c ≠ 245 → y.2 c = B c) := by
  have al4 := al_lt D
  unfold fM_fewestPayments
  rw [netM_1 hD]
  refine go_bind.mpr ?_
  refine Go.some ?_
  refine Go.bind (P := fun B' => ∃ G, (∀ U, U ≤ al D 12 → SubB U (al D 12) → G U = if U = 0 then 0 else mx G U 12 + (if ms D U 12 = 0 then 1 else 0)) ∧ B' 245 (al D 12) = nI (G (al D 12)) ∧ ∀ c, c ≠ 245 → B' c = B c) ?_ ?_
  rotate_left
  · rintro B' ⟨G, g1, g2, fr⟩
    rw [ones_eq al4]
    refine go_bind.mpr ?_
    refine Go.some ?_
    refine Go.gd ((inb_nI (by omega)).mpr (by omega)) ?_
    refine Go.some ?_
    rw [jix_nI (by omega), pop_al, g2]
    exact ⟨G, g1, rfl, fr⟩
  refine go_for (fun U st => 1 ≤ U ∧ ∃ G B', st = (nI U, B') ∧ (∀ W, W < U → SubB W (al D 12) → B' 245 W = nI (G W) ∧ G W ≤ W) ∧ (∀ W, W < U → SubB W (al D 12) → G W = if W = 0 then 0 else mx G W 12 + (if ms D W 12 = 0 then 1 else 0)) ∧ ∀ c, c ≠ 245 → B' c = B c) (al D 12 + 1) ?_ ?_ (i := 1) (by omega) ⟨Nat.le_refl _, fun _ => 0, _, rfl, fun W hW _ => ?_, fun W hW _ => ?_, fun c hc => mput_r hc⟩ (by omega)
  · rintro st ⟨-, G, B', rfl, g1, g2, fr⟩
    unfold fM_fewestPayments_b40
    dsimp only
    exact Go.yes ((nI_lt' (by omega) (by omega)).mpr (by omega)) (Go.some ⟨G, fun U hU => g2 U (by omega), (g1 _ (by omega) (fun _ h => h)).1, fr⟩)
  · rintro U st hU ⟨h1, G, B', rfl, g1, g2, fr⟩
    unfold fM_fewestPayments_b40
    dsimp only
    rw [nI_1]
    refine Go.no (by rw [nI_lt' (by omega) (by omega)]; omega) ?_
    refine go_bind.mpr ?_
    by_cases s : SubB U (al D 12)
    · refine Go.yes ((sub_nI (by omega)).mpr s) ?_
      refine go_bind.mpr ?_
      rw [netM_in (nI (al D 12)) (by omega) h1 s g1, netOf_eq (D := D) (by omega) (fun q hq => by rw [fr 244 (by omega)]; exact hD q hq)]
      refine Go.some ?_
      refine go_bind.mpr ?_
      refine Go.some ?_
      refine Go.gd ((inb_nI (by omega)).mpr (by omega)) ?_
      refine Go.some ?_
      refine Go.some ?_
      have e : nI (mx G U 12) + (if ms D U 12 = 0 then (1 : Int32) else 0) = nI (mx G U 12 + (if ms D U 12 = 0 then 1 else 0)) := by
        split
        · exact nI_1 _
        · exact Int32.add_zero _
      rw [e, jix_nI (by omega)]
      have gU : ∀ W, W < U → (fun W => if W = U then mx G U 12 + (if ms D U 12 = 0 then 1 else 0) else G W) W = G W := fun W hW => if_neg (by omega)
      have sub : ∀ k, U.testBit k = true → SubB (U - 2 ^ k) (al D 12) := fun k b i hi => by
        rw [tb_sub b, Bool.and_eq_true] at hi
        exact s i hi.1
      have ml := mx_le (f := G) h1 (fun W j b e => by have := tb_ge b; have := p2p j; subst e; exact (g1 (U - 2 ^ j) (by omega) (sub j b)).2) 12
      refine ⟨by omega, fun W => if W = U then mx G U 12 + (if ms D U 12 = 0 then 1 else 0) else G W, _, rfl, fun W hW hs => ?_, fun W hW hs => ?_, fun c hc => by rw [mput_r hc]; exact fr c hc⟩
      · by_cases q : W = U
        · subst q
          rw [mput_same]
          dsimp only
          rw [if_pos rfl]
          refine ⟨rfl, ?_⟩
          split <;> omega
        · rw [gU W (by omega), mput_s q]; exact g1 W (by omega) hs
      · by_cases q : W = U
        · subst q
          rw [mx_congr gU]
          dsimp only
          rw [if_pos rfl, if_neg (show ¬ W = 0 by omega)]
        · rw [mx_congr (fun X hX => gU X (by omega)), gU W (by omega)]; exact g2 W (by omega) hs
    · refine Go.no (fun h => s ((sub_nI (by omega)).mp h)) ?_
      refine Go.some ?_
      refine Go.some ?_
      refine ⟨by omega, G, B', rfl, fun W hW hs => ?_, fun W hW hs => ?_, fr⟩
      · by_cases q : W = U
        · subst q; exact absurd hs s
        · exact g1 W (by omega) hs
      · by_cases q : W = U
        · subst q; exact absurd hs s
        · exact g2 W (by omega) hs
  · have : W = 0 := by omega
    subst this
    exact ⟨mput_same _ _ _ _, Nat.le_refl _⟩
  · have : W = 0 := by omega
    subst this
    rfl
theorem sim_net {A B : Mm} (x : Int32) (h : RR A B) : Sim A B (fK_net x A) (fM_net x B) := by
  have h0 := h
  obtain ⟨-, -, ⟨-, ⟨-, -, hne⟩, -⟩, -⟩ := h0
  have hne : ∀ d, d < 12 → A 140 d = B 244 d := hne
  unfold Sim fK_net fM_net
  simp only [isIn_eq]
  by_cases x0 : x = -1
  · subst x0
    obtain ⟨y, ye, g, E, g1, g2, g3, fr⟩ := netK (A := fK_theDesk A) (D := B 244) (fun q hq => by rw [desk_r (by omega) (by omega)]; exact hne q hq) (desk_8 A)
    obtain ⟨y', ye', G, G1, G2, fr'⟩ := netM (B := mput B 217 0 0) (D := B 244) (fun q hq => by rw [mput_r (by omega)])
    have eq : g (2 ^ cq (B 244) 12 - 1) = G (al (B 244) 12) := nR_uniq g1 (nR_ph g2 G1 (fun S hS => ph_le_al hS)) (2 ^ cq (B 244) 12 - 1) (by have := p2p (cq (B 244) 12); omega)
    refine Go.yes (by first | rfl | (simp; done)) ?_
    refine go_bind.mpr ?_
    refine ⟨y, ye, ?_⟩
    refine Go.some ?_
    refine Go.no (by decide) ?_
    refine Go.yes (by first | rfl | (simp; done)) ?_
    refine go_bind.mpr ?_
    refine ⟨y', ye', ?_⟩
    refine Go.some ?_
    refine ⟨by rw [g3, G2, eq], fin_r h (fun c k e => ?_) (fun c k e => ?_)⟩
    · dsimp only
      rw [fr c (fun q => by subst q; exact absurd e (by rw [show aR 170 k = false from rfl]; decide)) (fun q => by subst q; exact absurd e (by rw [show aR 252 k = false from rfl]; decide))]
      exact desk_r (fun q => by subst q; exact absurd e (by rw [show aR 252 k = false from rfl]; decide)) (fun q => by obtain ⟨rfl, rfl⟩ := q; exact absurd e (by decide))
    · dsimp only
      rw [fr' c (fun q => by subst q; exact absurd e (by rw [show bR 245 k = false from rfl]; decide))]
      exact fb_put (fb_rfl bR B) rfl c k e
  · have w : fK_isWithin x (-1) 11 = fK_isWithin x 0 11 := by
      have t1 : (-1 : Int32).toInt = -1 := by decide
      have t2 : (0 : Int32).toInt = 0 := by decide
      have t3 : ¬ x.toInt = -1 := fun q => x0 (i32_eq.mpr (q.trans t1.symm))
      rw [within_iff, within_iff]
      simp only [i32_le, t1, t2]
      by_cases c : 0 ≤ x.toInt ∧ x.toInt ≤ Int32.toInt 11
      · rw [if_pos c, if_pos (by omega)]
      · rw [if_neg c, if_neg (by omega)]
    refine Go.no (x0) ?_
    rcases within_nI1 x (a := 0) (b := 11) (by omega) (by omega) with ⟨q, k, -, hk, rfl⟩ | ⟨q, -⟩
    · have q : fK_isWithin (nI k) 0 11 = 1 := q
      refine Go.no (by rw [q]; decide) ?_
      refine Go.gd ((inb_nI (by omega)).mpr (by omega)) ?_
      refine Go.some ?_
      refine Go.no (by rw [w, q]; decide) ?_
      refine Go.no (x0) ?_
      refine Go.gd ((inb_nI (by omega)).mpr (by omega)) ?_
      refine Go.some ?_
      refine ⟨?_, fin_0 h⟩
      dsimp only
      rw [jix_nI (by omega), mput_r (by omega), hne k (by omega)]
    · have q : fK_isWithin x 0 11 = 0 := q
      refine Go.yes (q) ?_
      refine Go.some ?_
      refine Go.yes (by rw [w, q]) ?_
      refine Go.some ?_
      exact ⟨rfl, fin_0 h⟩
end PmNet3
