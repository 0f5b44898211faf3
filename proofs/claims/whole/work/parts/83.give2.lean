section PmGive2
theorem hl_ang {h γ : Nat} (hh : h ≤ 99) (hγ : γ ≤ 99) : jmax 0 (nI h - nI γ) = nI (h - γ) ∧ fM_held (nI h - nI γ) 0 99 = nI (h - γ) := by
  have e : (nI h - nI γ).toInt = (h : Int) - γ := by
    rw [i32_sub (by rw [nI_toInt' (by omega), nI_toInt' (by omega)]; omega) (by rw [nI_toInt' (by omega), nI_toInt' (by omega)]; omega), nI_toInt' (by omega), nI_toInt' (by omega)]
  have z : Int32.toInt 0 = 0 := by decide
  have n : Int32.toInt 99 = 99 := by decide
  constructor
  · apply i32_eq.mpr; rw [jmax_toInt, e, nI_toInt' (by omega), z]; omega
  · apply i32_eq.mpr; rw [held_eq (by decide), held_toInt, e, nI_toInt' (by omega), z, n]; omega
theorem hl_up {h a : Nat} (hh : h ≤ 99) (ha : a ≤ 99) : jmin 99 (nI h + nI a) = nI (min 99 (h + a)) ∧ fM_held (nI h + nI a) 0 99 = nI (min 99 (h + a)) := by
  have z : Int32.toInt 0 = 0 := by decide
  have n : Int32.toInt 99 = 99 := by decide
  rw [nI_add]
  constructor
  · apply i32_eq.mpr; rw [jmin_toInt, nI_toInt' (by omega), nI_toInt' (by omega), n]; omega
  · apply i32_eq.mpr; rw [held_eq (by decide), held_toInt, nI_toInt' (by omega), nI_toInt' (by omega), z, n]; omega
theorem fc_held (x : Int32) : Fc (fK_held x (-9) 9) := by
  have z : Int32.toInt (-9) = -9 := by decide
  have n : Int32.toInt 9 = 9 := by decide
  unfold Fc
  rw [held_toInt, z, n]; omega
theorem fc_same {x : Int32} (h : Fc x) : fK_held (x + 0) (-9) 9 = x := by
  have z : Int32.toInt (-9) = -9 := by decide
  have n : Int32.toInt 9 = 9 := by decide
  have e : x + 0 = x := by simp
  rw [e]
  apply i32_eq.mpr
  obtain ⟨h1, h2⟩ := h
  rw [held_toInt, z, n]; omega
def mGA (w c k : Nat) : Bool := !(Nat.beq c (w + 2) || Nat.beq c (w + 4) || Nat.beq c (w + 5) || Nat.beq c (w + 13)) && !(Nat.beq c w && Nat.ble 5 k && Nat.ble k 7)
def mGB (c k : Nat) : Bool := !(Nat.beq c 218 && ((Nat.ble 4 k && Nat.ble k 6) || (Nat.ble 11 k && Nat.ble k 53)))
theorem mGA_r {w c : Nat} (h : c = w + 2 ∨ c = w + 4 ∨ c = w + 5 ∨ c = w + 13) (k : Nat) : mGA w c k = false := by
  rcases h with rfl | rfl | rfl | rfl <;> simp [mGA]
theorem mGA_s {w k : Nat} (h1 : 5 ≤ k) (h2 : k ≤ 7) : mGA w w k = false := by
  have e1 : Nat.ble 5 k = true := Nat.ble_eq.mpr h1
  have e2 : Nat.ble k 7 = true := Nat.ble_eq.mpr h2
  simp [mGA, e1, e2]
theorem mGB_s {k : Nat} (h : (4 ≤ k ∧ k ≤ 6) ∨ (11 ≤ k ∧ k ≤ 53)) : mGB 218 k = false := by
  have : ((Nat.ble 4 k && Nat.ble k 6) || (Nat.ble 11 k && Nat.ble k 53)) = true := by
    rw [Bool.or_eq_true, Bool.and_eq_true, Bool.and_eq_true, Nat.ble_eq, Nat.ble_eq, Nat.ble_eq, Nat.ble_eq]; exact h
  simp [mGB, this]
theorem mGA_of {w c k : Nat} (h : c ≠ w + 2 ∧ c ≠ w + 4 ∧ c ≠ w + 5 ∧ c ≠ w + 13) (h2 : c = w → k < 5 ∨ 7 < k) : mGA w c k = true := by
  have nb : ∀ a b : Nat, a ≠ b → Nat.beq a b = false := fun a b q => by
    cases e : Nat.beq a b
    · rfl
    · exact absurd (Nat.eq_of_beq_eq_true e) q
  have e3 : (Nat.beq c w && Nat.ble 5 k && Nat.ble k 7) = false := by
    cases e : (Nat.beq c w && Nat.ble 5 k && Nat.ble k 7)
    · rfl
    · rw [Bool.and_eq_true, Bool.and_eq_true, Nat.ble_eq, Nat.ble_eq, Nat.beq_eq] at e
      have := h2 e.1.1; omega
  simp only [mGA, nb _ _ h.1, nb _ _ h.2.1, nb _ _ h.2.2.1, nb _ _ h.2.2.2, e3]; rfl
theorem mGB_of {c k : Nat} (h : c = 218 → (k < 4 ∨ 6 < k) ∧ (k < 11 ∨ 53 < k)) : mGB c k = true := by
  have e3 : (Nat.beq c 218 && ((Nat.ble 4 k && Nat.ble k 6) || (Nat.ble 11 k && Nat.ble k 53))) = false := by
    cases e : (Nat.beq c 218 && ((Nat.ble 4 k && Nat.ble k 6) || (Nat.ble 11 k && Nat.ble k 53)))
    · rfl
    · rw [Bool.and_eq_true, Bool.or_eq_true, Bool.and_eq_true, Bool.and_eq_true, Nat.ble_eq, Nat.ble_eq, Nat.ble_eq, Nat.ble_eq, Nat.beq_eq] at e
      have := h e.1; omega
  simp only [mGB, e3]; rfl
/-- what the class and the model do with what is given, cell by cell -/
def GvA (A A' : Mm) (w d κ : Nat) (t : Int32) (h' : Nat) (u6 u7 : Int32) : Prop :=
  (∀ e, A' (w + 2) e = if e = d then fK_held (A (w + 2) d + fC0 κ) (-9) 9 else A (w + 2) e) ∧ (∀ e, A' (w + 4) e = if e = d ∧ κ = 1 then A (w + 4) d - t else A (w + 4) e) ∧ (∀ e, A' (w + 5) e = if e = d then A (w + 5) e + 1 else A (w + 5) e) ∧
  (∀ k, A' (w + 13) k = if k = κ then A (w + 13) k + t else A (w + 13) k) ∧ A' w 5 = nI h' ∧ A' w 6 = u6 ∧ A' w 7 = u7 ∧ FB (mGA w) A A'
def GvB (B B' : Mm) (d κ : Nat) (t : Int32) (h' : Nat) (u6 u7 : Int32) : Prop :=
  (∀ e, e < 12 → B' 218 (18 + e) = if e = d then fK_held (B 218 (18 + d) + fC0 κ) (-9) 9 else B 218 (18 + e)) ∧ (∀ e, e < 12 → B' 218 (30 + e) = if e = d ∧ κ = 1 then B 218 (30 + d) - t else B 218 (30 + e)) ∧ (∀ e, e < 12 → B' 218 (42 + e) = if e = d then B 218 (42 + e) + 1 else B 218 (42 + e)) ∧
  (∀ k, k < 7 → B' 218 (11 + k) = if k = κ then B 218 (11 + k) + t else B 218 (11 + k)) ∧ B' 218 4 = nI (99 - h') ∧ B' 218 5 = u6 ∧ B' 218 6 = u7 ∧ FB mGB B B'
theorem Gv_rel {A A' B B' : Mm} {w d κ n r h h' : Nat} {t u6 u7 : Int32} (hh : h' ≤ 99) (hD : WD A w (B 218) (B 221) n) (hS : WS A w (B 218) r h) (a : GvA A A' w d κ t h' u6 u7) (b : GvB B B' d κ t h' u6 u7) (hd : d < 12) (hp : κ = 1 → 0 ≤ (B 218 (30 + d) - t).toInt) : WD A' w (B' 218) (B' 221) n ∧ WS A' w (B' 218) r h' := by
  obtain ⟨a1, a2, a3, a4, a5, a6, a7, a8⟩ := a
  obtain ⟨b1, b2, b3, b4, b5, b6, b7, b8⟩ := b
  obtain ⟨d1, d2, d3⟩ := hD
  obtain ⟨s1, s2, s3, s4, s5, s6, s7, s8, s9, s10, s11, s12, s13, s14⟩ := hS
  have f : ∀ c k, c ≠ w + 2 ∧ c ≠ w + 4 ∧ c ≠ w + 5 ∧ c ≠ w + 13 → (c = w → k < 5 ∨ 7 < k) → A' c k = A c k := fun c k q1 q2 => a8 c k (mGA_of q1 q2)
  have g : ∀ c k, (c = 218 → (k < 4 ∨ 6 < k) ∧ (k < 11 ∨ 53 < k)) → B' c k = B c k := fun c k q => b8 c k (mGB_of q)
  refine ⟨⟨d1, by rw [f _ _ (by omega) (by omega)]; exact d2, fun e he => ?_⟩, s1, hh, fun k hk => ?_, ?_, ?_, a5, b5, by rw [a6, b6], by rw [a7, b7], ?_, ?_, ?_, ?_, ?_⟩
  · obtain ⟨q1, q2, q3, q4, q5⟩ := d3 e he
    rw [a1, b1 e he, a2, b2 e he, a3, b3 e he, f (w + 3) e (by omega) (by omega), g 221 e (by omega)]
    obtain ⟨r1, r2, r3, r4, r5⟩ := d3 d hd
    rw [r1, r3]
    refine ⟨?_, q2, ?_, ?_, ?_⟩
    · split
      · rfl
      · exact q1
    · split
      · rfl
      · exact q3
    · split
      · rw [q4]
      · exact q4
    · refine ⟨?_, ?_⟩
      · split
        · exact fc_held _
        · exact q5.1
      · split
        · rename_i z
          exact hp z.2
        · exact q5.2
  · rw [a4, b4 k hk, s3 k hk]
  · rw [f _ _ (by omega) (by omega)]; exact s4
  · rw [g _ _ (by omega)]; exact s5
  · rw [f _ _ (by omega) (by omega), g _ _ (by omega)]; exact s10
  · rw [f _ _ (by omega) (by omega), g _ _ (by omega)]; exact s11
  · rw [f _ _ (by omega) (by omega), g _ _ (by omega)]; exact s12
  · rw [f _ _ (by omega) (by omega), g _ _ (by omega)]; exact s13
  · rw [f _ _ (by omega) (by omega), g _ _ (by omega)]; exact s14
theorem give_sim {A B : Mm} {w i d κ μ n r h γ : Nat} (hD : WD A w (B 218) (B 221) n) (hS : WS A w (B 218) r h) (hi : i < 24) (hd : d < 12) (hκ : κ < 7) (hμ : μ ≤ 99) (ek : A (w + 10) i = nI κ) (ed : A (w + 9) i = nI d) (em : A (w + 11) i = nI μ) (hγ : γ ≤ 99) :
    ∃ t A1 A', fW_take w (nI i) (nI γ) A = some (t, A1) ∧ fW_feel w (nI i) t A1 = some A' ∧ t = (if κ = 1 then jmin (nI γ) (B 218 (30 + d)) else nI γ) ∧ ∃ B' h', fM_isGiven (nI d) (nI κ) (nI μ) t B = some B' ∧ WD A' w (B' 218) (B' 221) n ∧ WS A' w (B' 218) r h' ∧ FB (mGA w) A A' ∧ FB mGB B B' ∧ ∀ e, A' (w + 5) e = if e = d then A (w + 5) e + 1 else A (w + 5) e := by
  have hD0 := hD
  have hS0 := hS
  obtain ⟨d1, d2, d3⟩ := hD0
  obtain ⟨s1, s2, s3, s4, s5, s6, s7, s8, s9, s10, s11, s12, s13, s14⟩ := hS0
  have hh9 : 99 - B 218 4 = nI h := by rw [s7]; exact health_nI s2
  have main : ∀ t A1 A' B' h' u6 u7, h' ≤ 99 → fW_take w (nI i) (nI γ) A = some (t, A1) → fW_feel w (nI i) t A1 = some A' → t = (if κ = 1 then jmin (nI γ) (B 218 (30 + d)) else nI γ) → fM_isGiven (nI d) (nI κ) (nI μ) t B = some B' → GvA A A' w d κ t h' u6 u7 → GvB B B' d κ t h' u6 u7 → ∃ t A1 A', fW_take w (nI i) (nI γ) A = some (t, A1) ∧ fW_feel w (nI i) t A1 = some A' ∧ t = (if κ = 1 then jmin (nI γ) (B 218 (30 + d)) else nI γ) ∧ ∃ B' h', fM_isGiven (nI d) (nI κ) (nI μ) t B = some B' ∧ WD A' w (B' 218) (B' 221) n ∧ WS A' w (B' 218) r h' ∧ FB (mGA w) A A' ∧ FB mGB B B' ∧ ∀ e, A' (w + 5) e = if e = d then A (w + 5) e + 1 else A (w + 5) e := by
    intro t A1 A' B' h' u6 u7 q1 q2 q3 q4 q5 q6 q7
    obtain ⟨z1, z2⟩ := Gv_rel q1 hD hS q6 q7 hd (fun k1 => by
      rw [q4, if_pos k1]
      have p0 := (d3 d hd).2.2.2.2.2
      have p1 := jmin_toInt (nI γ) (B 218 (30 + d))
      rw [nI_toInt' (by omega)] at p1
      have p2 := (B 218 (30 + d)).toInt_lt
      rw [i32_sub (by omega) (by omega)]
      omega)
    exact ⟨t, A1, A', q2, q3, q4, B', h', q5, z1, z2, q6.2.2.2.2.2.2.2, q7.2.2.2.2.2.2.2, q6.2.2.1⟩
  have ga : ∀ c k, (c = w + 2 ∨ c = w + 4 ∨ c = w + 5 ∨ c = w + 13) → mGA w c k = false := fun c k q => mGA_r q k
  have gs : ∀ k, 5 ≤ k → k ≤ 7 → mGA w w k = false := fun k q1 q2 => mGA_s q1 q2
  have gb : ∀ k, ((4 ≤ k ∧ k ≤ 6) ∨ (11 ≤ k ∧ k ≤ 53)) → mGB 218 k = false := fun k q => mGB_s q
  have n30 : ∀ e : Nat, 30 + e ≠ 4 := fun e => by omega
  by_cases k1 : κ = 1
  · subst k1
    have tb := take_bill (g := nI γ) hi hd ek ed
    have fe := feel_eq (w := w) (i := i) (d := d) (κ := 1) (μ := μ) (A := mput (mput (mput A (w + 4) d (A (w + 4) d - jmin (nI γ) (A (w + 4) d))) (w + 13) 1 (A (w + 13) 1 + jmin (nI γ) (A (w + 4) d))) (w + 5) d (A (w + 5) d + 1)) (t := jmin (nI γ) (A (w + 4) d)) hi hd hκ hμ (by simp (disch := omega) only [mput_r]; exact ek) (by simp (disch := omega) only [mput_r]; exact ed) (by simp (disch := omega) only [mput_r]; exact em)
    refine main _ _ _ _ h (A w 6) (A w 7) s2 tb fe (by rw [if_pos rfl, (d3 d hd).2.2.1]) (given_eq hd hκ hμ) ?_ ?_
    · simp only [if_true, and_true, true_or, true_and, fl1, fl2, fl3, fl4, if_neg (show ¬ (1 : Nat) = 3 by omega), if_neg (show ¬ (1 : Nat) = 4 by omega), if_neg (show ¬ ((1 : Nat) = 0 ∧ 50 ≤ μ) by omega)]
      refine ⟨fun e => ?_, fun e => ?_, fun e => ?_, fun k => ?_, ?_, ?_, ?_, ?_⟩
      · simp [mput]
      · simp [mput]
      · by_cases q : e = d
        · subst q; simp [mput]
        · simp [mput, q]
      · by_cases q : k = 1
        · subst q; simp [mput]
        · simp [mput, q]
      · simp [mput]; exact s6
      · simp [mput]
      · simp [mput]
      · exact fb_put (fb_put (fb_put (fb_put (fb_rfl _ _) (ga _ _ (by omega))) (ga _ _ (by omega))) (ga _ _ (by omega))) (ga _ _ (by omega))
    · simp only [if_true, and_true, true_or, true_and, gl0, gl1, gl2, gl3, gl4, gl5, if_neg (show ¬ (1 : Nat) = 3 by omega), if_neg (show ¬ (1 : Nat) = 4 by omega), if_neg (show ¬ ((1 : Nat) = 0 ∧ 50 ≤ μ) by omega), if_pos (show (1 : Nat) = 1 from rfl), if_neg (show ¬ ((1 : Nat) = 4 ∨ (1 : Nat) = 5) by omega)]
      refine ⟨fun e he => ?_, fun e he => ?_, fun e he => ?_, fun k hk => ?_, ?_, ?_, ?_, ?_⟩
      · by_cases q : e = d
        · subst q; simp (disch := omega) [mput_s, mput_same]
        · rw [if_neg q]; simp (disch := omega) only [mput_s]
      · by_cases q : e = d
        · subst q; simp (disch := omega) [mput_s, mput_same]
        · rw [if_neg (by omega)]; simp (disch := omega) only [mput_s]
      · by_cases q : e = d
        · subst q; simp (disch := omega) [mput_s, mput_same]
        · rw [if_neg q]; simp (disch := omega) only [mput_s]
      · by_cases q : k = 1
        · subst q; simp (disch := omega) [mput_s, mput_same]
        · rw [if_neg q]; simp (disch := omega) only [mput_s]
      · simp (disch := omega) only [mput_s]; exact s7
      · simp (disch := omega) only [mput_s]; exact s8.symm
      · simp (disch := omega) only [mput_s]; exact s9.symm
      · exact fb_put (fb_put (fb_put (fb_put (fb_rfl _ _) (gb _ (by omega))) (gb _ (by omega))) (gb _ (by omega))) (gb _ (by omega))
  have tb := take_oth (g := nI γ) hi hd hκ k1 ek ed
  have fe := feel_eq (w := w) (i := i) (d := d) (κ := κ) (μ := μ) (A := mput (mput A (w + 13) κ (A (w + 13) κ + nI γ)) (w + 5) d (A (w + 5) d + 1)) (t := nI γ) hi hd hκ hμ (by simp (disch := omega) only [mput_r]; exact ek) (by simp (disch := omega) only [mput_r]; exact ed) (by simp (disch := omega) only [mput_r]; exact em)
  have tt : nI γ = (if κ = 1 then jmin (nI γ) (B 218 (30 + d)) else nI γ) := by rw [if_neg k1]
  have ge := given_eq (B := B) (t := nI γ) hd hκ hμ
  have c0 : Fc (B 218 (18 + d)) := (d3 d hd).2.2.2.2.1
  by_cases k3 : κ = 3
  · subst k3
    refine main _ _ _ _ (h - γ) (A w 6) (A w 7) (by omega) tb fe tt ge ?_ ?_
    · simp only [if_true, and_true, true_or, true_and, fl1, fl2, fl3, fl4, if_pos (show (3 : Nat) = 3 from rfl), if_neg (show ¬ (3 : Nat) = 4 by omega), if_neg (show ¬ ((3 : Nat) = 0 ∧ 50 ≤ μ) by omega)]
      refine ⟨fun e => ?_, fun e => ?_, fun e => ?_, fun k => ?_, ?_, ?_, ?_, ?_⟩
      · simp [mput]
      · simp [mput]
      · by_cases q : e = d
        · subst q; simp [mput]
        · simp [mput, q]
      · by_cases q : k = 3
        · subst q; simp [mput]
        · simp [mput, q]
      · rw [mput_same]
        simp (disch := omega) only [mput_r]
        rw [s6]; exact (hl_ang s2 hγ).1
      · simp [mput]
      · simp [mput]
      · exact fb_put (fb_put (fb_put (fb_put (fb_rfl _ _) (ga _ _ (by omega))) (ga _ _ (by omega))) (ga _ _ (by omega))) (gs _ (by omega) (by omega))
    · simp only [if_true, and_true, true_or, true_and, gl0, gl1, gl2, gl3, gl4, gl5, if_pos (show (3 : Nat) = 3 from rfl), if_neg (show ¬ (3 : Nat) = 4 by omega), if_neg (show ¬ ((3 : Nat) = 0 ∧ 50 ≤ μ) by omega), if_neg (show ¬ (3 : Nat) = 1 by omega), if_neg (show ¬ ((3 : Nat) = 4 ∨ (3 : Nat) = 5) by omega)]
      refine ⟨fun e he => ?_, fun e he => ?_, fun e he => ?_, fun k hk => ?_, ?_, ?_, ?_, ?_⟩
      · by_cases q : e = d
        · subst q; simp (disch := omega) [mput_s, mput_same]
        · rw [if_neg q]; simp (disch := omega) only [mput_s]
      · rw [if_neg (by omega)]; simp (disch := omega) only [mput_s]
      · by_cases q : e = d
        · subst q; simp (disch := omega) [mput_s, mput_same]
        · rw [if_neg q]; simp (disch := omega) only [mput_s]
      · by_cases q : k = 3
        · subst q; simp (disch := omega) [mput_s, mput_same]
        · rw [if_neg q]; simp (disch := omega) only [mput_s]
      · simp (disch := omega) only [mput_s, mput_same]
        rw [hh9, (hl_ang s2 hγ).2]
        exact nI_sub' (a := 99) (by omega)
      · simp (disch := omega) only [mput_s]; exact s8.symm
      · simp (disch := omega) only [mput_s]; exact s9.symm
      · exact fb_put (fb_put (fb_put (fb_put (fb_rfl _ _) (gb _ (by omega))) (gb _ (by omega))) (gb _ (by omega))) (gb _ (by omega))
  by_cases k4 : κ = 4
  · subst k4
    have c4 : fC0 4 = 0 := rfl
    refine main _ _ _ _ h (jmax 0 (A w 6 - nI γ)) (A w 7) s2 tb fe tt ge ?_ ?_
    · simp only [if_true, and_true, true_or, true_and, fl1, fl2, fl3, fl4, if_pos (show (4 : Nat) = 4 from rfl), if_neg (show ¬ (4 : Nat) = 3 by omega), if_neg (show ¬ ((4 : Nat) = 0 ∧ 50 ≤ μ) by omega)]
      refine ⟨fun e => ?_, fun e => ?_, fun e => ?_, fun k => ?_, ?_, ?_, ?_, ?_⟩
      · simp [mput]
      · simp [mput]
      · by_cases q : e = d
        · subst q; simp [mput]
        · simp [mput, q]
      · by_cases q : k = 4
        · subst q; simp [mput]
        · simp [mput, q]
      · simp [mput]; exact s6
      · simp [mput]
      · simp [mput]
      · exact fb_put (fb_put (fb_put (fb_put (fb_rfl _ _) (ga _ _ (by omega))) (ga _ _ (by omega))) (ga _ _ (by omega))) (gs _ (by omega) (by omega))
    · simp only [if_true, and_true, true_or, true_and, gl0, gl1, gl2, gl3, gl4, gl5, if_pos (show (4 : Nat) = 4 from rfl), if_neg (show ¬ (4 : Nat) = 3 by omega), if_neg (show ¬ ((4 : Nat) = 0 ∧ 50 ≤ μ) by omega), if_neg (show ¬ (4 : Nat) = 1 by omega), if_pos (show ((4 : Nat) = 4 ∨ (4 : Nat) = 5) by omega), c4]
      refine ⟨fun e he => ?_, fun e he => ?_, fun e he => ?_, fun k hk => ?_, ?_, ?_, ?_, ?_⟩
      · by_cases q : e = d
        · subst q; rw [if_pos rfl, c4, fc_same c0]; simp (disch := omega) only [mput_s]
        · rw [if_neg q]; simp (disch := omega) only [mput_s]
      · rw [if_neg (by omega)]; simp (disch := omega) only [mput_s]
      · by_cases q : e = d
        · subst q; simp (disch := omega) [mput_s, mput_same]
        · rw [if_neg q]; simp (disch := omega) only [mput_s]
      · by_cases q : k = 4
        · subst q; simp (disch := omega) [mput_s, mput_same]
        · rw [if_neg q]; simp (disch := omega) only [mput_s]
      · simp (disch := omega) only [mput_s]; exact s7
      · simp (disch := omega) only [mput_s, mput_same]; rw [s8]
      · simp (disch := omega) only [mput_s]; exact s9.symm
      · exact fb_put (fb_put (fb_put (fb_rfl _ _) (gb _ (by omega))) (gb _ (by omega))) (gb _ (by omega))
  by_cases k0 : κ = 0 ∧ 50 ≤ μ
  · obtain ⟨rfl, m50⟩ := k0
    refine main _ _ _ _ (min 99 (h + 5)) (A w 6) (A w 7 + 1) (by omega) tb fe tt ge ?_ ?_
    · simp only [if_true, and_true, true_or, true_and, fl1, fl2, fl3, fl4, if_neg k3, if_neg k4, if_pos m50]
      refine ⟨fun e => ?_, fun e => ?_, fun e => ?_, fun k => ?_, ?_, ?_, ?_, ?_⟩
      · simp [mput]
      · simp [mput]
      · by_cases q : e = d
        · subst q; simp [mput]
        · simp [mput, q]
      · by_cases q : k = 0
        · subst q; simp [mput]
        · simp [mput, q]
      · rw [mput_same]
        simp (disch := omega) only [mput_r]
        rw [s6]; exact (hl_up (a := 5) s2 (by omega)).1
      · simp [mput]
      · simp [mput]
      · exact fb_put (fb_put (fb_put (fb_put (fb_put (fb_rfl _ _) (ga _ _ (by omega))) (ga _ _ (by omega))) (ga _ _ (by omega))) (gs _ (by omega) (by omega))) (gs _ (by omega) (by omega))
    · simp only [if_true, and_true, true_or, true_and, gl0, gl1, gl2, gl3, gl4, gl5, if_neg k3, if_neg k4, if_pos m50, if_neg k1, if_neg (show ¬ ((0 : Nat) = 4 ∨ (0 : Nat) = 5) by omega)]
      refine ⟨fun e he => ?_, fun e he => ?_, fun e he => ?_, fun k hk => ?_, ?_, ?_, ?_, ?_⟩
      · by_cases q : e = d
        · subst q; simp (disch := omega) [mput_s, mput_same]
        · rw [if_neg q]; simp (disch := omega) only [mput_s]
      · rw [if_neg (by omega)]; simp (disch := omega) only [mput_s]
      · by_cases q : e = d
        · subst q; simp (disch := omega) [mput_s, mput_same]
        · rw [if_neg q]; simp (disch := omega) only [mput_s]
      · by_cases q : k = 0
        · subst q; simp (disch := omega) [mput_s, mput_same]
        · rw [if_neg q]; simp (disch := omega) only [mput_s]
      · simp (disch := omega) only [mput_s, mput_same]
        rw [hh9, show nI h + 5 = nI h + nI 5 from rfl, (hl_up (a := 5) s2 (by omega)).2]
        exact nI_sub' (a := 99) (by omega)
      · simp (disch := omega) only [mput_s]; exact s8.symm
      · simp (disch := omega) only [mput_s, mput_same]; rw [s9]
      · exact fb_put (fb_put (fb_put (fb_put (fb_put (fb_rfl _ _) (gb _ (by omega))) (gb _ (by omega))) (gb _ (by omega))) (gb _ (by omega))) (gb _ (by omega))
  · refine main _ _ _ _ h (A w 6) (A w 7) s2 tb fe tt ge ?_ ?_
    · simp only [if_true, and_true, true_or, true_and, fl1, fl2, fl3, fl4, if_neg k3, if_neg k4, if_neg k0]
      refine ⟨fun e => ?_, fun e => ?_, fun e => ?_, fun k => ?_, ?_, ?_, ?_, ?_⟩
      · simp [mput]
      · simp [mput, k1]
      · by_cases q : e = d
        · subst q; simp [mput]
        · simp [mput, q]
      · by_cases q : k = κ
        · subst q; simp [mput]
        · simp [mput, q]
      · simp [mput]; exact s6
      · simp [mput]
      · simp [mput]
      · exact fb_put (fb_put (fb_put (fb_rfl _ _) (ga _ _ (by omega))) (ga _ _ (by omega))) (ga _ _ (by omega))
    · simp only [gl0, gl2, gl3, gl4, gl5, if_neg k3, if_neg k4, if_neg k0, if_neg k1]
      have g1 : ∀ c k, (c = 218 → k ≠ 18 + d) → gl1 (mput B 218 (11 + κ) (B 218 (11 + κ) + nI γ)) d κ c k = mput B 218 (11 + κ) (B 218 (11 + κ) + nI γ) c k := by
        intro c k q
        unfold gl1
        split
        · rfl
        · rw [mput_q (by omega)]
      have g2 : gl1 (mput B 218 (11 + κ) (B 218 (11 + κ) + nI γ)) d κ 218 (18 + d) = fK_held (B 218 (18 + d) + fC0 κ) (-9) 9 := by
        unfold gl1
        split
        · have z : fC0 κ = 0 := by
            rename_i q
            rcases q with rfl | rfl <;> rfl
          rw [z, fc_same c0, mput_s (by omega)]
        · rw [mput_same, mput_s (by omega)]
      refine ⟨fun e he => ?_, fun e he => ?_, fun e he => ?_, fun k hk => ?_, ?_, ?_, ?_, ?_⟩
      · by_cases q : e = d
        · subst q; rw [if_pos rfl, mput_s (by omega)]; exact g2
        · rw [if_neg q, mput_s (by omega), g1 _ _ (by omega), mput_s (by omega)]
      · rw [if_neg (by omega), mput_s (by omega), g1 _ _ (by omega), mput_s (by omega)]
      · by_cases q : e = d
        · subst q; rw [if_pos rfl, mput_same, g1 _ _ (by omega), mput_s (by omega)]
        · rw [if_neg q, mput_s (by omega), g1 _ _ (by omega), mput_s (by omega)]
      · by_cases q : k = κ
        · subst q; rw [if_pos rfl, mput_s (by omega), g1 _ _ (by omega), mput_same]
        · rw [if_neg q, mput_s (by omega), g1 _ _ (by omega), mput_s (by omega)]
      · rw [mput_s (by omega), g1 _ _ (by omega), mput_s (by omega)]; exact s7
      · rw [mput_s (by omega), g1 _ _ (by omega), mput_s (by omega)]; exact s8.symm
      · rw [mput_s (by omega), g1 _ _ (by omega), mput_s (by omega)]; exact s9.symm
      · refine fb_put ?_ (gb _ (by omega))
        unfold gl1
        split
        · exact fb_put (fb_rfl _ _) (gb _ (by omega))
        · exact fb_put (fb_put (fb_rfl _ _) (gb _ (by omega))) (gb _ (by omega))
end PmGive2
