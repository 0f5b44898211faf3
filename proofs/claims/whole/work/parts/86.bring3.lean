section PmBring3
variable {β : Nat → Int32}
theorem asksOf_eq {B : Mm} {i d : Nat} (hi : i < 24) (hd : d < 12) (e : B 218 (55 + 5 * i) = nI d) : fM_asksOf (nI i) B = some (asksM B d (B 218 (56 + 5 * i)) (B 218 (57 + 5 * i)) (B 218 (58 + 5 * i))) := by
  have la : fM_letterAt (nI i) = nI (54 + 5 * i) := by unfold fM_letterAt; rw [lit_nI, lit_nI, nI_mul', nI_add]
  have p : ∀ a : Nat, a < 5 → nI (54 + 5 * i) + nI a = nI (54 + a + 5 * i) := fun a ha => by rw [nI_add]; exact congrArg nI (by omega)
  have p1 : nI (54 + 5 * i) + 1 = nI (55 + 5 * i) := p 1 (by omega)
  have p2 : nI (54 + 5 * i) + 2 = nI (56 + 5 * i) := p 2 (by omega)
  have p3 : nI (54 + 5 * i) + 3 = nI (57 + 5 * i) := p 3 (by omega)
  have p4 : nI (54 + 5 * i) + 4 = nI (58 + 5 * i) := p 4 (by omega)
  apply Go.eq
  unfold fM_asksOf
  simp only [la, p1, p2, p3, p4, jix_nI (show 55 + 5 * i < 2147483648 by omega), jix_nI (show 56 + 5 * i < 2147483648 by omega), jix_nI (show 57 + 5 * i < 2147483648 by omega), jix_nI (show 58 + 5 * i < 2147483648 by omega), e]
  rw [asks_eq hd]
  refine Go.gd ((inb_nI (by omega)).mpr (by omega)) ?_
  refine Go.gd ((inb_nI (by omega)).mpr (by omega)) ?_
  refine Go.gd ((inb_nI (by omega)).mpr (by omega)) ?_
  refine Go.gd ((inb_nI (by omega)).mpr (by omega)) ?_
  refine go_bind.mpr ?_
  refine Go.some ?_
  refine Go.some ?_
  rfl
theorem Th_congr {w : Nat} {A A' B B' : Mm} (a1 : A' 1 13 = A 1 13) (a2 : A' 16 13 = A 16 13) (a3 : w = 1 → A' 15 = A 15) (b1 : B' 217 5 = B 217 5) (b2 : B' 222 = B 222) (h : Th w β A B) : Th w β A' B' := by
  unfold Th at *
  rw [a1, a2, b1, b2]
  rcases h with ⟨h1, h2, h3, h4⟩ | h
  · exact Or.inl ⟨h1, h2, h3, by rw [a3 h1]; exact h4⟩
  · exact Or.inr h
theorem kvB_congr {B B' : Mm} {d : Nat} {k m a : Int32} (hd : d < 12) (h : ∀ x, (x = 0 ∨ x = 3 ∨ x = 4 ∨ x = 5 ∨ x = 8 ∨ (18 ≤ x ∧ x < 42)) → B' 218 x = B 218 x) (g : B' 221 = B 221) (j : Nat) : kvB B' d k m a j = kvB B d k m a j := by
  unfold kvB
  rw [h (18 + d) (by omega), h (30 + d) (by omega), h 0 (by omega), h 3 (by omega), h 4 (by omega), h 5 (by omega), h 8 (by omega), g]
theorem aX_bd {c k : Nat} (h : aX c k = true) : 123 ≤ c ∧ c ≤ 137 ∧ c ≠ 130 ∧ c ≠ 131 := by
  simp only [aX, Bool.and_eq_true, Nat.ble_eq, Bool.not_eq_true'] at h
  obtain ⟨⟨⟨h1, h2⟩, h3⟩, h4⟩ := h
  refine ⟨h1, h2, fun e => ?_, fun e => ?_⟩
  · subst e; cases h3
  · subst e; cases h4
theorem bX_bd {c k : Nat} (h : bX c k = true) : (225 ≤ c ∧ c ≤ 235) ∨ c = 217 := by
  simp only [bX, Bool.or_eq_true, Bool.and_eq_true, Nat.ble_eq, Nat.beq_eq] at h
  omega
theorem WS_fin {A A' : Mm} {ρ ρ' : Nat → Int32} {w r r' h : Nat} {x : Int32} (hS : WS A w ρ r h) (hr : r' ≤ 150) (a13 : A' (w + 13) = A (w + 13)) (a : ∀ k, 5 ≤ k → k ≤ 12 → k ≠ 9 → A' w k = A w k) (a4 : A' w 4 = nI r') (a9 : A' w 9 = x) (b3 : ρ' 3 = x) (b2 : ρ' 2 = nI r') (b : ∀ k, (k < 9 ∧ k ≠ 2 ∧ k ≠ 3) ∨ (11 ≤ k ∧ k < 18) → ρ' k = ρ k) : WS A' w ρ' r' h := by
  obtain ⟨s1, s2, s3, s4, s5, s6, s7, s8, s9, s10, s11, s12, s13, s14⟩ := hS
  refine ⟨hr, s2, fun k hk => by rw [a13, b _ (by omega)]; exact s3 k hk, a4, b2, ?_, ?_, ?_, ?_, ?_, by rw [a9, b3], ?_, ?_, ?_⟩
  · rw [a 5 (by omega) (by omega) (by omega)]; exact s6
  · rw [b 4 (by omega)]; exact s7
  · rw [a 6 (by omega) (by omega) (by omega), b 5 (by omega)]; exact s8
  · rw [a 7 (by omega) (by omega) (by omega), b 6 (by omega)]; exact s9
  · rw [a 8 (by omega) (by omega) (by omega), b 7 (by omega)]; exact s10
  · rw [a 10 (by omega) (by omega) (by omega), b 8 (by omega)]; exact s12
  · rw [a 11 (by omega) (by omega) (by omega), b 0 (by omega)]; exact s13
  · rw [a 12 (by omega) (by omega) (by omega), b 1 (by omega)]; exact s14
def mDA (w c k : Nat) : Bool := !Nat.beq c 130 && !Nat.beq c 131 && !(Nat.ble (w + 2) c && Nat.ble c (w + 14) && !Nat.beq c (w + 6)) && !(Nat.beq c w && Nat.ble 4 k && Nat.ble k 12)
def mDB (c _ : Nat) : Bool := !Nat.beq c 218 && !Nat.beq c 222 && !Nat.beq c 236 && !Nat.beq c 237
theorem bnot_t {b : Bool} (h : (!b) = true) : b = false := by cases b <;> first | rfl | cases h
theorem mDA_bd {w c k : Nat} (h : mDA w c k = true) : c ≠ 130 ∧ c ≠ 131 ∧ (c < w + 2 ∨ w + 14 < c ∨ c = w + 6) ∧ (c ≠ w ∨ k < 4 ∨ 12 < k) := by
  unfold mDA at h
  rw [Bool.and_eq_true, Bool.and_eq_true, Bool.and_eq_true] at h
  obtain ⟨⟨⟨h1, h2⟩, h3⟩, h4⟩ := h
  refine ⟨fun e => ?_, fun e => ?_, ?_, ?_⟩
  · subst e; cases h1
  · subst e; cases h2
  · refine Classical.byContradiction fun z => ?_
    have z1 : Nat.ble (w + 2) c = true := Nat.ble_eq.mpr (by omega)
    have z2 : Nat.ble c (w + 14) = true := Nat.ble_eq.mpr (by omega)
    have z3 : Nat.beq c (w + 6) = false := nbeq (by omega)
    rw [z1, z2, z3] at h3; cases h3
  · refine Classical.byContradiction fun z => ?_
    have z0 : c = w := by omega
    have z1 : Nat.ble 4 k = true := Nat.ble_eq.mpr (by omega)
    have z2 : Nat.ble k 12 = true := Nat.ble_eq.mpr (by omega)
    subst z0
    rw [Nat.beq_refl, z1, z2] at h4; cases h4
theorem mDB_bd {c k : Nat} (h : mDB c k = true) : c ≠ 218 ∧ c ≠ 222 ∧ c ≠ 236 ∧ c ≠ 237 := by
  unfold mDB at h
  rw [Bool.and_eq_true, Bool.and_eq_true, Bool.and_eq_true] at h
  obtain ⟨⟨⟨h1, h2⟩, h3⟩, h4⟩ := h
  refine ⟨fun e => ?_, fun e => ?_, fun e => ?_, fun e => ?_⟩
  · subst e; cases h1
  · subst e; cases h2
  · subst e; cases h3
  · subst e; cases h4
theorem bring_sim {A B : Mm} {w n m r h i : Nat} (hw : w = 1 ∨ w = 16) (hR : DR w β A B n m r h) (hi : i < m) :
    ∃ v A' B' m' r' h', fW_bringAt w (nI i) A = some (v, A') ∧ fM_brings (nI i) B = some (v, B') ∧ DR w β A' B' n m' r' h' ∧ ((v = -1 ∧ m' = m ∧ A' (w + 5) = A (w + 5)) ∨ (v ≠ -1 ∧ m' + 1 = m ∧ ∃ d, d < 12 ∧ B 218 (55 + 5 * i) = nI d ∧ ∀ e, A' (w + 5) e = if e = d then A (w + 5) e + 1 else A (w + 5) e)) ∧ FB (mDA w) A A' ∧ FB mDB B B' ∧ B' 218 9 = B 218 9 := by
  obtain ⟨hD, hB, hS, hT, hX⟩ := hR
  obtain ⟨b1, b2, b3, b4, b5⟩ := hB
  obtain ⟨l1, l2, l3, l4, l5, ⟨d, hd, ed⟩, ⟨κ, hκ, eκ⟩, ⟨μ, μ1, hμ, eμ⟩⟩ := b5 i hi
  have a9 : A (w + 9) i = nI d := l2.trans ed
  have hi24 : i < 24 := by omega
  obtain ⟨v0, A1, B1, q1, q2, ⟨y, y1, rfl⟩, q3, q4⟩ := ask_sim (wd := 0) (mo := 1000) (Or.inl ⟨rfl, rfl⟩) hw hX hi24 hd a9 (kv_rel (ρ := B 218) hD hS hd l3 l4 l5)
  have y2 : y ≤ 1000 := by have : Int32.toInt 1000 = 1000 := by decide
                           omega
  have fA1 : ∀ c, c ≠ 130 → c ≠ 131 → A1 c = A c := fun c h1 h2 => q3.row fun _ => mAA_of ⟨h1, h2⟩
  have fB1 : ∀ c, c ≠ 236 → c ≠ 237 → B1 c = B c := fun c h1 h2 => q4.row fun _ => mAB_of ⟨h1, h2⟩
  have hS1 : WS A1 w (B1 218) r h := by
    rw [fB1 218 (by omega) (by omega)]
    exact WS_congr (fA1 (w + 13) (by omega) (by omega)) (fun k _ _ => by rw [fA1 w (by omega) (by omega)]) (fun k _ => rfl) hS
  have hT1 : Th w β A1 B1 := Th_congr (by rw [fA1 1 (by omega) (by omega)]) (by rw [fA1 16 (by omega) (by omega)]) (fun _ => fA1 15 (by omega) (by omega)) (by rw [fB1 217 (by omega) (by omega)]) (fB1 222 (by omega) (by omega)) hT
  obtain ⟨o, A2, B2, o1, o2, o3, hS2, hT2, o4, o5⟩ := open_sim (y := y) y2 hT1 hS1
  have fA2 : ∀ c k, c ≠ 130 → c ≠ 131 → (c ≠ w ∨ k ≠ 12) → A2 c k = A c k := fun c k h1 h2 q => by rw [o4 c k (mOA_of q), fA1 c h1 h2]
  have fB2 : ∀ c k, c ≠ 236 → c ≠ 237 → (c ≠ 218 ∨ k ≠ 1) → B2 c k = B c k := fun c k h1 h2 q => by rw [o5 c k (mOB_of q), fB1 c h1 h2]
  have rA2 : ∀ c, c ≠ 130 → c ≠ 131 → c ≠ w → A2 c = A c := fun c h1 h2 q => funext fun k => fA2 c k h1 h2 (Or.inl q)
  have rB2 : ∀ c, c ≠ 236 → c ≠ 237 → c ≠ 218 → B2 c = B c := fun c h1 h2 q => funext fun k => fB2 c k h1 h2 (Or.inl q)
  have hD2 : WD A2 w (B2 218) (B2 221) n := WD_congr (fun c h1 h2 => rA2 c (by omega) (by omega) (by omega)) (fun k h1 h2 => fB2 218 k (by omega) (by omega) (by omega)) (fun k _ => by rw [rB2 221 (by omega) (by omega) (by omega)]) hD
  have hX2 : RX A2 B2 := RX_congr (fun c k q => by have := aX_bd q; exact fA2 c k (by omega) (by omega) (by omega)) (fun c k q => by have := bX_bd q; exact fB2 c k (by omega) (by omega) (by omega)) hX
  have r9 : A2 (w + 9) i = nI d := by rw [fA2 _ _ (by omega) (by omega) (by omega)]; exact a9
  have r10 : A2 (w + 10) i = B 218 (56 + 5 * i) := by rw [fA2 _ _ (by omega) (by omega) (by omega)]; exact l3
  have r11 : A2 (w + 11) i = B 218 (57 + 5 * i) := by rw [fA2 _ _ (by omega) (by omega) (by omega)]; exact l4
  have r12 : A2 (w + 12) i = B 218 (58 + 5 * i) := by rw [fA2 _ _ (by omega) (by omega) (by omega)]; exact l5
  have r8 : A2 (w + 8) i = B 218 (54 + 5 * i) := by rw [fA2 _ _ (by omega) (by omega) (by omega)]; exact l1
  have s2 := hS2
  obtain ⟨s2r, s2h, -, s24, s25, -, -, -, -, -, s211, -, s213, -⟩ := s2
  -- the class and the model, opened up to the draw
  have la : fM_letterAt (nI i) = nI (54 + 5 * i) := by unfold fM_letterAt; rw [lit_nI, lit_nI, nI_mul', nI_add]
  have p : ∀ a : Nat, a < 5 → nI (54 + 5 * i) + nI a = nI (54 + a + 5 * i) := fun a ha => by rw [nI_add]; exact congrArg nI (by omega)
  have p1 : nI (54 + 5 * i) + 1 = nI (55 + 5 * i) := p 1 (by omega)
  have p2 : nI (54 + 5 * i) + 2 = nI (56 + 5 * i) := p 2 (by omega)
  have p3 : nI (54 + 5 * i) + 3 = nI (57 + 5 * i) := p 3 (by omega)
  have p4 : nI (54 + 5 * i) + 4 = nI (58 + 5 * i) := p 4 (by omega)
  have ix : ∀ t, t < 5 → inb (nI (54 + t + 5 * i)) 174 := fun t ht => (inb_nI (by omega)).mpr (by omega)
  have i0 : inb (nI (54 + 5 * i)) 174 := ix 0 (by omega)
  have ii : inb (nI i) 24 := (inb_nI (by omega)).mpr hi24
  have ji : jix (nI i) = i := jix_nI (by omega)
  have j4 : jix (nI (54 + 5 * i)) = 54 + 5 * i := jix_nI (by omega)
  have j5 : jix (nI (55 + 5 * i)) = 55 + 5 * i := jix_nI (by omega)
  have j6 : jix (nI (56 + 5 * i)) = 56 + 5 * i := jix_nI (by omega)
  have j7 : jix (nI (57 + 5 * i)) = 57 + 5 * i := jix_nI (by omega)
  have j8 : jix (nI (58 + 5 * i)) = 58 + 5 * i := jix_nI (by omega)
  have q2' : fM_opensNow (asksM B d (B 218 (56 + 5 * i)) (B 218 (57 + 5 * i)) (B 218 (58 + 5 * i))) = some (nI y, B1) := q2
  rcases o3 with rfl | rfl
  · -- not opened
    obtain ⟨-, B3, r', -, n2, -, -, -, n5, -, n7⟩ := note2 2 (B 218 (54 + 5 * i)) (nI d) hT2 s2r s24 s25 s213
    have fB3 : ∀ c k, c ≠ 222 → (c ≠ 218 ∨ k ≠ 2) → B3 c k = B2 c k := fun c k h1 h2 => n7 c k (mNB_of h1 h2)
    have rB3 : ∀ c, c ≠ 222 → c ≠ 218 → B3 c = B2 c := fun c h1 h2 => funext fun k => fB3 c k h1 (Or.inl h2)
    have hX3 : RX A2 B3 := RX_congr (fb_rfl _ _) (fun c k q => by have := bX_bd q; exact fB3 c k (by omega) (by omega)) hX2
    obtain ⟨τ, A3, B4, t1, t2, -, t3, t4⟩ := ask_sim (wd := 2) (mo := 20) (B := B3) (Or.inr (Or.inr ⟨rfl, rfl⟩)) hw hX3 hi24 hd r9 (fun j hj => by
      rw [kvB_congr hd (fun x hx => fB3 218 x (by omega) (by omega)) (rB3 221 (by omega) (by omega))]
      exact kv_rel (ρ := B 218) hD2 hS2 hd r10 r11 r12 j hj)
    have t2' : fM_tiresNow (asksM B3 d (B 218 (56 + 5 * i)) (B 218 (57 + 5 * i)) (B 218 (58 + 5 * i))) = some (τ, B4) := t2
    have fA3 : ∀ c, c ≠ 130 → c ≠ 131 → A3 c = A2 c := fun c h1 h2 => t3.row fun _ => mAA_of ⟨h1, h2⟩
    have fB4 : ∀ c, c ≠ 236 → c ≠ 237 → B4 c = B3 c := fun c h1 h2 => t4.row fun _ => mAB_of ⟨h1, h2⟩
    have hT4 : Th w β (mput A3 w 9 (jmin 99 (A2 w 9 + τ))) B2 := Th_congr (by rw [mput_q (by omega), fA3 1 (by omega) (by omega)]) (by rw [mput_q (by omega), fA3 16 (by omega) (by omega)]) (fun _ => by rw [mput_r (by omega), fA3 15 (by omega) (by omega)]) rfl rfl hT2
    obtain ⟨A5, B3', r'', m1, m2, m3, m4, m5, m6, m7, -⟩ := note2 2 (B 218 (54 + 5 * i)) (nI d) hT4 s2r (by rw [mput_s (by omega), fA3 w (by omega) (by omega)]; exact s24) s25 (by rw [mput_s (by omega), fA3 w (by omega) (by omega)]; exact s213)
    have e3 : B3 = B3' := by rw [n2] at m2; exact Option.some.inj m2
    subst e3
    have fA5 : ∀ c k, c ≠ w + 14 → (c ≠ w ∨ k ≠ 4) → (c ≠ w ∨ k ≠ 9) → c ≠ 130 → c ≠ 131 → A5 c k = A2 c k := fun c k h1 h2 h3 h4 h5 => by
      rw [m7 c k (mNA_of h1 h2), mput_q (by omega), fA3 c h4 h5]
    have rA5 : ∀ c, c ≠ w + 14 → c ≠ w → c ≠ 130 → c ≠ 131 → A5 c = A2 c := fun c h1 h2 h4 h5 => funext fun k => fA5 c k h1 (Or.inl h2) (Or.inl h2) h4 h5
    obtain ⟨B5, hB5⟩ : ∃ B5, B5 = mput B4 218 3 (fM_lesser 99 (asksM B3 d (B 218 (56 + 5 * i)) (B 218 (57 + 5 * i)) (B 218 (58 + 5 * i)) 218 3 + τ)) := ⟨_, rfl⟩
    have fB5 : ∀ c k, c ≠ 222 → (c ≠ 218 ∨ (k ≠ 2 ∧ k ≠ 3)) → c ≠ 236 → c ≠ 237 → B5 c k = B2 c k := fun c k h1 h2 h3 h4 => by
      rw [hB5, mput_q (by omega), fB4 c h3 h4, fB3 c k h1 (by omega)]
    have hh3 : asksM B3 d (B 218 (56 + 5 * i)) (B 218 (57 + 5 * i)) (B 218 (58 + 5 * i)) 218 3 = A2 w 9 := by
      rw [(asksM_fb B3 d _ _ _).row (c := 218) fun _ => rfl, fB3 218 3 (by omega) (by omega), s211]
    refine ⟨-1, A5, B5, m, r'', h, ?_, ?_, ⟨?_, ?_, ?_, ?_, ?_⟩, Or.inl ⟨rfl, rfl, ?_⟩, ?_, ?_, by rw [fB5 218 9 (by omega) (by omega) (by omega) (by omega), fB2 218 9 (by omega) (by omega) (by omega)]⟩
    · apply Go.eq
      unfold fW_bringAt
      rw [q1]
      refine go_bind.mpr ?_
      refine Go.some ?_
      dsimp only
      rw [o1]
      refine go_bind.mpr ?_
      refine Go.yes (by first | rfl | (simp; done)) ?_
      refine Go.some ?_
      dsimp only
      rw [t1]
      refine go_bind.mpr ?_
      refine Go.some ?_
      refine Go.gd (ii) ?_
      refine go_bind.mpr ?_
      refine Go.yes (by first | rfl | (simp; done)) ?_
      refine Go.gd (ii) ?_
      refine Go.some ?_
      refine go_bind.mpr ?_
      have e8 : mput A3 w 9 (jmin 99 (A2 w 9 + τ)) (w + 8) i = B 218 (54 + 5 * i) := by rw [mput_r (by omega), fA3 (w + 8) (by omega) (by omega)]; exact r8
      have e9 : mput A3 w 9 (jmin 99 (A2 w 9 + τ)) (w + 9) i = nI d := by rw [mput_r (by omega), fA3 (w + 9) (by omega) (by omega)]; exact r9
      dsimp only
      rw [ji, e8, e9, if_pos rfl, m1]
      refine Go.some ?_
      refine Go.yes (by first | rfl | (simp; done)) ?_
      refine Go.some ?_
      rfl
    · apply Go.eq
      unfold fM_brings
      simp only [la, p1, p2, p3, p4, j4, j5, j6, j7, j8, ed]
      refine Go.gd (i0) ?_
      refine Go.gd (ix 1 (by omega)) ?_
      refine Go.gd (ix 2 (by omega)) ?_
      refine Go.gd (ix 3 (by omega)) ?_
      refine Go.gd (ix 4 (by omega)) ?_
      rw [asksOf_eq hi24 hd ed]
      refine go_bind.mpr ?_
      refine Go.some ?_
      rw [q2']
      refine go_bind.mpr ?_
      refine Go.some ?_
      dsimp only
      rw [o2]
      refine go_bind.mpr ?_
      refine Go.some ?_
      refine go_bind.mpr ?_
      refine Go.yes (by first | rfl | (simp; done)) ?_
      refine go_bind.mpr ?_
      dsimp only
      rw [n2]
      refine Go.some ?_
      refine Go.some ?_
      refine go_bind.mpr ?_
      dsimp only
      rw [asks_eq hd]
      refine Go.some ?_
      refine go_bind.mpr ?_
      rw [t2']
      refine Go.some ?_
      refine Go.some ?_
      rw [hB5]
    · exact WD_congr (fun c h1 h2 => rA5 c (by omega) (by omega) (by omega) (by omega)) (fun k h1 h2 => fB5 218 k (by omega) (by omega) (by omega) (by omega)) (fun k _ => fB5 221 k (by omega) (by omega) (by omega) (by omega)) hD2
    · refine WB_congr (A := A) (ρ := B 218) (fun c h1 h2 => by rw [rA5 c (by omega) (by omega) (by omega) (by omega), rA2 c (by omega) (by omega) (by omega)]) (fun k hk => by rw [fB5 218 k (by omega) (by omega) (by omega) (by omega), fB2 218 k (by omega) (by omega) (by omega)]) ⟨b1, b2, b3, b4, b5⟩
    · refine WS_fin (x := jmin 99 (A2 w 9 + τ)) hS2 m4 (rA5 _ (by omega) (by omega) (by omega) (by omega)) (fun k h1 h2 h3 => fA5 w k (by omega) (by omega) (by omega) (by omega) (by omega)) m5 ?_ ?_ ?_ (fun k hk => fB5 218 k (by omega) (by omega) (by omega) (by omega))
      · rw [m7 w 9 (mNA_of (by omega) (by omega)), mput_same]
      · rw [hB5, mput_same, hh3, jmin_eq]
      · rw [hB5, mput_s (by omega), fB4 218 (by omega) (by omega)]; exact m6
    · exact Th_congr rfl rfl (fun _ => rfl) (by rw [hB5, mput_q (by omega), fB4 217 (by omega) (by omega)]) (by rw [hB5, mput_r (by omega), fB4 222 (by omega) (by omega)]) m3
    · exact RX_congr (fun c k q => by have := aX_bd q; exact fA5 c k (by omega) (by omega) (by omega) (by omega) (by omega)) (fun c k q => by have := bX_bd q; exact fB5 c k (by omega) (by omega) (by omega) (by omega)) hX2
    · rw [rA5 _ (by omega) (by omega) (by omega) (by omega), rA2 _ (by omega) (by omega) (by omega)]
    · intro c k q
      have := mDA_bd q
      rw [fA5 c k (by omega) (by omega) (by omega) (by omega) (by omega), fA2 c k (by omega) (by omega) (by omega)]
    · intro c k q
      have := mDB_bd q
      rw [fB5 c k (by omega) (by omega) (by omega) (by omega), fB2 c k (by omega) (by omega) (by omega)]
  · -- opened
    have B2i : ∀ t, t < 5 → B2 218 (54 + t + 5 * i) = B 218 (54 + t + 5 * i) := fun t ht => fB2 218 _ (by omega) (by omega) (by omega)
    have B25 : B2 218 (55 + 5 * i) = B 218 (55 + 5 * i) := B2i 1 (by omega)
    have B26 : B2 218 (56 + 5 * i) = B 218 (56 + 5 * i) := B2i 2 (by omega)
    have B27 : B2 218 (57 + 5 * i) = B 218 (57 + 5 * i) := B2i 3 (by omega)
    have B28 : B2 218 (58 + 5 * i) = B 218 (58 + 5 * i) := B2i 4 (by omega)
    obtain ⟨g, A3, B3, g1, g2, ⟨γ, γ1, rfl⟩, g3, g4⟩ := ask_sim (wd := 1) (mo := 99) (B := B2) (Or.inr (Or.inl ⟨rfl, rfl⟩)) hw hX2 hi24 hd r9 (kv_rel (ρ := B 218) hD2 hS2 hd r10 r11 r12)
    have g2' : fM_givesNow (asksM B2 d (B 218 (56 + 5 * i)) (B 218 (57 + 5 * i)) (B 218 (58 + 5 * i))) = some (nI γ, B3) := g2
    have hγ : γ ≤ 99 := by have : Int32.toInt 99 = 99 := by decide
                           omega
    have fA3 : ∀ c, c ≠ 130 → c ≠ 131 → A3 c = A2 c := fun c h1 h2 => g3.row fun _ => mAA_of ⟨h1, h2⟩
    have fB3 : ∀ c, c ≠ 236 → c ≠ 237 → B3 c = B2 c := fun c h1 h2 => g4.row fun _ => mAB_of ⟨h1, h2⟩
    have hD3 : WD A3 w (B3 218) (B3 221) n := WD_congr (fun c h1 h2 => fA3 c (by omega) (by omega)) (fun k h1 h2 => by rw [fB3 218 (by omega) (by omega)]) (fun k _ => by rw [fB3 221 (by omega) (by omega)]) hD2
    have hS3 : WS A3 w (B3 218) r h := WS_congr (fA3 _ (by omega) (by omega)) (fun k _ _ => by rw [fA3 w (by omega) (by omega)]) (fun k _ => by rw [fB3 218 (by omega) (by omega)]) hS2
    have c9 : A3 (w + 9) i = nI d := by rw [fA3 _ (by omega) (by omega)]; exact r9
    have c10 : A3 (w + 10) i = nI κ := by rw [fA3 _ (by omega) (by omega), r10]; exact eκ
    have c11 : A3 (w + 11) i = nI μ := by rw [fA3 _ (by omega) (by omega), r11]; exact eμ
    obtain ⟨t, A4', A4, k1, k2, k3, B4, h', k4, hD4, hS4, k5, k6, k7⟩ := give_sim hD3 hS3 hi24 hd hκ hμ c10 c9 c11 hγ
    have fA4 : ∀ c k, c ≠ w + 2 ∧ c ≠ w + 4 ∧ c ≠ w + 5 ∧ c ≠ w + 13 → (c = w → k < 5 ∨ 7 < k) → A4 c k = A3 c k := fun c k q1 q2 => k5 c k (mGA_of q1 q2)
    have fB4 : ∀ c k, (c = 218 → (k < 4 ∨ 6 < k) ∧ (k < 11 ∨ 53 < k)) → B4 c k = B3 c k := fun c k q => k6 c k (mGB_of q)
    have A4A : ∀ c k, 130 ≠ c → 131 ≠ c → c ≠ w + 2 ∧ c ≠ w + 4 ∧ c ≠ w + 5 ∧ c ≠ w + 13 → c ≠ w → A4 c k = A c k := fun c k h1 h2 h3 h4 => by rw [fA4 c k h3 (by omega), fA3 c (by omega) (by omega), fA2 c k (by omega) (by omega) (by omega)]
    have B4B : ∀ k, 54 ≤ k ∨ k = 9 ∨ k = 10 → B4 218 k = B 218 k := fun k hk => by rw [fB4 218 k (by omega), fB3 218 (by omega) (by omega), fB2 218 k (by omega) (by omega) (by omega)]
    have WL4 : ∀ j, j < m → WL A4 w (B4 218) j := fun j hj => WL_congr (fun c h1 h2 => A4A c j (by omega) (by omega) (by omega) (by omega)) (fun k hk => B4B _ (by omega)) (b5 j hj)
    have hX4 : RX A4 B4 := RX_congr (fun c k q => by have := aX_bd q; rw [fA4 c k (by omega) (by omega), fA3 c (by omega) (by omega)]) (fun c k q => by have := bX_bd q; rw [fB4 c k (by omega), fB3 c (by omega) (by omega)]) hX2
    have hT4 : Th w β A4 B4 := Th_congr (by rw [fA4 1 13 (by omega) (by omega), fA3 1 (by omega) (by omega)]) (by rw [fA4 16 13 (by omega) (by omega), fA3 16 (by omega) (by omega)]) (fun q => by funext k; rw [fA4 15 k (by omega) (by omega), fA3 15 (by omega) (by omega)]) (by rw [fB4 217 5 (by omega), fB3 217 (by omega) (by omega)]) (by funext k; rw [fB4 222 k (by omega), fB3 222 (by omega) (by omega)]) hT2
    have s4 := hS4
    obtain ⟨s4r, s4h, -, s44, s45, -, -, -, -, -, s411, -, s413, -⟩ := s4
    have a70 : A4 (w + 7) 0 = nI m := by rw [A4A _ _ (by omega) (by omega) (by omega) (by omega)]; exact b2
    have b40 : B4 218 10 = nI m := by rw [B4B 10 (by omega)]; exact b3
    obtain ⟨-, B5, -, e5, -, e510, -, -, e5f⟩ := rem2 b1 hi a70 b40 WL4
    have fB5 : ∀ c k, (c = 218 → k ≠ 10 ∧ k < 54) → B5 c k = B4 c k := fun c k q => e5f c k (mRB_of q)
    have rB5 : ∀ c, c ≠ 218 → B5 c = B4 c := fun c q => funext fun k => fB5 c k (fun z => absurd z q)
    have hT45 : ∀ A', Th w β A' B4 → Th w β A' B5 := fun A' z => Th_congr rfl rfl (fun _ => rfl) (by rw [rB5 217 (by omega)]) (rB5 222 (by omega)) z
    have b52 : B5 218 2 = nI r := by rw [fB5 218 2 (by omega)]; exact s45
    have b5d : A4 w 11 = B5 218 0 := by rw [fB5 218 0 (by omega)]; exact s413
    obtain ⟨-, B6, -, -, n2, -, -, -, -, -, n7⟩ := note2 1 (B 218 (54 + 5 * i)) t (hT45 A4 hT4) s4r s44 b52 b5d
    have fB6 : ∀ c k, c ≠ 222 → (c ≠ 218 ∨ k ≠ 2) → B6 c k = B5 c k := fun c k h1 h2 => n7 c k (mNB_of h1 h2)
    have hX6 : RX A4 B6 := RX_congr (fb_rfl _ _) (fun c k q => by have := bX_bd q; rw [fB6 c k (by omega) (by omega), fB5 c k (by omega)]) hX4
    have c49 : A4 (w + 9) i = nI d := by rw [A4A _ _ (by omega) (by omega) (by omega) (by omega)]; exact a9
    obtain ⟨τ, A5, B7, t1, t2, -, t3, t4⟩ := ask_sim (wd := 2) (mo := 20) (A := A4) (B := B6) (k := B 218 (56 + 5 * i)) (m := B 218 (57 + 5 * i)) (a := B 218 (58 + 5 * i)) (Or.inr (Or.inr ⟨rfl, rfl⟩)) hw hX6 hi24 hd c49 (fun j hj => by
      rw [kvB_congr (B := B4) hd (fun x hx => by rw [fB6 218 x (by omega) (by omega), fB5 218 x (by omega)]) (by funext x; rw [fB6 221 x (by omega) (by omega), fB5 221 x (by omega)])]
      exact kv_rel (ρ := B 218) hD4 hS4 hd (by rw [A4A _ _ (by omega) (by omega) (by omega) (by omega)]; exact l3) (by rw [A4A _ _ (by omega) (by omega) (by omega) (by omega)]; exact l4) (by rw [A4A _ _ (by omega) (by omega) (by omega) (by omega)]; exact l5) j hj)
    have t2' : fM_tiresNow (asksM B6 d (B 218 (56 + 5 * i)) (B 218 (57 + 5 * i)) (B 218 (58 + 5 * i))) = some (τ, B7) := t2
    have fA5 : ∀ c, c ≠ 130 → c ≠ 131 → A5 c = A4 c := fun c h1 h2 => t3.row fun _ => mAA_of ⟨h1, h2⟩
    have fB7 : ∀ c, c ≠ 236 → c ≠ 237 → B7 c = B6 c := fun c h1 h2 => t4.row fun _ => mAB_of ⟨h1, h2⟩
    obtain ⟨A6, hA6⟩ : ∃ A6, A6 = mput A5 w 9 (jmin 99 (A4 w 9 + τ)) := ⟨_, rfl⟩
    have fA6 : ∀ c k, c ≠ 130 → c ≠ 131 → (c ≠ w ∨ k ≠ 9) → A6 c k = A4 c k := fun c k h1 h2 h3 => by rw [hA6, mput_q (by omega), fA5 c h1 h2]
    have hT6 : Th w β A6 B5 := hT45 A6 (Th_congr (fA6 1 13 (by omega) (by omega) (by omega)) (fA6 16 13 (by omega) (by omega) (by omega)) (fun _ => by funext k; exact fA6 15 k (by omega) (by omega) (by omega)) rfl rfl hT4)
    obtain ⟨A7, B6', r'', m1, m2, m3, m4, m5, m6, m7, -⟩ := note2 1 (B 218 (54 + 5 * i)) t hT6 s4r (by rw [fA6 w 4 (by omega) (by omega) (by omega)]; exact s44) b52 (by rw [fA6 w 11 (by omega) (by omega) (by omega)]; exact b5d)
    have e6 : B6 = B6' := by rw [n2] at m2; exact Option.some.inj m2
    subst e6
    have fA7 : ∀ c k, c ≠ 130 → c ≠ 131 → (c ≠ w ∨ (k ≠ 9 ∧ k ≠ 4)) → c ≠ w + 14 → A7 c k = A4 c k := fun c k h1 h2 h3 h4 => by rw [m7 c k (mNA_of h4 (by omega)), fA6 c k h1 h2 (by omega)]
    obtain ⟨A8, B5', z1, z2, z3, z4, z5, z6, -⟩ := rem2 (A := A7) (B := B4) (w := w) b1 hi (by rw [fA7 _ _ (by omega) (by omega) (by omega) (by omega)]; exact a70) b40 (fun j hj => WL_congr (fun c h1 h2 => fA7 c j (by omega) (by omega) (by omega) (by omega)) (fun k hk => rfl) (WL4 j hj))
    have e55 : B5 = B5' := by rw [e5] at z2; exact Option.some.inj z2
    subst e55
    have fA8 : ∀ c k, c ≠ 130 → c ≠ 131 → (c ≠ w ∨ (k ≠ 9 ∧ k ≠ 4)) → c ≠ w + 14 → ¬ (w + 8 ≤ c ∧ c ≤ w + 12) → (c ≠ w + 7 ∨ k ≠ 0) → A8 c k = A4 c k := fun c k h1 h2 h3 h4 h5 h6 => by rw [z6 c k (mRA_of h5 h6), fA7 c k h1 h2 h3 h4]
    obtain ⟨B8, hB8⟩ : ∃ B8, B8 = mput B7 218 3 (fM_lesser 99 (asksM B6 d (B 218 (56 + 5 * i)) (B 218 (57 + 5 * i)) (B 218 (58 + 5 * i)) 218 3 + τ)) := ⟨_, rfl⟩
    have fB8 : ∀ c k, c ≠ 222 → (c ≠ 218 ∨ (k ≠ 2 ∧ k ≠ 3)) → c ≠ 236 → c ≠ 237 → B8 c k = B5 c k := fun c k h1 h2 h3 h4 => by
      rw [hB8, mput_q (by omega), fB7 c h3 h4, fB6 c k h1 (by omega)]
    have hh3 : asksM B6 d (B 218 (56 + 5 * i)) (B 218 (57 + 5 * i)) (B 218 (58 + 5 * i)) 218 3 = A4 w 9 := by
      rw [(asksM_fb B6 d _ _ _).row (c := 218) fun _ => rfl, fB6 218 3 (by omega) (by omega), fB5 218 3 (by omega), s411]
    have pu : 0 ≤ (B3 218 (30 + d)).toInt := (hD3.2.2 d hd).2.2.2.2.2
    have tne : t ≠ -1 := by
      intro e
      have e2 := congrArg Int32.toInt e
      have m1' : Int32.toInt (-1) = -1 := by decide
      rw [k3, m1'] at e2
      split at e2
      · rw [jmin_toInt, nI_toInt' (by omega)] at e2; omega
      · rw [nI_toInt' (by omega)] at e2; omega
    refine ⟨t, A8, B8, m - 1, r'', h', ?_, ?_, ⟨?_, ?_, ?_, ?_, ?_⟩, Or.inr ⟨tne, by omega, d, hd, ed, ?_⟩, ?_, ?_, by rw [fB8 218 9 (by omega) (by omega) (by omega) (by omega), fB5 218 9 (by omega), B4B 9 (by omega)]⟩
    · apply Go.eq
      unfold fW_bringAt
      rw [q1]
      refine go_bind.mpr ?_
      refine Go.some ?_
      dsimp only
      rw [o1]
      refine go_bind.mpr ?_
      refine Go.no (by first | decide | (simp; done)) ?_
      refine go_bind.mpr ?_
      dsimp only
      rw [g1]
      refine Go.some ?_
      refine go_bind.mpr ?_
      dsimp only
      rw [k1]
      refine Go.some ?_
      refine go_bind.mpr ?_
      dsimp only
      rw [k2]
      refine Go.some ?_
      refine Go.some ?_
      dsimp only
      rw [t1]
      refine go_bind.mpr ?_
      refine Go.some ?_
      refine Go.gd (ii) ?_
      refine go_bind.mpr ?_
      refine Go.no (by first | decide | (simp; done)) ?_
      refine Go.some ?_
      refine go_bind.mpr ?_
      have e8 : A6 (w + 8) i = B 218 (54 + 5 * i) := by rw [fA6 _ _ (by omega) (by omega) (by omega), A4A _ _ (by omega) (by omega) (by omega) (by omega)]; exact l1
      dsimp only
      rw [ji, ← hA6, e8, if_neg (by decide), m1]
      refine Go.some ?_
      refine Go.no (by first | decide | (simp; done)) ?_
      refine go_bind.mpr ?_
      rw [z1]
      refine Go.some ?_
      refine Go.some ?_
      rfl
    · apply Go.eq
      unfold fM_brings
      simp only [la, p1, p2, p3, p4, j4, j5, j6, j7, j8, ed]
      refine Go.gd (i0) ?_
      refine Go.gd (ix 1 (by omega)) ?_
      refine Go.gd (ix 2 (by omega)) ?_
      refine Go.gd (ix 3 (by omega)) ?_
      refine Go.gd (ix 4 (by omega)) ?_
      rw [asksOf_eq hi24 hd ed]
      refine go_bind.mpr ?_
      refine Go.some ?_
      rw [q2']
      refine go_bind.mpr ?_
      refine Go.some ?_
      dsimp only
      rw [o2]
      refine go_bind.mpr ?_
      refine Go.some ?_
      refine go_bind.mpr ?_
      refine Go.no (by first | decide | (simp; done)) ?_
      refine go_bind.mpr ?_
      dsimp only
      rw [asksOf_eq hi24 hd (B25.trans ed), B26, B27, B28]
      have e30 : (30 : Int32) + nI d = nI (30 + d) := nI_add 30 d
      have j30 : jix (nI (30 + d)) = 30 + d := jix_nI (by omega)
      refine Go.some ?_
      refine Go.bind (P := fun q => q = (t, B3)) ?_ ?_
      · simp only [g2', e30, j30]
        by_cases hk1 : κ = 1
        · rw [if_pos hk1] at k3
          refine Go.yes (by rw [eκ, hk1]; rfl) ?_
          refine go_bind.mpr ?_
          refine Go.some ?_
          refine Go.gd ((inb_nI (by omega)).mpr (by omega)) ?_
          refine Go.some ?_
          rw [k3, jmin_eq]
        · rw [if_neg hk1] at k3
          refine Go.no (by rw [eκ, lit_nI, nI_eq' (by omega) (by omega)]; exact hk1) ?_
          refine go_bind.mpr ?_
          refine Go.some ?_
          refine Go.some ?_
          rw [k3]
      · rintro q rfl
        dsimp only
        rw [eκ, eμ, k4]
        refine go_bind.mpr ?_
        refine Go.some ?_
        rw [e5]
        refine go_bind.mpr ?_
        refine Go.some ?_
        rw [n2]
        refine go_bind.mpr ?_
        refine Go.some ?_
        refine Go.some ?_
        refine go_bind.mpr ?_
        dsimp only
        rw [← eκ, ← eμ, asks_eq hd]
        refine Go.some ?_
        refine go_bind.mpr ?_
        rw [t2']
        refine Go.some ?_
        refine Go.some ?_
        rw [hB8]
    · exact WD_congr (fun c h1 h2 => funext fun k => fA8 c k (by omega) (by omega) (by omega) (by omega) (by omega) (by omega)) (fun k h1 h2 => by rw [fB8 218 k (by omega) (by omega) (by omega) (by omega), fB5 218 k (by omega)]) (fun k _ => by rw [fB8 221 k (by omega) (by omega) (by omega) (by omega), fB5 221 k (by omega)]) hD4
    · refine ⟨by omega, z3, by rw [fB8 218 10 (by omega) (by omega) (by omega) (by omega)]; exact z4, ?_, fun j hj => WL_congr (fun c _ _ => rfl) (fun k hk => fB8 218 _ (by omega) (by omega) (by omega) (by omega)) (z5 j hj)⟩
      rw [fA8 _ _ (by omega) (by omega) (by omega) (by omega) (by omega) (by omega), A4A _ _ (by omega) (by omega) (by omega) (by omega), fB8 218 9 (by omega) (by omega) (by omega) (by omega), fB5 218 9 (by omega), B4B 9 (by omega)]
      exact b4
    · refine WS_fin (x := jmin 99 (A4 w 9 + τ)) hS4 m4 (funext fun k => fA8 _ k (by omega) (by omega) (by omega) (by omega) (by omega) (by omega)) (fun k h1 h2 h3 => fA8 w k (by omega) (by omega) (by omega) (by omega) (by omega) (by omega)) ?_ ?_ ?_ ?_ (fun k hk => by rw [fB8 218 k (by omega) (by omega) (by omega) (by omega), fB5 218 k (by omega)])
      · rw [z6 w 4 (mRA_of (by omega) (by omega))]; exact m5
      · rw [z6 w 9 (mRA_of (by omega) (by omega)), m7 w 9 (mNA_of (by omega) (by omega)), hA6, mput_same]
      · rw [hB8, mput_same, hh3, jmin_eq]
      · rw [hB8, mput_s (by omega), fB7 218 (by omega) (by omega)]; exact m6
    · refine Th_congr (z6 1 13 (mRA_of (by omega) (by omega))) (z6 16 13 (mRA_of (by omega) (by omega))) (fun q => funext fun k => z6 15 k (mRA_of (by omega) (by omega))) (by rw [hB8, mput_q (by omega), fB7 217 (by omega) (by omega)]) (by rw [hB8, mput_r (by omega), fB7 222 (by omega) (by omega)]) m3
    · exact RX_congr (fun c k q => by have := aX_bd q; exact fA8 c k (by omega) (by omega) (by omega) (by omega) (by omega) (by omega)) (fun c k q => by have := bX_bd q; rw [fB8 c k (by omega) (by omega) (by omega) (by omega), fB5 c k (by omega)]) hX4
    · intro e
      rw [fA8 _ _ (by omega) (by omega) (by omega) (by omega) (by omega) (by omega), k7 e]
      have : A3 (w + 5) = A (w + 5) := by rw [fA3 _ (by omega) (by omega), rA2 _ (by omega) (by omega) (by omega)]
      rw [this]
    · intro c k q
      have := mDA_bd q
      rw [fA8 c k (by omega) (by omega) (by omega) (by omega) (by omega) (by omega), fA4 c k (by omega) (by omega), fA3 c (by omega) (by omega), fA2 c k (by omega) (by omega) (by omega)]
    · intro c k q
      have := mDB_bd q
      rw [fB8 c k (by omega) (by omega) (by omega) (by omega), fB5 c k (by omega), fB4 c k (by omega), fB3 c (by omega) (by omega), fB2 c k (by omega) (by omega) (by omega)]
end PmBring3
