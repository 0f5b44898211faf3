section PmBring
variable {β : Nat → Int32}
def Th (w : Nat) (β : Nat → Int32) (A B : Mm) : Prop := (w = 1 ∧ A 1 13 = 0 ∧ B 217 5 = 0 ∧ ∀ k, k < 600 → A 15 k = B 222 k) ∨ (w = 16 ∧ A 16 13 = 1 ∧ B 217 5 = 1 ∧ B 222 = β)
def mNA (w c k : Nat) : Bool := !Nat.beq c (w + 14) && !(Nat.beq c w && Nat.beq k 4)
def mNB (c k : Nat) : Bool := !Nat.beq c 222 && !(Nat.beq c 218 && Nat.beq k 2)
theorem nbeq {a b : Nat} (q : a ≠ b) : Nat.beq a b = false := by
  cases e : Nat.beq a b
  · rfl
  · exact absurd (Nat.eq_of_beq_eq_true e) q
theorem mNA_of {w c k : Nat} (h : c ≠ w + 14) (h2 : c ≠ w ∨ k ≠ 4) : mNA w c k = true := by
  have e : (Nat.beq c w && Nat.beq k 4) = false := by
    rcases h2 with q | q
    · rw [nbeq q]; rfl
    · rw [nbeq q, Bool.and_false]
  simp only [mNA, nbeq h, e]; rfl
theorem mNB_of {c k : Nat} (h : c ≠ 222) (h2 : c ≠ 218 ∨ k ≠ 2) : mNB c k = true := by
  have e : (Nat.beq c 218 && Nat.beq k 2) = false := by
    rcases h2 with q | q
    · rw [nbeq q]; rfl
    · rw [nbeq q, Bool.and_false]
  simp only [mNB, nbeq h, e]; rfl
theorem note2 {A B : Mm} {w r : Nat} (x1 x2 x3 : Int32) (hT : Th w β A B) (hr : r ≤ 150) (a4 : A w 4 = nI r) (b2 : B 218 2 = nI r) (ad : A w 11 = B 218 0) :
    ∃ A' B' r', fW_write w x1 x2 x3 A = some A' ∧ fM_notes x1 x2 x3 B = some B' ∧ Th w β A' B' ∧ r' ≤ 150 ∧ A' w 4 = nI r' ∧ B' 218 2 = nI r' ∧ FB (mNA w) A A' ∧ FB mNB B B' := by
  have e4 : nI r * 4 = nI (4 * r) := by rw [lit_nI, nI_mul', Nat.mul_comm]
  have f4 : 4 * nI r = nI (4 * r) := by rw [lit_nI, nI_mul']
  have p1 : ∀ a : Nat, nI (4 * r) + nI a = nI (4 * r + a) := fun a => nI_add _ _
  rcases hT with ⟨rfl, t1, t2, t3⟩ | ⟨rfl, t1, t2, t3⟩
  · have kb : kbl 1 = 600 := rfl
    by_cases h15 : r < 150
    · have i0 : ∀ a, a < 4 → inb (nI (4 * r + a)) 600 := fun a ha => (inb_nI (by omega)).mpr (by omega)
      have j0 : ∀ a, a < 4 → jix (nI (4 * r + a)) = 4 * r + a := fun a ha => jix_nI (by omega)
      have z0 : inb (nI (4 * r)) 600 := i0 0 (by omega)
      have q0 : jix (nI (4 * r)) = 4 * r := j0 0 (by omega)
      have c1 : nI (4 * r) + 1 = nI (4 * r + 1) := p1 1
      have c2 : nI (4 * r) + 2 = nI (4 * r + 2) := p1 2
      have c3 : nI (4 * r) + 3 = nI (4 * r + 3) := p1 3
      have c4 : nI (4 * r) + 4 = nI (4 * r + 4) := p1 4
      refine ⟨mput (mput (mput (mput (mput A 15 (4 * r) (A 1 11)) 15 (4 * r + 1) x1) 15 (4 * r + 2) x2) 15 (4 * r + 3) x3) 1 4 (nI (r + 1)), mput (mput (mput (mput (mput B 222 (4 * r) (B 218 0)) 222 (4 * r + 1) x1) 222 (4 * r + 2) x2) 222 (4 * r + 3) x3) 218 2 (nI (r + 1)), r + 1, ?_, ?_, ?_, by omega, mput_same _ _ _ _, mput_same _ _ _ _, ?_, ?_⟩
      · apply Go.eq
        unfold fW_write
        simp only [kb, a4, e4, c1, c2, c3, c4, q0, j0 1 (by omega), j0 2 (by omega), j0 3 (by omega), Nat.reduceAdd]
        refine Go.yes (by rw [nI_le' (by omega) (by omega)]; omega) ?_
        refine Go.gd (z0) ?_
        refine Go.gd (i0 1 (by omega)) ?_
        refine Go.gd (i0 2 (by omega)) ?_
        refine Go.gd (i0 3 (by omega)) ?_
        refine Go.some ?_
        simp (disch := omega) only [mput_r]
        rw [a4, nI_1]
      · apply Go.eq
        unfold fM_notes
        simp only [b2, f4, c1, c2, c3, q0, j0 1 (by omega), j0 2 (by omega), j0 3 (by omega)]
        refine Go.yes (t2) ?_
        refine Go.no (by rw [lit_nI, nI_eq' (by omega) (by omega)]; omega) ?_
        refine Go.gd (z0) ?_
        refine Go.gd (i0 1 (by omega)) ?_
        refine Go.gd (i0 2 (by omega)) ?_
        refine Go.gd (i0 3 (by omega)) ?_
        refine Go.some ?_
        simp (disch := omega) only [mput_r]
        rw [b2, nI_1]
      · left
        refine ⟨rfl, ?_, ?_, fun k hk => ?_⟩
        · simp (disch := omega) only [mput_q]; exact t1
        · simp (disch := omega) only [mput_q]; exact t2
        · rw [mput_r (show (15 : Nat) ≠ 1 by omega), mput_r (show (222 : Nat) ≠ 218 by omega)]
          have := t3 k hk
          simp only [mput, ad]
          repeat' split
          all_goals first | rfl | omega | exact this
      · refine fb_put (fb_put (fb_put (fb_put (fb_put (fb_rfl _ _) ?_) ?_) ?_) ?_) ?_ <;> first | rfl | simp [mNA]
      · refine fb_put (fb_put (fb_put (fb_put (fb_put (fb_rfl _ _) ?_) ?_) ?_) ?_) ?_ <;> first | rfl | simp [mNB]
    · refine ⟨A, B, r, ?_, ?_, Or.inl ⟨rfl, t1, t2, t3⟩, hr, a4, b2, fb_rfl _ _, fb_rfl _ _⟩
      · apply Go.eq
        unfold fW_write
        simp only [kb, a4, e4]
        refine Go.no (by rw [lit_nI, nI_add, nI_le' (by omega) (by omega)]; omega) ?_
        refine Go.some ?_
        rfl
      · apply Go.eq
        unfold fM_notes
        refine Go.yes (t2) ?_
        refine Go.yes (by rw [b2, lit_nI, nI_eq' (by omega) (by omega)]; omega) ?_
        refine Go.some ?_
        rfl
  · have kb : kbl 16 = 0 := rfl
    refine ⟨A, B, r, ?_, ?_, Or.inr ⟨rfl, t1, t2, t3⟩, hr, a4, b2, fb_rfl _ _, fb_rfl _ _⟩
    · apply Go.eq
      unfold fW_write
      simp only [kb, a4, e4]
      refine Go.no (by rw [lit_nI, nI_add, nI_le' (by omega) (by omega)]; omega) ?_
      refine Go.some ?_
      rfl
    · apply Go.eq
      unfold fM_notes
      refine Go.no (by rw [t2]; decide) ?_
      refine Go.some ?_
      rfl
/-! a letter goes out of the bag -/
def mRA (w c k : Nat) : Bool := !(Nat.ble (w + 8) c && Nat.ble c (w + 12)) && !(Nat.beq c (w + 7) && Nat.beq k 0)
def mRB (c k : Nat) : Bool := !(Nat.beq c 218 && (Nat.beq k 10 || Nat.ble 54 k))
theorem mRA_of {w c k : Nat} (h : ¬ (w + 8 ≤ c ∧ c ≤ w + 12)) (h2 : c ≠ w + 7 ∨ k ≠ 0) : mRA w c k = true := by
  have e : (Nat.beq c (w + 7) && Nat.beq k 0) = false := by
    rcases h2 with q | q
    · rw [nbeq q]; rfl
    · rw [nbeq q, Bool.and_false]
  have e2 : (Nat.ble (w + 8) c && Nat.ble c (w + 12)) = false := by
    cases e : (Nat.ble (w + 8) c && Nat.ble c (w + 12))
    · rfl
    · rw [Bool.and_eq_true, Nat.ble_eq, Nat.ble_eq] at e; exact absurd e h
  simp only [mRA, e, e2]; rfl
theorem mRB_of {c k : Nat} (h : c = 218 → k ≠ 10 ∧ k < 54) : mRB c k = true := by
  have e : (Nat.beq c 218 && (Nat.beq k 10 || Nat.ble 54 k)) = false := by
    cases e : (Nat.beq c 218 && (Nat.beq k 10 || Nat.ble 54 k))
    · rfl
    · rw [Bool.and_eq_true, Bool.or_eq_true, Nat.beq_eq, Nat.beq_eq, Nat.ble_eq] at e
      have := h e.1; omega
  simp only [mRB, e]; rfl
theorem mcp_in {M : Mm} {a b sp dp n j : Nat} (h : dp ≤ j) (h2 : j < dp + n) : mcp M a b sp dp n b j = M a (sp + (j - dp)) := by
  unfold mcp; rw [if_pos rfl, pk_cpy_in h h2]
theorem mcp_o {M : Mm} {a b sp dp n j : Nat} (h : j < dp ∨ dp + n ≤ j) : mcp M a b sp dp n b j = M b j := by
  unfold mcp; rw [if_pos rfl, pk_cpy_out h]
theorem remove_eq {A : Mm} {v i m : Nat} (hm : m ≤ 24) (hi : i < m) (a0 : A v 0 = nI m) :
    ∃ A', fB_remove v (nI i) A = some A' ∧ A' v 0 = nI (m - 1) ∧ (∀ c, v + 1 ≤ c → c ≤ v + 5 → ∀ j, A' c j = if i ≤ j ∧ j < m - 1 then A c (j + 1) else A c j) ∧ (∀ c k, ¬ (v + 1 ≤ c ∧ c ≤ v + 5) → ¬ (c = v ∧ k = 0) → A' c k = A c k) := by
  have e1 : nI m - nI i - 1 = nI (m - i - 1) := by rw [nI_sub' (by omega), lit_nI, nI_sub' (by omega)]
  have e2 : nI i + 1 = nI (i + 1) := nI_1 i
  have j1 : jix (nI (i + 1)) = i + 1 := jix_nI (by omega)
  have j2 : jix (nI i) = i := jix_nI (by omega)
  have j3 : jix (nI (m - i - 1)) = m - i - 1 := jix_nI (by omega)
  have gg : ¬ (nI (i + 1) : Int32) < 0 ∧ ¬ (nI i : Int32) < 0 ∧ ¬ (nI (m - i - 1) : Int32) < 0 ∧ jix (nI (i + 1)) + jix (nI (m - i - 1)) ≤ 24 ∧ jix (nI i) + jix (nI (m - i - 1)) ≤ 24 := by
    refine ⟨nI_nneg (by omega), nI_nneg (by omega), nI_nneg (by omega), ?_, ?_⟩
    · rw [j1, j3]; omega
    · rw [j2, j3]; omega
  refine ⟨mput (mcp (mcp (mcp (mcp (mcp A (v + 1) (v + 1) (i + 1) i (m - i - 1)) (v + 2) (v + 2) (i + 1) i (m - i - 1)) (v + 3) (v + 3) (i + 1) i (m - i - 1)) (v + 4) (v + 4) (i + 1) i (m - i - 1)) (v + 5) (v + 5) (i + 1) i (m - i - 1)) v 0 (nI (m - 1)), ?_, mput_same _ _ _ _, ?_, ?_⟩
  · apply Go.eq
    unfold fB_remove
    simp only [a0, e1, e2]
    refine Go.no (nI_nneg (by omega)) ?_
    refine Go.yes (nI_pos' (by omega)) ?_
    refine Go.gd (gg) ?_
    refine Go.gd (gg) ?_
    refine Go.gd (gg) ?_
    refine Go.gd (gg) ?_
    refine Go.gd (gg) ?_
    refine Go.some ?_
    rw [j1, j2, j3]
    simp (disch := omega) only [mcp_r]
    rw [a0, lit_nI, nI_sub' (by omega)]
  · intro c h1 h2 j
    rw [mput_r (by omega)]
    have hc : c = v + 1 ∨ c = v + 2 ∨ c = v + 3 ∨ c = v + 4 ∨ c = v + 5 := by omega
    by_cases q : i ≤ j ∧ j < m - 1
    · rw [if_pos q]
      rcases hc with rfl | rfl | rfl | rfl | rfl <;> ((try simp (disch := omega) only [mcp_r]); rw [mcp_in q.1 (by omega)]; (try simp (disch := omega) only [mcp_r]); exact congrArg _ (by omega))
    · rw [if_neg q]
      rcases hc with rfl | rfl | rfl | rfl | rfl <;> ((try simp (disch := omega) only [mcp_r]); rw [mcp_o (by omega)]; (try simp (disch := omega) only [mcp_r]))
  · intro c k h1 h2
    rw [mput_q (by omega)]
    simp (disch := omega) only [mcp_r]
theorem goesOut_eq {B : Mm} {i m : Nat} (hm : m ≤ 24) (hi : i < m) (b0 : B 218 10 = nI m) :
    fM_goesOut (nI i) B = some (mrow B 218 (fun k => if 54 + 5 * i ≤ k ∧ k < 54 + 5 * (m - 1) then B 218 (k + 5) else if k = 10 then nI (m - 1) else B 218 k)) := by
  apply Go.eq
  unfold fM_goesOut
  have la : ∀ x : Nat, fM_letterAt (nI x) = nI (54 + 5 * x) := fun x => by
    unfold fM_letterAt; rw [lit_nI, lit_nI, nI_mul', nI_add]
  have e1 : B 218 10 - 1 = nI (m - 1) := by rw [b0, lit_nI, nI_sub' (by omega)]
  rw [e1, la]
  refine Go.bind (P := fun e => e = mrow B 218 (fun k => if 54 + 5 * i ≤ k ∧ k < 54 + 5 * (m - 1) then B 218 (k + 5) else if k = 10 then nI (m - 1) else B 218 k)) ?_ (fun e he => Go.some he)
  refine go_for (fun x s => s = (nI x, mrow B 218 (fun k => if 54 + 5 * i ≤ k ∧ k < x then B 218 (k + 5) else if k = 10 then nI (m - 1) else B 218 k)) ∧ 54 + 5 * i ≤ x) (54 + 5 * (m - 1)) ?_ ?_ (i := 54 + 5 * i) (by omega) ?_ (by omega)
  · rintro s ⟨rfl, hx⟩
    unfold fM_goesOut_b22
    dsimp only
    have n10 : ¬ (54 + 5 * i ≤ 10 ∧ 10 < 54 + 5 * (m - 1)) := by omega
    simp only [mrow_in, if_neg n10, if_true]
    rw [la]
    exact Go.yes (i32_le.mpr (Int.le_refl _)) (Go.some rfl)
  · rintro x s hx ⟨rfl, hx2⟩
    unfold fM_goesOut_b22
    dsimp only
    have e5 : nI x + 5 = nI (x + 5) := nI_add x 5
    have n10 : ¬ (54 + 5 * i ≤ 10 ∧ 10 < x) := by omega
    simp only [mrow_in, e5, if_neg n10, if_true]
    rw [la]
    refine Go.no (by rw [nI_le' (by omega) (by omega)]; omega) ?_
    refine Go.gd (by rw [inb_nI (by omega)]; omega) ?_
    refine Go.gd (by rw [inb_nI (by omega)]; omega) ?_
    refine Go.some ?_
    refine ⟨?_, by omega⟩
    rw [jix_nI (by omega), jix_nI (by omega), mrow_put, nI_1]
    congr 2
    funext k
    by_cases kx : k = x
    · subst kx
      rw [if_pos rfl, if_neg (by omega), if_neg (by omega), if_pos (by omega)]
    · rw [if_neg kx]
      by_cases q : 54 + 5 * i ≤ k ∧ k < x
      · rw [if_pos q, if_pos (by omega)]
      · rw [if_neg q, if_neg (show ¬ (54 + 5 * i ≤ k ∧ k < x + 1) by omega)]
  · refine ⟨?_, Nat.le_refl _⟩
    have : mput B 218 10 (nI (m - 1)) = mrow B 218 (fun k => if 54 + 5 * i ≤ k ∧ k < 54 + 5 * i then B 218 (k + 5) else if k = 10 then nI (m - 1) else B 218 k) := by
      conv => lhs; rw [← mrow_same B 218]
      rw [mrow_put]
      congr 1
      funext k
      rw [if_neg (show ¬ (54 + 5 * i ≤ k ∧ k < 54 + 5 * i) by omega)]
    rw [this]
theorem rem2 {A B : Mm} {w i m : Nat} (hm : m ≤ 24) (hi : i < m) (a0 : A (w + 7) 0 = nI m) (b0 : B 218 10 = nI m) (hL : ∀ j, j < m → WL A w (B 218) j) :
    ∃ A' B', fB_remove (w + 7) (nI i) A = some A' ∧ fM_goesOut (nI i) B = some B' ∧ A' (w + 7) 0 = nI (m - 1) ∧ B' 218 10 = nI (m - 1) ∧ (∀ j, j < m - 1 → WL A' w (B' 218) j) ∧ FB (mRA w) A A' ∧ FB mRB B B' := by
  obtain ⟨A', e1, e2, e3, e4⟩ := remove_eq (v := w + 7) hm hi a0
  refine ⟨A', _, e1, goesOut_eq hm hi b0, e2, ?_, fun j hj => ?_, fun c k q => ?_, fun c k q => ?_⟩
  · rw [mrow_in, if_neg (by omega), if_pos rfl]
  · rw [mrow_in]
    have g : ∀ t, t < 5 → (if 54 + 5 * i ≤ 54 + t + 5 * j ∧ 54 + t + 5 * j < 54 + 5 * (m - 1) then B 218 (54 + t + 5 * j + 5) else if 54 + t + 5 * j = 10 then nI (m - 1) else B 218 (54 + t + 5 * j)) = if i ≤ j then B 218 (54 + t + 5 * (j + 1)) else B 218 (54 + t + 5 * j) := by
      intro t ht
      by_cases q : i ≤ j
      · rw [if_pos (by omega), if_pos q]; exact congrArg (B 218) (by omega)
      · rw [if_neg (by omega), if_neg (by omega), if_neg q]
    have g0 := g 0 (by omega)
    have g1 := g 1 (by omega)
    have g2 := g 2 (by omega)
    have g3 := g 3 (by omega)
    have g4 := g 4 (by omega)
    simp only [Nat.reduceAdd, Nat.add_zero] at g0 g1 g2 g3 g4
    unfold WL
    dsimp only
    rw [g0, g1, g2, g3, g4, e3 (w + 8) (by omega) (by omega), e3 (w + 9) (by omega) (by omega), e3 (w + 10) (by omega) (by omega), e3 (w + 11) (by omega) (by omega), e3 (w + 12) (by omega) (by omega)]
    by_cases q : i ≤ j
    · simp only [if_pos q, if_pos (show i ≤ j ∧ j < m - 1 from ⟨q, hj⟩)]
      exact hL (j + 1) (by omega)
    · simp only [if_neg q, if_neg (show ¬ (i ≤ j ∧ j < m - 1) from fun z => q z.1)]
      exact hL j (by omega)
  · refine e4 c k (fun z => ?_) (fun z => ?_)
    · have y1 : Nat.ble (w + 8) c = true := Nat.ble_eq.mpr (by omega)
      have y2 : Nat.ble c (w + 12) = true := Nat.ble_eq.mpr (by omega)
      simp [mRA, y1, y2] at q
    · rw [z.1, z.2] at q
      simp [mRA] at q
  · by_cases c8 : c = 218
    · subst c8
      rw [mrow_in]
      have y : k ≠ 10 ∧ k < 54 := by
        refine ⟨fun z => ?_, Nat.lt_of_not_le fun z => ?_⟩
        · rw [z] at q; simp [mRB] at q
        · have y2 : Nat.ble 54 k = true := Nat.ble_eq.mpr z
          simp [mRB, y2] at q
      rw [if_neg (by omega), if_neg y.1]
    · rw [mrow_r c8]
end PmBring
