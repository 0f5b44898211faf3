section PmFeed
theorem lp_inl {α β : Type} {f : α → Option (α ⊕ β)} {s t : α} {n : Nat} (h : f s = some (.inl t)) : lp (n + 1) f s = lp n f t := by
  conv => lhs; unfold lp
  rw [h]
theorem lp_inr {α β : Type} {f : α → Option (α ⊕ β)} {s : α} {e : β} {n : Nat} (h : f s = some (.inr e)) : lp (n + 1) f s = some e := by
  conv => lhs; unfold lp
  rw [h]
theorem byte_low (x : Int32) : (x &&& 255).toInt8 = x.toInt8 := by
  apply Int8.toBitVec_inj.1
  apply BitVec.eq_of_getLsbD_eq
  intro i hi
  have h2 : (255 : Int32).toBitVec.getLsbD i = true := by
    have : ∀ j : Fin 8, (255 : Int32).toBitVec.getLsbD j.val = true := by decide +kernel
    exact this ⟨i, hi⟩
  have h4 : (x &&& 255).toBitVec.getLsbD i = x.toBitVec.getLsbD i := by
    show (x.toBitVec &&& (255 : Int32).toBitVec).getLsbD i = _
    rw [BitVec.getLsbD_and, h2, Bool.and_true]
  have h3 : i < 32 := by omega
  first
    | (show (((x &&& 255).toBitVec).signExtend 8).getLsbD i = (x.toBitVec.signExtend 8).getLsbD i; rw [BitVec.getLsbD_signExtend, BitVec.getLsbD_signExtend, if_pos h3, if_pos h3, h4])
    | (show (((x &&& 255).toBitVec).setWidth 8).getLsbD i = (x.toBitVec.setWidth 8).getLsbD i; rw [BitVec.getLsbD_setWidth, BitVec.getLsbD_setWidth, h4])
    | (simp [hi, h3, h4]; done)
theorem byte_bits {x y : Int32} (h : ∀ i, i < 8 → x.toBitVec.getLsbD i = y.toBitVec.getLsbD i) : x.toInt8 = y.toInt8 := by
  apply Int8.toBitVec_inj.1
  apply BitVec.eq_of_getLsbD_eq
  intro i hi
  have h4 := h i hi
  have h3 : i < 32 := by omega
  first
    | (show ((x.toBitVec).signExtend 8).getLsbD i = (y.toBitVec.signExtend 8).getLsbD i; rw [BitVec.getLsbD_signExtend, BitVec.getLsbD_signExtend, if_pos h3, if_pos h3, h4])
    | (show ((x.toBitVec).setWidth 8).getLsbD i = (y.toBitVec.setWidth 8).getLsbD i; rw [BitVec.getLsbD_setWidth, BitVec.getLsbD_setWidth, h4])
    | (simp [hi, h3, h4]; done)
theorem shift_bits (x : Int32) {s : Nat} (hs : s = 24 ∨ s = 16 ∨ s = 8 ∨ s = 0) : (jushr x (nI s)).toInt8 = (x >>> (nI s &&& 31)).toInt8 := by
  apply byte_bits
  intro i hi
  have u : (jushr x (nI s)).toBitVec = x.toBitVec >>> s := by
    apply BitVec.eq_of_toNat_eq
    have h1 : (((nI s).toUInt32 &&& Int32.toUInt32 31).toBitVec % 32).toNat = s := by rcases hs with rfl | rfl | rfl | rfl <;> decide
    rw [BitVec.toNat_ushiftRight, Nat.shiftRight_eq_div_pow]
    exact pk_ushr x (nI s) s h1
  have v : (x >>> (nI s &&& 31)).toBitVec = x.toBitVec.sshiftRight s := by
    have h1 : ((nI s &&& 31).toBitVec.smod 32).toNat = s := by rcases hs with rfl | rfl | rfl | rfl <;> decide
    show x.toBitVec.sshiftRight' ((nI s &&& 31).toBitVec.smod 32) = _
    unfold BitVec.sshiftRight'
    rw [h1]
  rw [u, v, BitVec.getLsbD_ushiftRight, BitVec.getLsbD_sshiftRight]
  have : s + i < 32 := by omega
  simp [this]
  omega
theorem byte_eq (x : Int32) {s : Nat} (hs : s = 24 ∨ s = 16 ∨ s = 8 ∨ s = 0) : ∃ v, v < 256 ∧ (x >>> (nI s &&& 31)) &&& 255 = nI v ∧ jbyte (jbyte (jushr x (nI s))) = jbyte (nI v) := by
  obtain ⟨v, v1, v2⟩ := pk_andE (x >>> (nI s &&& 31)) (m := 255) 8 (by decide)
  refine ⟨v, by simpa using v1, v2, ?_⟩
  rw [← v2]
  unfold jbyte
  rw [byte_low, ← shift_bits x hs]
  simp
def TL (A B : Mm) (L : Nat) : Prop := A 0 10 = nI L ∧ B 217 10 = nI L ∧ ∀ k, k < L → ∃ v, v < 256 ∧ B 223 k = nI v ∧ A 178 k = jbyte (nI v)
theorem one_byte {A B : Mm} {L s : Nat} (x : Int32) (hL : L < 400) (h : TL A B L) (hs : s = 24 ∨ s = 16 ∨ s = 8 ∨ s = 0) :
    ∃ A' B', fK_feedOne_b3 x (nI s) A = some (.inl (nI s + (-8), A')) ∧ fM_types_b3 x (nI s) B = some (.inl (nI s + (-8), B')) ∧ TL A' B' (L + 1) ∧ FB aNT A A' ∧ FB bNT B B' := by
  obtain ⟨h1, h2, h3⟩ := h
  obtain ⟨v, v1, v2, v3⟩ := byte_eq x hs
  have jL : jix (nI L) = L := jix_nI (by omega)
  have iL : inb (nI L) 400 := (inb_nI (by omega)).mpr hL
  refine ⟨mput (mput A 178 L (jbyte (nI v))) 0 10 (nI (L + 1)), mput (mput B 223 L (nI v)) 217 10 (nI (L + 1)), ?_, ?_, ⟨mput_same _ _ _ _, mput_same _ _ _ _, fun k hk => ?_⟩, fb_put (fb_put (fb_rfl _ _) rfl) rfl, fb_put (fb_put (fb_rfl _ _) rfl) rfl⟩
  · apply Go.eq
    unfold fK_feedOne_b3
    simp only [h1, jL, v3, mput_r (show (0 : Nat) ≠ 178 by omega), nI_1]
    refine Go.no (nI_nneg (by omega)) ?_
    refine Go.no (by rw [lit_nI, nI_le' (by omega) (by omega)]; omega) ?_
    refine Go.gd (iL) ?_
    refine Go.some ?_
    rfl
  · apply Go.eq
    unfold fM_types_b3
    simp only [h2, jL, v2, mput_r (show (217 : Nat) ≠ 223 by omega), nI_1]
    refine Go.no (nI_nneg (by omega)) ?_
    refine Go.gd (iL) ?_
    refine Go.some ?_
    rfl
  · rw [mput_r (show (178 : Nat) ≠ 0 by omega), mput_r (show (223 : Nat) ≠ 217 by omega)]
    by_cases e : k = L
    · subst e
      exact ⟨v, v1, mput_same _ _ _ _, mput_same _ _ _ _⟩
    · rw [mput_s e, mput_s e]
      exact h3 k (by omega)
theorem one_int {A B : Mm} {L : Nat} (x : Int32) (hL : L + 4 ≤ 400) (h : TL A B L) : ∃ A' B', fK_feedOne x A = some A' ∧ fM_types x B = some B' ∧ TL A' B' (L + 4) ∧ FB aNT A A' ∧ FB bNT B B' := by
  obtain ⟨A1, B1, a1, b1, c1, d1, e1⟩ := one_byte x (s := 24) (by omega) h (by omega)
  obtain ⟨A2, B2, a2, b2, c2, d2, e2⟩ := one_byte x (s := 16) (by omega) c1 (by omega)
  obtain ⟨A3, B3, a3, b3, c3, d3, e3⟩ := one_byte x (s := 8) (by omega) c2 (by omega)
  obtain ⟨A4, B4, a4, b4, c4, d4, e4⟩ := one_byte x (s := 0) (by omega) c3 (by omega)
  refine ⟨A4, B4, ?_, ?_, c4, ((d1.trans d2).trans d3).trans d4, ((e1.trans e2).trans e3).trans e4⟩
  · unfold fK_feedOne
    have t1 : lp 1000000 (fun s : Int32 × Mm => fK_feedOne_b3 x s.1 s.2) (24, A) = lp 999999 (fun s : Int32 × Mm => fK_feedOne_b3 x s.1 s.2) (nI 16, A1) := lp_inl (n := 999999) a1
    have t2 : lp 999999 (fun s : Int32 × Mm => fK_feedOne_b3 x s.1 s.2) (nI 16, A1) = lp 999998 (fun s : Int32 × Mm => fK_feedOne_b3 x s.1 s.2) (nI 8, A2) := lp_inl (n := 999998) a2
    have t3 : lp 999998 (fun s : Int32 × Mm => fK_feedOne_b3 x s.1 s.2) (nI 8, A2) = lp 999997 (fun s : Int32 × Mm => fK_feedOne_b3 x s.1 s.2) (nI 0, A3) := lp_inl (n := 999997) a3
    have t4 : lp 999997 (fun s : Int32 × Mm => fK_feedOne_b3 x s.1 s.2) (nI 0, A3) = lp 999996 (fun s : Int32 × Mm => fK_feedOne_b3 x s.1 s.2) (-8, A4) := lp_inl (n := 999996) a4
    have t5 : lp 999996 (fun s : Int32 × Mm => fK_feedOne_b3 x s.1 s.2) (-8, A4) = some A4 := lp_inr (n := 999995) (if_pos (show (-8 : Int32) < 0 by decide))
    rw [t1, t2, t3, t4, t5]; rfl
  · unfold fM_types
    have t1 : lp 1000000 (fun s : Int32 × Mm => fM_types_b3 x s.1 s.2) (24, B) = lp 999999 (fun s : Int32 × Mm => fM_types_b3 x s.1 s.2) (nI 16, B1) := lp_inl (n := 999999) b1
    have t2 : lp 999999 (fun s : Int32 × Mm => fM_types_b3 x s.1 s.2) (nI 16, B1) = lp 999998 (fun s : Int32 × Mm => fM_types_b3 x s.1 s.2) (nI 8, B2) := lp_inl (n := 999998) b2
    have t3 : lp 999998 (fun s : Int32 × Mm => fM_types_b3 x s.1 s.2) (nI 8, B2) = lp 999997 (fun s : Int32 × Mm => fM_types_b3 x s.1 s.2) (nI 0, B3) := lp_inl (n := 999997) b3
    have t4 : lp 999997 (fun s : Int32 × Mm => fM_types_b3 x s.1 s.2) (nI 0, B3) = lp 999996 (fun s : Int32 × Mm => fM_types_b3 x s.1 s.2) (-8, B4) := lp_inl (n := 999996) b4
    have t5 : lp 999996 (fun s : Int32 × Mm => fM_types_b3 x s.1 s.2) (-8, B4) = some B4 := lp_inr (n := 999995) (if_pos (show (-8 : Int32) < 0 by decide))
    rw [t1, t2, t3, t4, t5]; rfl
theorem sim_feed {A B : Mm} (a b c d e : Int32) (h : RR A B) : Sim A B (fK_feed a b c d e A) (fM_feed a b c d e B) := by
  have h0 := h
  obtain ⟨-, -, -, ⟨L, L1, L2, L3, L4⟩, -⟩ := h0
  have l3 : mput B 217 0 0 217 10 = nI L := L3
  unfold Sim fK_feed fM_feed
  by_cases hL : L + 20 ≤ 400
  rotate_left
  · refine Go.no (by rw [L2, lit_nI, nI_add, lit_nI, nI_le' (by omega) (by omega)]; omega) ?_
    refine Go.some ?_
    refine Go.no (by rw [l3, lit_nI, nI_le' (by omega) (by omega)]; omega) ?_
    refine Go.some ?_
    exact ⟨rfl, fin_0 h⟩
  have T0 : TL A (mput B 217 0 0) L := ⟨L2, l3, fun k hk => by rw [mput_r (by omega)]; exact L4 k hk⟩
  obtain ⟨A1, B1, a1, b1, c1, d1, e1⟩ := one_int a (by omega) T0
  obtain ⟨A2, B2, a2, b2, c2, d2, e2⟩ := one_int b (by omega) c1
  obtain ⟨A3, B3, a3, b3, c3, d3, e3⟩ := one_int c (by omega) c2
  obtain ⟨A4, B4, a4, b4, c4, d4, e4⟩ := one_int d (by omega) c3
  obtain ⟨A5, B5, a5, b5, c5, d5, e5⟩ := one_int e (by omega) c4
  refine Go.yes (by rw [L2, lit_nI, nI_add, lit_nI, nI_le' (by omega) (by omega)]; omega) ?_
  rw [a1]
  refine go_bind.mpr ?_
  refine Go.some ?_
  rw [a2]
  refine go_bind.mpr ?_
  refine Go.some ?_
  rw [a3]
  refine go_bind.mpr ?_
  refine Go.some ?_
  rw [a4]
  refine go_bind.mpr ?_
  refine Go.some ?_
  rw [a5]
  refine go_bind.mpr ?_
  refine Go.some ?_
  refine Go.some ?_
  refine Go.yes (by rw [l3, lit_nI, nI_le' (by omega) (by omega)]; omega) ?_
  rw [b1]
  refine go_bind.mpr ?_
  refine Go.some ?_
  rw [b2]
  refine go_bind.mpr ?_
  refine Go.some ?_
  rw [b3]
  refine go_bind.mpr ?_
  refine Go.some ?_
  rw [b4]
  refine go_bind.mpr ?_
  refine Go.some ?_
  rw [b5]
  refine go_bind.mpr ?_
  refine Go.some ?_
  refine Go.some ?_
  refine ⟨c5.1.trans c5.2.1.symm, fin_t h ?_ ((((d1.trans d2).trans d3).trans d4).trans d5) (FB.trans (fb_put (fb_rfl _ _) rfl) ((((e1.trans e2).trans e3).trans e4).trans e5))⟩
  exact ⟨L + 4 + 4 + 4 + 4 + 4, by omega, c5.1, c5.2.1, c5.2.2⟩
end PmFeed
