section PmKeep
/-- a row set anew -/
def mrow (M : Mm) (a : Nat) (f : Nat → Int32) : Mm := fun b k => if b = a then f k else M b k
theorem mrow_in (M : Mm) (a : Nat) (f : Nat → Int32) : mrow M a f a = f := by funext k; simp [mrow]
theorem mrow_r {M : Mm} {a : Nat} {f : Nat → Int32} {b : Nat} (h : b ≠ a) : mrow M a f b = M b := by funext k; simp [mrow, h]
theorem mrow_same (M : Mm) (a : Nat) : mrow M a (M a) = M := by
  funext b k
  by_cases h : b = a
  · subst h; simp [mrow]
  · simp [mrow, h]
theorem mrow_put (M : Mm) (a : Nat) (f : Nat → Int32) (k : Nat) (v : Int32) : mput (mrow M a f) a k v = mrow M a (fun j => if j = k then v else f j) := by
  funext b j
  by_cases h : b = a
  · subst h; simp [mrow, mput]
  · simp [mrow, mput, h]
theorem fb_row {S : Nat → Nat → Bool} {M0 M : Mm} {a : Nat} {f : Nat → Int32} (h : FB S M0 M) (ha : ∀ k, S a k = false) : FB S M0 (mrow M a f) := fun c j h1 => by
  rw [mrow_r (fun q => by rw [q, ha] at h1; cases h1)]; exact h c j h1
theorem shift_eq {B : Mm} (h : B 217 3 = nI 5) : lp 1000000 (fun s => fM_keepsAhead_b21 s.1 s.2) (0, B) = some (mrow B 219 (fun k => if k < 870 then B 219 (k + 174) else B 219 k)) := by
  apply Go.eq
  refine go_for (fun i s => s = (nI i, mrow B 219 (fun k => if k < i then B 219 (k + 174) else B 219 k))) 870 ?_ ?_ (i := 0) (by omega) ?_ (by omega)
  · intro s hs
    subst hs
    unfold fM_keepsAhead_b21
    have e2 : ∀ f, (174 : Int32) * mrow B 219 f 217 3 ≤ nI 870 := fun f => by rw [mrow_r (by omega), h]; decide
    refine Go.yes ?_ (Go.some rfl)
    dsimp only
    exact e2 _
  · intro i s hi hs
    subst hs
    unfold fM_keepsAhead_b21
    have e1 : nI i + 174 = nI (i + 174) := nI_add i 174
    have e2 : ∀ f, (174 : Int32) * mrow B 219 f 217 3 = nI 870 := fun f => by rw [mrow_r (by omega), h]; decide
    refine Go.no (by rw [e2, nI_le' (by omega) (by omega)]; omega) ?_
    refine Go.gd (by rw [e1, inb_nI (by omega)]; omega) ?_
    refine Go.gd (by rw [inb_nI (by omega)]; omega) ?_
    refine Go.some ?_
    show (nI i + 1, mput _ 219 (jix (nI i)) _) = _
    dsimp only
    rw [e1, jix_nI (by omega), jix_nI (by omega), mrow_put, mrow_in, nI_1]
    congr 2
    funext k
    by_cases k1 : k = i
    · subst k1
      rw [if_pos rfl, if_neg (by omega), if_pos (by omega)]
    · rw [if_neg k1]
      by_cases k2 : k < i
      · rw [if_pos k2, if_pos (by omega)]
      · rw [if_neg k2, if_neg (by omega)]
  · simp only [Nat.not_lt_zero, if_false]
    rw [mrow_same]; rfl
theorem stow_eq {B : Mm} {p : Nat} (hp : p ≤ 5) (h : B 217 3 = nI p) : lp 1000000 (fun s => fM_keepsAhead_b57 s.1 s.2) (0, B) = some (mrow B 219 (fun k => if 174 * p ≤ k ∧ k < 174 * p + 174 then B 218 (k - 174 * p) else B 219 k)) := by
  apply Go.eq
  refine go_for (fun i s => s = (nI i, mrow B 219 (fun k => if 174 * p ≤ k ∧ k < 174 * p + i then B 218 (k - 174 * p) else B 219 k))) 174 ?_ ?_ (i := 0) (by omega) ?_ (by omega)
  · intro s hs
    subst hs
    unfold fM_keepsAhead_b57
    exact Go.yes (show (174 : Int32) ≤ nI 174 by decide) (Go.some rfl)
  · intro i s hi hs
    subst hs
    unfold fM_keepsAhead_b57
    have e2 : ∀ f, (174 : Int32) * mrow B 219 f 217 3 + nI i = nI (174 * p + i) := fun f => by
      rw [mrow_r (by omega), h, lit_nI, nI_mul', nI_add]
    refine Go.no (by rw [lit_nI, nI_le' (by omega) (by omega)]; omega) ?_
    refine Go.gd (by rw [inb_nI (by omega)]; omega) ?_
    refine Go.gd (by rw [e2, inb_nI (by omega)]; omega) ?_
    refine Go.some ?_
    show (nI i + 1, mput _ 219 (jix _) _) = _
    dsimp only
    rw [e2, jix_nI (by omega), jix_nI (by omega), mrow_put, mrow_r (by omega), nI_1]
    congr 2
    funext k
    by_cases k1 : k = 174 * p + i
    · subst k1
      rw [if_pos rfl, if_pos (by omega)]
      congr 1; omega
    · rw [if_neg k1]
      by_cases k2 : 174 * p ≤ k ∧ k < 174 * p + i
      · rw [if_pos k2, if_pos (by omega)]
      · rw [if_neg k2, if_neg (by omega)]
  · show (0, B) = (nI 0, _)
    have : (fun k => if 174 * p ≤ k ∧ k < 174 * p + 0 then B 218 (k - 174 * p) else B 219 k) = B 219 := by
      funext k; rw [if_neg (by omega)]
    rw [this, mrow_same]; rfl
def aKp (c _ : Nat) : Bool := !Nat.beq c 31 && !(Nat.ble 33 c && Nat.ble c 122)
def bKp (c k : Nat) : Bool := !Nat.beq c 219 && !(Nat.beq c 217 && Nat.beq k 3)
theorem kbl_kept {q : Nat} (hq : q < 6) : kbl (33 + 15 * q) = 0 := by
  unfold kbl; rw [if_neg (by omega)]
theorem aKp_mO {q c k : Nat} (hq : q < 6) (h : aKp c k = true) : mO (33 + 15 * q) c k = true := by
  have h1 : ¬ (33 ≤ c ∧ c ≤ 122) := by
    intro z
    have z1 : Nat.ble 33 c = true := Nat.ble_eq.mpr z.1
    have z2 : Nat.ble c 122 = true := Nat.ble_eq.mpr z.2
    simp [aKp, z1, z2] at h
  have h2 : (Nat.ble (33 + 15 * q) c && Nat.ble c (33 + 15 * q + 14)) = false := by
    cases e : (Nat.ble (33 + 15 * q) c && Nat.ble c (33 + 15 * q + 14))
    · rfl
    · rw [Bool.and_eq_true, Nat.ble_eq, Nat.ble_eq] at e; omega
  simp only [mO, h2]; rfl
theorem mW_mO {w v c k : Nat} (hs : w + 14 < v ∨ v + 14 < w) (h : mW v c k = true) : mO w c k = true := by
  have h1 : v ≤ c ∧ c ≤ v + 13 := by
    simp only [mW, Bool.or_eq_true, Bool.and_eq_true, Nat.ble_eq, Nat.beq_eq] at h
    omega
  have h2 : (Nat.ble w c && Nat.ble c (w + 14)) = false := by
    cases e : (Nat.ble w c && Nat.ble c (w + 14))
    · rfl
    · rw [Bool.and_eq_true, Nat.ble_eq, Nat.ble_eq] at e; omega
  simp only [mO, h2]; rfl
theorem aKp_row31 {q k : Nat} (hq : q < 6) : mO (33 + 15 * q) 31 k = true := by
  have h2 : (Nat.ble (33 + 15 * q) 31 && Nat.ble 31 (33 + 15 * q + 14)) = false := by
    cases e : (Nat.ble (33 + 15 * q) 31 && Nat.ble 31 (33 + 15 * q + 14))
    · rfl
    · rw [Bool.and_eq_true, Nat.ble_eq, Nat.ble_eq] at e; omega
  simp only [mO, h2]; rfl
theorem aKp_of {c k : Nat} (h1 : c ≠ 31) (h2 : ¬ (33 ≤ c ∧ c ≤ 122)) : aKp c k = true := by
  have e1 : Nat.beq c 31 = false := by
    cases e : Nat.beq c 31
    · rfl
    · exact absurd (Nat.eq_of_beq_eq_true e) h1
  have e2 : (Nat.ble 33 c && Nat.ble c 122) = false := by
    cases e : (Nat.ble 33 c && Nat.ble c 122)
    · rfl
    · rw [Bool.and_eq_true, Nat.ble_eq, Nat.ble_eq] at e; exact absurd e h2
  simp [aKp, e1, e2]
theorem bKp_of {c k : Nat} (h1 : c ≠ 219) (h2 : ¬ (c = 217 ∧ k = 3)) : bKp c k = true := by
  have e1 : Nat.beq c 219 = false := by
    cases e : Nat.beq c 219
    · rfl
    · exact absurd (Nat.eq_of_beq_eq_true e) h1
  have e2 : (Nat.beq c 217 && Nat.beq k 3) = false := by
    cases e : (Nat.beq c 217 && Nat.beq k 3)
    · rfl
    · rw [Bool.and_eq_true, Nat.beq_eq, Nat.beq_eq] at e; exact absurd e h2
  simp [bKp, e1, e2]
theorem aKp_aW {c k : Nat} (h : aW c k = true) : aKp c k = true := by
  simp only [aW, mW, Bool.or_eq_true, Bool.and_eq_true, Nat.ble_eq, Nat.beq_eq] at h
  exact aKp_of (by omega) (by omega)
theorem bKp_bW {c k : Nat} (h : bW c k = true) : bKp c k = true := by
  simp only [bW, Bool.or_eq_true, Bool.and_eq_true, Nat.beq_eq] at h
  exact bKp_of (by omega) (by omega)
theorem jrem6 {a : Nat} (h : a < 100) : jrem (nI a) 6 = nI (a % 6) := pk_rem (d := 6) (by omega) (by omega) (by omega)
theorem keep_sim {A B : Mm} {n : Nat} (hW : RW A B n) (hP : RP A B n) : Go (fP_keep A) (fun A' => Go (fM_keepsAhead B) (fun B' => RW A' B' n ∧ RP A' B' n ∧ FB aKp A A' ∧ FB bKp B B' ∧ ∀ N, CN N B → CN N B')) := by
  obtain ⟨p, q, p1, q1, e1, e2, e3, e4⟩ := hP
  unfold fP_keep
  have eq' : jrem (A 31 1 + 1) 6 = nI ((q + 1) % 6) := by rw [e2, nI_1, jrem6 (by omega)]
  have hq' : (q + 1) % 6 < 6 := Nat.mod_lt _ (by omega)
  rw [eq']
  generalize hz : (q + 1) % 6 = q' at *
  have f1 : mput A 31 1 (nI q') 31 1 = nI q' := mput_same _ _ _ _
  refine Go.gd (by rw [f1, inb_nI (by omega)]; exact hq') ?_
  rw [f1, jix_nI (by omega)]
  refine Go.bind (copy_go (M := mput A 31 1 (nI q')) (w := 33 + 15 * q') (v := 1) (by omega)) (fun A2 hc => Go.some ?_)
  have hcf : FB (mO (33 + 15 * q')) (mput A 31 1 (nI q')) A2 := hc.2.2.2.2.2.2.1
  have g1 : A2 31 0 = nI p := by
    rw [hcf 31 0 (aKp_row31 hq')]; rw [mput_s (by omega)]; exact e1
  have g2 : A2 31 1 = nI q' := by
    rw [hcf 31 1 (aKp_row31 hq')]; exact f1
  have hfa : FB aKp A (mput A2 31 0 (jmin 6 (A2 31 0 + 1))) := by
    refine fb_put ?_ rfl
    refine FB.trans (M1 := mput A 31 1 (nI q')) (fb_put (fb_rfl _ _) rfl) (hcf.sub fun c k h => aKp_mO hq' h)
  have hm : jmin 6 (A2 31 0 + 1) = nI (min 6 (p + 1)) := by
    rw [g1, nI_1, lit_nI, jmin_nI (by omega) (by omega)]
  have hwr1 : WR (mput A 31 1 (nI q')) 1 (B 218) (B 221) n := WR_congr (fb_put (fb_rfl _ _) rfl) hW.1
  have hnew : WR A2 (33 + 15 * q') (B 218) (B 221) n := WR_cpy hc hwr1
  have hold : ∀ z, z < 6 → z ≠ q' → ∀ ρ, WR A (33 + 15 * z) ρ (B 221) n → WR A2 (33 + 15 * z) ρ (B 221) n := by
    intro z hz1 hz2 ρ hw
    refine WR_congr (A := mput A 31 1 (nI q')) (hcf.sub fun c k h => mW_mO (by omega) h) (WR_congr (fb_put (fb_rfl _ _) ?_) hw)
    simp only [mW, Bool.or_eq_false_iff, Bool.and_eq_false_iff]
    refine ⟨Or.inl (Or.inl ?_), Or.inl (Or.inl ?_)⟩
    · cases e : Nat.beq 31 (33 + 15 * z)
      · rfl
      · have := Nat.eq_of_beq_eq_true e; omega
    · cases e : Nat.ble (33 + 15 * z + 1) 31
      · rfl
      · have := Nat.ble_eq.mp e; omega
  have hput : ∀ w, 33 ≤ w → ∀ ρ lv, WR A2 w ρ lv n → WR (mput A2 31 0 (jmin 6 (A2 31 0 + 1))) w ρ lv n := by
    intro w hw ρ lv h
    refine WR_congr (fb_put (fb_rfl _ _) ?_) h
    simp only [mW, Bool.or_eq_false_iff, Bool.and_eq_false_iff]
    refine ⟨Or.inl (Or.inl ?_), Or.inl (Or.inl ?_)⟩
    · cases e : Nat.beq 31 w
      · rfl
      · have := Nat.eq_of_beq_eq_true e; omega
    · cases e : Nat.ble (w + 1) 31
      · rfl
      · have := Nat.ble_eq.mp e; omega
  unfold fM_keepsAhead
  by_cases p6 : p = 6
  · subst p6
    have b1 : mput B 217 3 (B 217 3 - 1) 217 3 = nI 5 := by rw [mput_same, e3]; decide
    refine go_bind.mpr ?_
    refine Go.yes (e3) ?_
    refine go_bind.mpr ?_
    rw [shift_eq b1]
    refine Go.some ?_
    refine Go.some ?_
    refine go_bind.mpr ?_
    rw [stow_eq (p := 5) (by omega) (by rw [mrow_r (by omega)]; exact b1)]
    refine Go.some ?_
    refine Go.some ?_
    simp only [mrow_in, mrow_r (show (217 : Nat) ≠ 219 by omega), mrow_r (show (218 : Nat) ≠ 219 by omega), mput_r (show (219 : Nat) ≠ 217 by omega), mput_r (show (218 : Nat) ≠ 217 by omega), mput_same, e3]
    have hfb : FB bKp B (mput (mrow (mrow (mput B 217 3 (nI 6 - 1)) 219 fun k => if k < 870 then B 219 (k + 174) else B 219 k) 219 fun k => if 174 * 5 ≤ k ∧ k < 174 * 5 + 174 then B 218 (k - 174 * 5) else if k < 870 then B 219 (k + 174) else B 219 k) 217 3 (nI 6 - 1 + 1)) := fb_put (fb_row (fb_row (fb_put (fb_rfl _ _) rfl) fun _ => rfl) fun _ => rfl) rfl
    refine ⟨?_, ⟨6, q', by omega, hq', ?_, ?_, ?_, fun j hj => ?_⟩, hfa, hfb, ?_⟩
    · exact RW_congr (hfa.sub fun c k h => aKp_aW h) (hfb.sub fun c k h => bKp_bW h) hW
    · rw [mput_same, hm]; rfl
    · rw [mput_s (by omega)]; exact g2
    · rw [mput_same]; decide
    · simp only [mput_r (show (219 : Nat) ≠ 217 by omega), mput_r (show (221 : Nat) ≠ 217 by omega), mrow_in, mrow_r (show (221 : Nat) ≠ 219 by omega)]
      refine hput _ (by omega) _ _ ?_
      by_cases j0 : j = 0
      · subst j0
        rw [show (q' + 6 - 0) % 6 = q' by omega]
        refine WR_rho (fun k hk => ?_) (fun k hk => rfl) hnew
        rw [if_pos (by omega)]; exact congrArg (B 218) (by omega)
      · refine WR_rho (ρ := fun k => B 219 (174 * (6 - 1 - (j - 1)) + k)) (fun k hk => ?_) (fun k hk => rfl) ?_
        · rw [if_neg (by omega), if_pos (by omega)]; exact congrArg (B 219) (by omega)
        · have := e4 (j - 1) (by omega)
          rw [show (q + 6 - (j - 1)) % 6 = (q' + 6 - j) % 6 by omega] at this
          exact hold _ (Nat.mod_lt _ (by omega)) (by omega) _ this
    · rintro N ⟨c1, c2, c3⟩
      refine ⟨?_, fun j hj => ?_, ?_⟩
      · rw [hfb 218 9 rfl]; exact c1
      · rw [mput_r (by omega), mrow_in]
        by_cases j5 : j = 5
        · subst j5
          rw [if_pos (by omega)]; exact c1
        · rw [if_neg (by omega), if_pos (by omega), show 174 * j + 9 + 174 = 174 * (j + 1) + 9 by omega]
          exact c2 (j + 1) (by omega)
      · rw [hfb 251 9 rfl]; exact c3
  · refine go_bind.mpr ?_
    refine Go.no (by rw [e3, lit_nI, nI_eq' (by omega) (by omega)]; exact p6) ?_
    refine Go.some ?_
    refine go_bind.mpr ?_
    rw [stow_eq (p := p) (by omega) e3]
    refine Go.some ?_
    refine Go.some ?_
    simp only [mrow_r (show (217 : Nat) ≠ 219 by omega), e3, nI_1]
    have hfb : FB bKp B (mput (mrow B 219 fun k => if 174 * p ≤ k ∧ k < 174 * p + 174 then B 218 (k - 174 * p) else B 219 k) 217 3 (nI (p + 1))) := fb_put (fb_row (fb_rfl _ _) fun _ => rfl) rfl
    refine ⟨?_, ⟨p + 1, q', by omega, hq', ?_, ?_, ?_, fun j hj => ?_⟩, hfa, hfb, ?_⟩
    · exact RW_congr (hfa.sub fun c k h => aKp_aW h) (hfb.sub fun c k h => bKp_bW h) hW
    · rw [mput_same, hm]; congr 1; omega
    · rw [mput_s (by omega)]; exact g2
    · rw [mput_same]
    · simp only [mput_r (show (219 : Nat) ≠ 217 by omega), mput_r (show (221 : Nat) ≠ 217 by omega), mrow_in, mrow_r (show (221 : Nat) ≠ 219 by omega)]
      refine hput _ (by omega) _ _ ?_
      by_cases j0 : j = 0
      · subst j0
        rw [show (q' + 6 - 0) % 6 = q' by omega]
        refine WR_rho (fun k hk => ?_) (fun k hk => rfl) hnew
        rw [if_pos (by omega)]; exact congrArg (B 218) (by omega)
      · refine WR_rho (ρ := fun k => B 219 (174 * (p - 1 - (j - 1)) + k)) (fun k hk => ?_) (fun k hk => rfl) ?_
        · rw [if_neg (by omega)]; exact congrArg (B 219) (by omega)
        · have := e4 (j - 1) (by omega)
          rw [show (q + 6 - (j - 1)) % 6 = (q' + 6 - j) % 6 by omega] at this
          exact hold _ (Nat.mod_lt _ (by omega)) (by omega) _ this
    · rintro N ⟨c1, c2, c3⟩
      refine ⟨?_, fun j hj => ?_, ?_⟩
      · rw [hfb 218 9 rfl]; exact c1
      · rw [mput_r (by omega), mrow_in]
        by_cases j5 : j = p
        · subst j5
          rw [if_pos (by omega), show 174 * j + 9 - 174 * j = 9 by omega]; exact c1
        · rw [if_neg (by omega)]
          exact c2 j hj
      · rw [hfb 251 9 rfl]; exact c3
end PmKeep
