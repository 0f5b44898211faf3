section PmLines4
theorem post_all {A B : Mm} {b : Nat → Nat} {L i nd : Nat} (hL : L ≤ 400) (hd : nd ≤ 12) (ps : PS A B b L i) (h5 : A 146 5 = nI nd) (h6 : B 217 6 = nI nd) (h0 : A 147 1 = 0) :
    Go (lp 1000000 (fun s => fR_read_b31 1 s.1 s.2) (0, A)) (fun y => Go (fM_readPost B) (fun r => ∃ A', (y = Sum.inl A' ∨ y = Sum.inr A') ∧ ((∃ k, r.1 = nI k ∧ k ≤ 16 ∧ A' 146 1 = 0 ∧ poR A B b L nd k A' r.2) ∨ (r.1 = -1 ∧ FLT A' r.2 ∧ gF A A' ∧ hF B r.2)))) := by
  have e : fM_readPost B = Option.bind (lp 1000000 (fun s => if fM_isWord (nI (wq 18)) s.2 = 0 then some (Sum.inr (Sum.inr (Sum.inr (s.1, s.2)))) else if s.1 = 16 then some (Sum.inr (Sum.inl s.2)) else (fun (x1 : Int32) (M : Mm) => (Option.bind (fM_readPostLine (64 + (4 * x1)) M) fun qz3 => if qz3.1 = (-1) then some (Sum.inr (Sum.inr (Sum.inl qz3.2))) else some (Sum.inl (x1 + 1, qz3.2)) : Option ((Int32 × Mm) ⊕ (Mm ⊕ Mm ⊕ (Int32 × Mm))))) s.1 s.2) (0, B)) finP := by
    unfold fM_readPost
    refine congrArg (Option.bind _) (funext fun e2 => ?_)
    rcases e2 with p | p | p <;> rfl
  rw [e]
  refine words_go (x1 := 1) (b := b) (L := L) (w := 18) (Or.inl rfl) (by omega) hL (fun s => ?_) (fun (x1 : Int32) (M : Mm) => (Option.bind (fM_readPostLine (64 + (4 * x1)) M) fun qz3 => if qz3.1 = (-1) then some (Sum.inr (Sum.inr (Sum.inl qz3.2))) else some (Sum.inl (x1 + 1, qz3.2)) : Option ((Int32 × Mm) ⊕ (Mm ⊕ Mm ⊕ (Int32 × Mm))))) (poR A B b L nd) (fun A' B' => gF A A' ∧ hF B B') (fun k A B h => h.1) (fun k A1 B1 h e => ?_) ?_ ⟨⟨i, ps⟩, h5, h6, fun j hj => by omega, h0, gF.rfl' A, hF.rfl' B⟩
  · show (if s = 274 then some 1 else some 0) = some (if s = nI 274 then (1 : Int32) else 0)
    by_cases q : s = nI 274
    · rw [if_pos q, if_pos (show s = 274 from q)]
    · rw [if_neg q, if_neg (show ¬ s = 274 from q)]
  · obtain ⟨-, -, -, -, -, ga, hb⟩ := h
    exact ⟨ga.trans (eF_bA _ _ _).c.g, hb.trans (hF_errs _ e)⟩
  · rintro k A1 B1 i1 lt ⟨-, g5, g6, hD, h147, fa, fb⟩ ps1 q1
    show Go (fR_postLine (nI k) A1) _
    have e64 : (64 : Int32) + 4 * nI k = nI (64 + 4 * k) := by rw [(lit_nI _ : (4 : Int32) = nI 4), nI_mul', (lit_nI _ : (64 : Int32) = nI 64), nI_add]
    rw [e64]
    refine (postLine_go hL hd lt ps1 g5 g6).mono fun A' hA => ?_
    refine go_bind.mpr ?_
    refine hA.mono fun r hr => ?_
    obtain ⟨ga, hb, h⟩ := hr
    rcases h with ⟨r0, hps, c5, c6, cA, cB, c56, c57, c58, c59, lok, c147⟩ | ⟨r0, fl⟩
    · refine Go.no (r0) ?_
      refine Go.some ?_
      rw [nI_1]
      refine Or.inl ⟨r.2, rfl, hps, c5, c6, fun j hj => ?_, c147, fa.trans ga, fb.trans hb⟩
      by_cases z : j = k
      · subst z; exact ⟨c56, c57, c58, c59, lok⟩
      · obtain ⟨d1, d2, d3, d4⟩ := cA j z
        rw [d1, d2, d3, d4, cB _ (by omega), cB _ (by omega), cB _ (by omega), cB _ (by omega)]
        exact hD j (by omega)
    · refine Go.yes (r0) ?_
      refine Go.some ?_
      exact Or.inr ⟨r.2, rfl, fl, fa.trans ga, fb.trans hb⟩
/-! the streets -/
def srR (A0 B0 : Mm) (b : Nat → Nat) (L nd k : Nat) (A B : Mm) : Prop := (∃ i, PS A B b L i) ∧ A 146 5 = nI nd ∧ B 217 6 = nI nd ∧ (∀ j, j < 144 → A 161 j = B 235 (144 + j) ∧ ∃ s, s ≤ 99 ∧ B 235 (144 + j) = nI s) ∧ (∀ a c, a < 12 → c < 12 → A 161 (12 * a + c) = A 161 (12 * c + a)) ∧ A 147 8 = nI k ∧ gF A0 A ∧ hF B0 B
/-- the shorter of the street before and the new one -/
def shr (s n : Nat) : Nat := if s = 0 ∨ n < s then n else s
theorem takes_eq {B : Mm} {j s n : Nat} (hj : j < 288) (hs : s ≤ 99) (hn : n ≤ 99) (h : B 235 j = nI s) : fM_takesStreet (nI j) (nI n) B = some (mput B 235 j (nI (shr s n))) := by
  have same : mput B 235 j (nI s) = B := by
    funext c m
    by_cases z : c = 235 ∧ m = j
    · rw [z.1, z.2, mput_same, h]
    · rw [mput_q z]
  refine Go.eq ?_
  unfold fM_takesStreet fM_takesStreet_j19 shr
  have ib : inb (nI j) 288 := (inb_nI (by omega)).mpr hj
  rw [jix_nI (by omega), h]
  refine Go.gd (ib) ?_
  by_cases z : s = 0
  · refine Go.yes (by rw [z]; rfl) ?_
    refine Go.gd (ib) ?_
    refine Go.some ?_
    rw [if_pos (Or.inl z)]
  · refine Go.no (by rw [← nI_zero, nI_eq' (by omega) (by omega)]; exact z) ?_
    refine Go.gd (ib) ?_
    by_cases l : s ≤ n
    · refine Go.yes ((nI_le' (by omega) (by omega)).mpr l) ?_
      refine Go.some ?_
      rw [if_neg (by omega), same]
    · refine Go.no (by rw [nI_le' (by omega) (by omega)]; exact l) ?_
      refine Go.gd (ib) ?_
      refine Go.some ?_
      rw [if_pos (by omega)]
theorem addStreet_eq {A : Mm} {a c s n : Nat} (ha : a < 12) (hc : c < 12) (hs : s ≤ 99) (hn : n ≤ 99) (h : A 161 (12 * a + c) = nI s) (h' : A 161 (12 * c + a) = nI s) : fT_addStreet (nI a) (nI c) (nI n) A = some (mput (mput A 161 (12 * a + c) (nI (shr s n))) 161 (12 * c + a) (nI (shr s n))) := by
  have same : mput (mput A 161 (12 * a + c) (nI s)) 161 (12 * c + a) (nI s) = A := by
    funext d m
    by_cases z : d = 161 ∧ m = 12 * c + a
    · rw [z.1, z.2, mput_same, h']
    · rw [mput_q z]
      by_cases z : d = 161 ∧ m = 12 * a + c
      · rw [z.1, z.2, mput_same, h]
      · rw [mput_q z]
  refine Go.eq ?_
  unfold fT_addStreet fT_addStreet_j24 shr
  rw [ix12, ix12, jix_nI (by omega), jix_nI (by omega), h]
  have i1 : inb (nI (12 * a + c)) 144 := (inb_nI (by omega)).mpr (by omega)
  have i2 : inb (nI (12 * c + a)) 144 := (inb_nI (by omega)).mpr (by omega)
  refine Go.gd (i1) ?_
  by_cases z : s = 0
  · refine Go.yes (by rw [z]; rfl) ?_
    refine Go.gd (i1) ?_
    refine Go.gd (i2) ?_
    refine Go.some ?_
    rw [if_pos (Or.inl z)]
  · refine Go.no (by rw [← nI_zero, nI_eq' (by omega) (by omega)]; exact z) ?_
    by_cases l : s ≤ n
    · refine Go.yes ((nI_le' (by omega) (by omega)).mpr l) ?_
      refine Go.some ?_
      rw [if_neg (by omega), same]
    · refine Go.no (by rw [nI_le' (by omega) (by omega)]; exact l) ?_
      refine Go.gd (i1) ?_
      refine Go.gd (i2) ?_
      refine Go.some ?_
      rw [if_pos (by omega)]
def st4 (k : Nat) (a c n : Int32) (M : Mm) : Option Mm := Option.bind (fR_need 59 M) fun M16 => Option.bind (if M16 146 1 = 0 then Option.bind (fT_addStreet a c n M16) fun Mz18 => some Mz18 else some M16) fun Mz19 => some (mput Mz19 147 8 (nI k + 1))
def st3 (k : Nat) (a c : Int32) (M : Mm) : Option Mm := Option.bind (fR_number 1 99 M) fun q => st4 k a c q.1 q.2
def st2 (k : Nat) (a : Int32) (M : Mm) : Option Mm := Option.bind (fR_number 0 ((M 146 5) - 1) M) fun q => st3 k a q.1 q.2
def st1 (k : Nat) (a : Int32) (M : Mm) : Option Mm := Option.bind (fR_sort M) fun s => Option.bind (if s = 1 then (if inb (M 146 4) 401 then (if M 164 (jix (M 146 4)) = a then Option.bind (fR_blame 2 M) fun Mz9 => some Mz9 else some M) else none) else some M) fun Mz10 => st2 k a Mz10
theorem st4_bad {A : Mm} {k : Nat} (a c n : Int32) (h : ¬ A 146 1 = 0) : Go (st4 k a c n A) (fun A' => bdP A A') := by
  unfold st4
  rw [need_bad 59 (by decide) h]
  refine go_bind.mpr ?_
  refine Go.some ?_
  refine go_bind.mpr ?_
  refine Go.no (h) ?_
  refine Go.some ?_
  refine Go.some ?_
  exact ⟨by rw [mput_r (by omega)], by rw [mput_r (by omega)], (gF.rfl' A).put (by omega)⟩
theorem st3_bad {A : Mm} {k : Nat} (a c : Int32) (h : ¬ A 146 1 = 0) : Go (st3 k a c A) (fun A' => bdP A A') := by
  unfold st3
  rw [num_bad _ _ h]
  refine go_bind.mpr ?_
  refine Go.some ?_
  exact st4_bad a c 0 h
theorem st2_bad {A : Mm} {k : Nat} (a : Int32) (h : ¬ A 146 1 = 0) : Go (st2 k a A) (fun A' => bdP A A') := by
  unfold st2
  rw [num_bad _ _ h]
  refine go_bind.mpr ?_
  refine Go.some ?_
  exact st3_bad a 0 h
theorem st1_bad {A : Mm} {k : Nat} (a : Int32) (h : ¬ A 146 1 = 0) : Go (st1 k a A) (fun A' => bdP A A') := by
  unfold st1
  rw [sort_bad h]
  refine go_bind.mpr ?_
  refine Go.some ?_
  refine go_bind.mpr ?_
  refine Go.no (by decide) ?_
  refine Go.some ?_
  exact st2_bad a h
theorem streetLine_go {A B A0 B0 : Mm} {b : Nat → Nat} {L i nd k : Nat} (hL : L ≤ 400) (hd : nd ≤ 12) (hk : k < 16) (hR : srR A0 B0 b L nd k A B) (ps : PS A B b L i) :
    Go (fR_streetLine (nI k) A) (fun A' => Go (fM_readStreet B) (fun r => (r.1 ≠ -1 ∧ srR A0 B0 b L nd (k + 1) A' r.2) ∨ (r.1 = -1 ∧ FLT A' r.2 ∧ gF A0 A' ∧ hF B0 r.2))) := by
  obtain ⟨-, h5, h6, hD, hsym, h147, fa, fb⟩ := hR
  have n5 := need_5 284 hL ps
  have cl : fR_streetLine (nI k) A = Option.bind (Option.bind (fR_need (nI (256 + 28)) A) fun M => fR_number 0 (nI nd - 1) M) fun q => st1 k q.1 q.2 := by
    obtain ⟨M, Me, M5⟩ := n5
    have Me' : fR_need (nI (256 + 28)) A = some M := Me
    rw [Me']
    show fR_streetLine (nI k) A = Option.bind (fR_number 0 (nI nd - 1) M) fun q => st1 k q.1 q.2
    unfold fR_streetLine
    rw [Me]
    show Option.bind (fR_number 0 (M 146 5 - 1) M) _ = _
    rw [M5, h5]
    refine congrArg (Option.bind _) (funext fun q => ?_)
    unfold st1 st2 st3 st4
    simp only [Option.bind_fun_some]
  rw [cl]
  obtain ⟨p, pe, r, re, n1, o1, h1⟩ := tol_go (w := 28) 0 (nI nd - 1) (by omega) hL ps
  have re : fM_readTold 21 0 (nI nd - 1) B = some r := re
  have fa1 : gF A0 p.2 := fa.trans n1.g
  have fb1 : hF B0 r.2 := fb.trans o1.h
  unfold fM_readStreet
  rw [h6]
  refine go_bind.mpr ?_
  refine ⟨p, pe, ?_⟩
  rcases h1 with ⟨a, a1, p1, r1, w, ps1⟩ | ⟨p1, r1, fl⟩
  rotate_left
  · refine (st1_bad p.1 fl.1).mono fun A' q => ?_
    refine go_bind.mpr ?_
    refine ⟨r, re, ?_⟩
    refine Go.yes (r1) ?_
    refine Go.some ?_
    exact Or.inr ⟨rfl, q.flt fl, fa1.trans q.2.2, fb1⟩
  have ad := door_lt a1 hd w
  have c5 : p.2 146 5 = nI nd := by rw [n1 146 5 (by omega)]; exact h5
  have c6 : r.2 217 6 = nI nd := by rw [o1 217 6 (by omega)]; exact h6
  have tk := (ps1.tok hL).1
  have cL := cs_le b L
  have iN := ps1.2.2.2.2.2
  unfold st1
  rw [sort_ok hL ps1, p1, ps1.2.2.2.1, jix_nI (by omega)]
  refine go_bind.mpr ?_
  refine Go.some ?_
  have mod : ∀ {Q : Int32 × Mm → Prop}, Go (if r.2 217 13 = 3 then (if r.2 217 14 = nI a then some ((fM_errs 2 r.2).1, (fM_errs 2 r.2).2) else fM_readStreet_j43 (nI a) r.2) else fM_readStreet_j43 (nI a) r.2) Q → Go (Option.bind (fM_readTold 21 0 (nI nd - 1) B) fun qz2 => if qz2.1 = -1 then some (-1, qz2.2) else if qz2.2 217 13 = 3 then (if qz2.2 217 14 = qz2.1 then some ((fM_errs 2 qz2.2).1, (fM_errs 2 qz2.2).2) else fM_readStreet_j43 qz2.1 qz2.2) else fM_readStreet_j43 qz2.1 qz2.2) Q := by
    intro Q hQ
    refine go_bind.mpr ?_
    refine ⟨r, re, ?_⟩
    dsimp only
    rw [r1]
    refine Go.no (nI_neg1 (by omega)) ?_
    exact hQ
  have main : Go (st2 k (nI a) p.2) (fun A' => Go (fM_readStreet_j43 (nI a) r.2) (fun r => (r.1 ≠ -1 ∧ srR A0 B0 b L nd (k + 1) A' r.2) ∨ (r.1 = -1 ∧ FLT A' r.2 ∧ gF A0 A' ∧ hF B0 r.2))) := by
    unfold st2 fM_readStreet_j43
    rw [c5, c6]
    obtain ⟨p2, p2e, r2, r2e, n2, o2, h2⟩ := num_go 0 (nI nd - 1) hL ps1
    have fa2 : gF A0 p2.2 := fa1.trans n2.g
    have fb2 : hF B0 r2.2 := fb1.trans o2.h
    refine go_bind.mpr ?_
    refine ⟨p2, p2e, ?_⟩
    rcases h2 with ⟨c, v1, p21, r21, w2, ps2⟩ | ⟨p21, r21, fl⟩
    rotate_left
    · refine (st3_bad (nI a) p2.1 fl.1).mono fun A' q => ?_
      refine go_bind.mpr ?_
      refine ⟨r2, r2e, ?_⟩
      refine Go.yes (r21) ?_
      refine Go.some ?_
      exact Or.inr ⟨rfl, q.flt fl, fa2.trans q.2.2, fb2⟩
    have cd := door_lt v1 hd w2
    unfold st3
    obtain ⟨p3, p3e, r3, r3e, n3, o3, h3⟩ := num_go 1 99 hL ps2
    have fa3 : gF A0 p3.2 := fa2.trans n3.g
    have fb3 : hF B0 r3.2 := fb2.trans o3.h
    refine go_bind.mpr ?_
    refine ⟨p3, p3e, ?_⟩
    rcases h3 with ⟨n, v3, p31, r31, w3, ps3⟩ | ⟨p31, r31, fl⟩
    rotate_left
    · refine (st4_bad (nI a) p2.1 p3.1 fl.1).mono fun A' q => ?_
      refine go_bind.mpr ?_
      refine ⟨r2, r2e, ?_⟩
      refine Go.no (by rw [r21]; exact nI_neg1 (by omega)) ?_
      refine go_bind.mpr ?_
      refine ⟨r3, r3e, ?_⟩
      refine Go.yes (r31) ?_
      refine Go.some ?_
      exact Or.inr ⟨rfl, q.flt fl, fa3.trans q.2.2, fb3⟩
    have n99 := within_99 v3 w3
    -- the cells
    have A3c : ∀ j, p3.2 161 j = A 161 j := fun j => by rw [n3 161 j (by omega), n2 161 j (by omega), n1 161 j (by omega)]
    have B3c : ∀ j, r3.2 235 j = B 235 j := fun j => by rw [o3 235 j (by omega), o2 235 j (by omega), o1 235 j (by omega)]
    obtain ⟨q1, s, s99, q2⟩ := hD (12 * a + c) (by omega)
    have q3 : A 161 (12 * c + a) = nI s := by rw [← hsym a c (by omega) (by omega), q1, q2]
    have q4 : B 235 (144 + (12 * c + a)) = nI s := by rw [← (hD (12 * c + a) (by omega)).1, q3]
    have s99' : shr s n ≤ 99 := by unfold shr; split <;> omega
    have idem : shr (shr s n) n = shr s n := by
      unfold shr
      by_cases z : s = 0 ∨ n < s
      · rw [if_pos z]; split <;> omega
      · rw [if_neg z, if_neg z]
    have t1 := takes_eq (B := r3.2) (j := 144 + (12 * a + c)) (n := n) (by omega) s99 n99.2 (by rw [B3c]; exact q2)
    have x144 : ∀ u v : Nat, (144 : Int32) + 12 * nI u + nI v = nI (144 + (12 * u + v)) := fun u v => by rw [(lit_nI _ : (12 : Int32) = nI 12), nI_mul', (lit_nI _ : (144 : Int32) = nI 144), nI_add, nI_add]; exact congrArg nI (by omega)
    have t2 : fM_takesStreet (nI (144 + (12 * c + a))) (nI n) (mput r3.2 235 (144 + (12 * a + c)) (nI (shr s n))) = some (mput (mput r3.2 235 (144 + (12 * a + c)) (nI (shr s n))) 235 (144 + (12 * c + a)) (nI (shr s n))) := by
      by_cases z : a = c
      · subst z
        have := takes_eq (B := mput r3.2 235 (144 + (12 * a + a)) (nI (shr s n))) (j := 144 + (12 * a + a)) (n := n) (by omega) s99' n99.2 (mput_same _ _ _ _)
        rw [idem] at this
        exact this
      · exact takes_eq (by omega) s99 n99.2 (by rw [mput_s (by omega), B3c]; exact q4)
    have ps4 : PS p3.2 (mput (mput r3.2 235 (144 + (12 * a + c)) (nI (shr s n))) 235 (144 + (12 * c + a)) (nI (shr s n))) b L (i + 2 + 1 + 1) := ps3.fr (fun _ _ _ _ => rfl) rfl rfl (fun m p q => by rw [mput_r (by omega), mput_r (by omega)]) (by rw [mput_r (by omega), mput_r (by omega)]) (by rw [mput_r (by omega), mput_r (by omega)])
    obtain ⟨A5, A5e, r5, r5e, n5, o5, h5'⟩ := mark_go hL ps4
    have fb5 : hF B0 r5.2 := ((fb3.put (by omega)).put (by omega)).trans o5.h
    unfold st4
    refine go_bind.mpr ?_
    refine ⟨A5, A5e, ?_⟩
    have modf : ∀ {Q : Int32 × Mm → Prop}, Q (r5.1, r5.2) → Go (Option.bind (fM_readNumber 0 (nI nd - 1) r.2) fun qz5 => if qz5.1 = -1 then some (-1, qz5.2) else Option.bind (fM_readNumber 1 99 qz5.2) fun qz7 => if qz7.1 = -1 then some (-1, qz7.2) else Option.bind (fM_takesStreet (144 + 12 * nI a + qz5.1) qz7.1 qz7.2) fun Mz9 => Option.bind (fM_takesStreet (144 + 12 * qz5.1 + nI a) qz7.1 Mz9) fun Mz11 => Option.bind (fM_readMark 59 Mz11) fun qz13 => some (qz13.1, qz13.2)) Q := by
      intro Q hQ
      refine go_bind.mpr ?_
      refine ⟨r2, r2e, ?_⟩
      refine Go.no (by rw [r21]; exact nI_neg1 (by omega)) ?_
      refine go_bind.mpr ?_
      refine ⟨r3, r3e, ?_⟩
      refine Go.no (by rw [r31]; exact nI_neg1 (by omega)) ?_
      refine go_bind.mpr ?_
      rw [r21, r31, x144, x144, t1]
      refine Go.some ?_
      refine go_bind.mpr ?_
      rw [t2]
      refine Go.some ?_
      refine go_bind.mpr ?_
      refine ⟨r5, r5e, ?_⟩
      refine Go.some ?_
      exact hQ
    rcases h5' with ⟨z0, ps5⟩ | ⟨z0, fl⟩
    · have f0 : A5 146 1 = 0 := ps5.2.2.2.2.1
      have as := addStreet_eq (A := A5) (a := a) (c := c) (s := s) (n := n) (by omega) (by omega) s99 n99.2 (by rw [n5 161 _ (by omega), A3c, q1, q2]) (by rw [n5 161 _ (by omega), A3c]; exact q3)
      dsimp only
      rw [p21, p31, as]
      refine go_bind.mpr ?_
      refine Go.yes (f0) ?_
      refine go_bind.mpr ?_
      refine Go.some ?_
      refine Go.some ?_
      refine Go.some ?_
      refine modf (Or.inl ⟨by rw [z0]; decide, ⟨_, (((ps5.putA (by omega)).putA (by omega)).putA (by omega))⟩, ?_, ?_, fun j hj => ?_, fun u v hu hv => ?_, by rw [mput_same, nI_1], (((fa3.trans n5.g).put (by omega)).put (by omega)).put (by omega), fb5⟩)
      · rw [mput_r (by omega), mput_r (by omega), mput_r (by omega), n5 146 5 (by omega), n3 146 5 (by omega), n2 146 5 (by omega)]; exact c5
      · rw [o5 217 6 (by omega), mput_r (by omega), mput_r (by omega), o3 217 6 (by omega), o2 217 6 (by omega)]; exact c6
      · rw [mput_r (by omega), o5 235 _ (by omega)]
        by_cases z2 : j = 12 * c + a
        · rw [z2, mput_same, mput_same]
          exact ⟨rfl, _, s99', rfl⟩
        · rw [mput_s z2, mput_s (show 144 + j ≠ 144 + (12 * c + a) by omega)]
          by_cases z1 : j = 12 * a + c
          · rw [z1, mput_same, mput_same]
            exact ⟨rfl, _, s99', rfl⟩
          · rw [mput_s z1, mput_s (show 144 + j ≠ 144 + (12 * a + c) by omega), n5 161 j (by omega), A3c, B3c]
            exact hD j hj
      · have cell : ∀ x y, x < 12 → y < 12 → mput (mput (mput A5 161 (12 * a + c) (nI (shr s n))) 161 (12 * c + a) (nI (shr s n))) 147 8 (nI k + 1) 161 (12 * x + y) = if (x = a ∧ y = c) ∨ (x = c ∧ y = a) then nI (shr s n) else A 161 (12 * x + y) := fun x y hx hy => by
          rw [mput_r (by omega)]
          by_cases z2 : 12 * x + y = 12 * c + a
          · rw [z2, mput_same, if_pos (by omega)]
          · rw [mput_s z2]
            by_cases z1 : 12 * x + y = 12 * a + c
            · rw [z1, mput_same, if_pos (by omega)]
            · rw [mput_s z1, if_neg (by omega), n5 161 _ (by omega), A3c]
        rw [cell u v hu hv, cell v u hv hu, hsym u v hu hv]
        by_cases z : (u = a ∧ v = c) ∨ (u = c ∧ v = a)
        · rw [if_pos z, if_pos (by omega)]
        · rw [if_neg z, if_neg (by omega)]
    · refine go_bind.mpr ?_
      refine Go.no (fl.1) ?_
      refine Go.some ?_
      refine Go.some ?_
      exact modf (Or.inr ⟨z0, fl.putA (by omega), (fa3.trans n5.g).put (by omega), fb5⟩)
  rcases tk.num with ⟨t1, t2, v, v1, t3, t4⟩ | ⟨t1, t2⟩
  · refine go_bind.mpr ?_
    refine Go.yes (t1) ?_
    refine Go.gd ((inb_nI (by omega)).mpr (by omega)) ?_
    by_cases z : v = a
    · refine Go.yes (by rw [t3, z]) ?_
      refine go_bind.mpr ?_
      rw [blame_ok 2 hL ps1]
      refine Go.some ?_
      refine Go.some ?_
      have fl : FLT (bA p.2 2 (r.2 217 12)) (fM_errs 2 r.2).2 := flt_bA (by decide)
      refine (st2_bad (A := bA p.2 2 (r.2 217 12)) (nI a) fl.1).mono fun A' q => ?_
      refine mod ?_
      refine Go.yes (t2) ?_
      refine Go.yes (by rw [t4, z]) ?_
      refine Go.some ?_
      exact Or.inr ⟨rfl, q.flt fl, (fa1.trans (eF_bA _ _ _).c.g).trans q.2.2, fb1.trans (hF_errs _ 2)⟩
    · refine Go.no (by rw [t3, nI_eq' (by omega) (by omega)]; exact z) ?_
      refine Go.some ?_
      refine main.mono fun A' hA => ?_
      refine mod ?_
      refine Go.yes (t2) ?_
      refine Go.no (by rw [t4, nI_eq' (by omega) (by omega)]; exact z) ?_
      exact hA
  · refine go_bind.mpr ?_
    refine Go.no (t1) ?_
    refine Go.some ?_
    refine main.mono fun A' hA => ?_
    refine mod ?_
    refine Go.no (t2) ?_
    exact hA
end PmLines4
