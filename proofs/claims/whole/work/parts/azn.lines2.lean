section PmLines2
def nF (A A' : Mm) : Prop := ∀ c k, ¬ (c = 146 ∧ (k = 1 ∨ k = 2 ∨ k = 4)) → A' c k = A c k
def oF (B B' : Mm) : Prop := ∀ c k, ¬ (c = 217 ∧ ((11 ≤ k ∧ k ≤ 14) ∨ k = 28 ∨ k = 29)) → B' c k = B c k
theorem nF.rfl' (A : Mm) : nF A A := fun _ _ _ => rfl
theorem oF.rfl' (B : Mm) : oF B B := fun _ _ _ => rfl
theorem nF.trans {A A1 A2 : Mm} (h : nF A A1) (k : nF A1 A2) : nF A A2 := fun c j q => by rw [k c j q, h c j q]
theorem oF.trans {B B1 B2 : Mm} (h : oF B B1) (k : oF B1 B2) : oF B B2 := fun c j q => by rw [k c j q, h c j q]
theorem nF.g {A A' : Mm} (h : nF A A') : gF A A' := fun c k q => h c k (by omega)
theorem oF.h {B B' : Mm} (h : oF B B') : hF B B' := fun c k q => h c k (by omega)
theorem rF.o {B B' : Mm} (h : rF B B') : oF B B' := fun c k q => h c k (by omega)
theorem nF_4 (A : Mm) (v : Int32) : nF A (mput A 146 4 v) := fun c k q => by rw [mput_q (by omega)]
theorem nF_bA (A : Mm) (k pl : Int32) : nF A (bA A k pl) := fun c j q => by unfold bA; rw [mput_q (by omega), mput_q (by omega)]
theorem oF_errs (B : Mm) (k : Int32) : oF B (fM_errs k B).2 := fun c j q => by
  show mput (mput B 217 28 k) 217 29 _ c j = B c j
  rw [mput_q (by omega), mput_q (by omega)]
theorem PS.put {A B : Mm} {b : Nat → Nat} {L i : Nat} {a k c j : Nat} {v w : Int32} (h : PS A B b L i) (ha : a ≠ 146 ∧ (a < 162 ∨ 165 < a)) (hc : c ≠ 217 ∧ c ≠ 223 ∧ c ≠ 224) : PS (mput A a k v) (mput B c j w) b L i :=
  h.fr (fun d m p q => by rw [mput_r (by omega)]) (by rw [mput_r (by omega)]) (by rw [mput_r (by omega)]) (fun m p q => by rw [mput_r (by omega)]) (mput_r (by omega)) (mput_r (by omega))
theorem PS.putA {A B : Mm} {b : Nat → Nat} {L i : Nat} {a k : Nat} {v : Int32} (h : PS A B b L i) (ha : a ≠ 146 ∧ (a < 162 ∨ 165 < a)) : PS (mput A a k v) B b L i :=
  h.fr (fun d m p q => by rw [mput_r (by omega)]) (by rw [mput_r (by omega)]) (by rw [mput_r (by omega)]) (fun m p q => rfl) rfl rfl
theorem FLT.put {A B : Mm} {a k c j : Nat} {v w : Int32} (h : FLT A B) (ha : a ≠ 146) (hc : c ≠ 217) : FLT (mput A a k v) (mput B c j w) := by
  unfold FLT
  rw [mput_r (fun q => ha q.symm), mput_r (fun q => hc q.symm)]; exact h
theorem num_bad {A : Mm} (x1 x2 : Int32) (h : ¬ A 146 1 = 0) : fR_number x1 x2 A = some (0, A) := by
  refine Go.eq ?_
  unfold fR_number
  rw [sort_bad h, blame_bad 1 h]
  refine go_bind.mpr ?_
  refine Go.some ?_
  refine Go.no (by decide) ?_
  refine go_bind.mpr ?_
  refine Go.some ?_
  refine Go.some ?_
  rfl
theorem num_go {A B : Mm} {b : Nat → Nat} {L i : Nat} (x1 x2 : Int32) (hL : L ≤ 400) (ps : PS A B b L i) : Go (fR_number x1 x2 A) (fun p => Go (fM_readNumber x1 x2 B) (fun r => nF A p.2 ∧ oF B r.2 ∧ ((∃ v, v < 10000 ∧ p.1 = nI v ∧ r.1 = nI v ∧ fK_isWithin (nI v) x1 x2 = 1 ∧ PS p.2 r.2 b L (i + 1)) ∨ (p.1 = 0 ∧ r.1 = -1 ∧ FLT p.2 r.2)))) := by
  refine (number_go x1 x2 hL ps).mono fun p hp => hp.mono fun r hr => ?_
  rcases hr with ⟨v, v1, -, -, -, -, -, p1, r1, w, p2, -, q, fr⟩ | ⟨k, k1, p1, p2, r1, -⟩
  · exact ⟨by rw [p2]; exact nF_4 _ _, fr.o, Or.inl ⟨v, v1, p1, r1, w, q⟩⟩
  · rw [p2, r1]
    have kn : ¬ k = 0 := by rcases k1 with q | q <;> rw [q] <;> decide
    exact ⟨nF_bA _ _ _, oF_errs _ _, Or.inr ⟨p1, rfl, flt_bA kn⟩⟩
/-- a word, then a number -/
theorem tol_go {A B : Mm} {b : Nat → Nat} {L i w : Nat} (x1 x2 : Int32) (hw : w < 29) (hL : L ≤ 400) (ps : PS A B b L i) : Go (Option.bind (fR_need (nI (256 + w)) A) fun M => fR_number x1 x2 M) (fun p => Go (fM_readTold (nI (wq w)) x1 x2 B) (fun r => nF A p.2 ∧ oF B r.2 ∧ ((∃ v, v < 10000 ∧ p.1 = nI v ∧ r.1 = nI v ∧ fK_isWithin (nI v) x1 x2 = 1 ∧ PS p.2 r.2 b L (i + 2)) ∨ (p.1 = 0 ∧ r.1 = -1 ∧ FLT p.2 r.2)))) := by
  unfold fR_need fM_readTold
  rw [sort_ok hL ps, word_i hL ps hw, blame_ok 1 hL ps, ps.2.2.2.1, nI_1]
  refine go_bind.mpr ?_
  refine go_bind.mpr ?_
  refine Go.some ?_
  by_cases q : A 163 i = nI (256 + w)
  · have iN := not_end hL ps (by rw [q, (lit_nI _ : (2 : Int32) = nI 2)]; intro z; rw [nI_eq' (by omega) (by omega)] at z; omega)
    obtain ⟨B1, B1e, ps1, fr1⟩ := ps.adv hL iN
    refine Go.yes (q) ?_
    refine Go.some ?_
    refine (num_go x1 x2 hL ps1).mono fun p hp => ?_
    refine Go.no (by rw [if_pos q]; decide) ?_
    refine go_bind.mpr ?_
    refine ⟨B1, B1e, ?_⟩
    refine go_bind.mpr ?_
    refine hp.mono fun r hr => Go.some ?_
    obtain ⟨n1, o1, h⟩ := hr
    exact ⟨(nF_4 A _).trans n1, fr1.o.trans o1, h⟩
  · have nf : ¬ mput (mput A 146 1 1) 146 2 (B 217 12) 146 1 = 0 := by rw [mput_s (by omega), mput_same]; decide
    refine Go.no (q) ?_
    refine go_bind.mpr ?_
    refine Go.some ?_
    refine Go.some ?_
    rw [num_bad x1 x2 nf]
    refine Go.some ?_
    refine Go.yes (by rw [if_neg q]) ?_
    refine Go.some ?_
    exact ⟨nF_bA A 1 _, oF_errs B 1, Or.inr ⟨rfl, rfl, flt_bA (by decide)⟩⟩
theorem tol_bad {A : Mm} (c x1 x2 : Int32) (hc : ¬ c = 0) (h : ¬ A 146 1 = 0) : (Option.bind (fR_need c A) fun M => fR_number x1 x2 M) = some (0, A) := by
  rw [need_bad c hc h]
  exact num_bad x1 x2 h
theorem mark_go {A B : Mm} {b : Nat → Nat} {L i : Nat} (hL : L ≤ 400) (ps : PS A B b L i) : Go (fR_need 59 A) (fun A' => Go (fM_readMark 59 B) (fun r => nF A A' ∧ oF B r.2 ∧ ((r.1 = 0 ∧ PS A' r.2 b L (i + 1)) ∨ (r.1 = -1 ∧ FLT A' r.2)))) := by
  have sg : fM_isSign 59 B = if A 163 i = nI 59 then 1 else 0 := sign_i hL ps (c := 59) (by omega) (by omega)
  unfold fR_need fM_readMark
  rw [sort_ok hL ps, sg, blame_ok 1 hL ps, ps.2.2.2.1, nI_1]
  refine go_bind.mpr ?_
  refine Go.some ?_
  by_cases q : A 163 i = nI 59
  · have iN := not_end hL ps (by rw [q]; decide)
    obtain ⟨B1, B1e, ps1, fr1⟩ := ps.adv hL iN
    refine Go.yes (q) ?_
    refine Go.some ?_
    refine Go.no (by rw [if_pos q]; decide) ?_
    refine go_bind.mpr ?_
    refine ⟨B1, B1e, ?_⟩
    refine Go.some ?_
    exact ⟨nF_4 A _, fr1.o, Or.inl ⟨rfl, ps1⟩⟩
  · refine Go.no (q) ?_
    refine go_bind.mpr ?_
    refine Go.some ?_
    refine Go.some ?_
    refine Go.yes (by rw [if_neg q]) ?_
    refine Go.some ?_
    exact ⟨nF_bA A 1 _, oF_errs B 1, Or.inr ⟨rfl, flt_bA (by decide)⟩⟩
theorem door_lt {v n : Nat} (hv : v < 10000) (hn : n ≤ 12) (h : fK_isWithin (nI v) 0 (nI n - 1) = 1) : v < n := by
  rcases within_cases (nI v) 0 (nI n - 1) with ⟨-, -, w⟩ | ⟨w, -⟩
  · have one : (1 : Int32).toInt = 1 := by decide
    have e : (nI n - 1).toInt = (n : Int) - 1 := by
      rw [i32_sub (by rw [nI_toInt' (by omega), one]; omega) (by rw [nI_toInt' (by omega), one]; omega), nI_toInt' (by omega), one]
    rw [nI_toInt' (by omega), e] at w
    omega
  · rw [w] at h; exact absurd h (by decide)
def finP (e : Mm ⊕ Mm ⊕ (Int32 × Mm)) : Option (Int32 × Mm) := match e with
  | Sum.inl p => some ((fM_errs 3 p).1, (fM_errs 3 p).2)
  | Sum.inr (Sum.inl p) => some ((-1), p)
  | Sum.inr (Sum.inr p) => if p.2 217 13 = 0 then some (p.1, p.2) else some ((fM_errs 1 p.2).1, (fM_errs 1 p.2).2)
/-- texts whose lines all begin with one word -/
theorem words_go {b : Nat → Nat} {L w : Nat} {x1 : Int32} (hx : x1 = 1 ∨ x1 = 2 ∨ x1 = 3) (hw : w < 29) (hL : L ≤ 400) (hf : ∀ s, fR_isFirstWord x1 s = some (if s = nI (256 + w) then 1 else 0)) (rest : Int32 → Mm → Option ((Int32 × Mm) ⊕ (Mm ⊕ Mm ⊕ (Int32 × Mm)))) (R : Nat → Mm → Mm → Prop) (Bd : Mm → Mm → Prop)
    (hps : ∀ k A B, R k A B → ∃ i, PS A B b L i) (hb : ∀ k A B, R k A B → ∀ e : Int32, Bd (bA A e (B 217 12)) (fM_errs e B).2)
    (hl : ∀ k A B i, k < 16 → R k A B → PS A B b L i → A 163 i = nI (256 + w) → Go (lineK x1 (nI k) A) (fun A' => Go (rest (nI k) B) (fun r => (∃ B', r = Sum.inl (nI (k + 1), B') ∧ R (k + 1) A' B') ∨ (∃ B', r = Sum.inr (Sum.inr (Sum.inl B')) ∧ FLT A' B' ∧ Bd A' B'))))
    {A B : Mm} (h0 : R 0 A B) :
    Go (lp 1000000 (fun s => fR_read_b31 x1 s.1 s.2) (0, A)) (fun y => Go (Option.bind (lp 1000000 (fun s => if fM_isWord (nI (wq w)) s.2 = 0 then some (Sum.inr (Sum.inr (Sum.inr (s.1, s.2)))) else if s.1 = 16 then some (Sum.inr (Sum.inl s.2)) else rest s.1 s.2) (0, B)) finP) (fun r => ∃ A', (y = Sum.inl A' ∨ y = Sum.inr A') ∧ ((∃ k, r.1 = nI k ∧ k ≤ 16 ∧ A' 146 1 = 0 ∧ R k A' r.2) ∨ (r.1 = -1 ∧ FLT A' r.2 ∧ Bd A' r.2)))) := by
  refine lines_go (x1 := x1) (b := b) (L := L) (Or.inr hx) hL (fun x M => if fM_isWord (nI (wq w)) M = 0 then some (Sum.inr (Sum.inr (Sum.inr (x, M)))) else if x = 16 then some (Sum.inr (Sum.inl M)) else rest x M) finP R Bd ?_ h0
  intro k A1 B1 hk hR
  obtain ⟨i, ps⟩ := hps k A1 B1 hR
  have wi := word_i hL ps hw
  have tok := ps.tok hL
  refine ⟨i, ps, fun e => ?_, fun lt q => ?_, fun q k16 => ?_, fun q lt => ?_, ?_⟩
  · have s2 : A1 163 i = 2 := tok.2.2.mpr e
    have t0 : B1 217 13 = 0 := by
      rcases tok.1 with ⟨-, q⟩ | ⟨q, -⟩ | ⟨_, _, q, -⟩ | ⟨_, _, q, -⟩ | ⟨d, d1, q, -⟩
      · exact q
      · rw [s2] at q; exact absurd q (by decide)
      · rw [s2] at q; exact absurd q (by decide)
      · rw [s2, (lit_nI _ : (2 : Int32) = nI 2), nI_eq' (by omega) (by omega)] at q; omega
      · have := isSg_lt d1; rw [s2, (lit_nI _ : (2 : Int32) = nI 2), nI_eq' (by omega) (by omega)] at q; omega
    have nw : ¬ A1 163 i = nI (256 + w) := fun z => by rw [s2, (lit_nI _ : (2 : Int32) = nI 2), nI_eq' (by omega) (by omega)] at z; omega
    refine ⟨Sum.inr (Sum.inr (nI k, B1)), ?_, ?_⟩
    · rw [wi, if_neg nw, if_pos rfl]
    · show (if B1 217 13 = 0 then _ else _) = _
      rw [if_pos t0]
  · have nw : ¬ A1 163 i = nI (256 + w) := fun z => by
      rw [hf, if_pos z] at q; exact absurd q (by decide)
    have t0 : ¬ B1 217 13 = 0 := by
      rcases tok.1 with ⟨q, -⟩ | ⟨-, q⟩ | ⟨_, _, -, _, q, -⟩ | ⟨_, _, -, q, -⟩ | ⟨d, d1, -, q, -⟩
      · have := tok.2.2.mp q; omega
      all_goals rw [q]; decide
    refine ⟨hb k A1 B1 hR 1, Sum.inr (Sum.inr (nI k, B1)), ?_, ?_⟩
    · rw [wi, if_neg nw, if_pos rfl]
    · show (if B1 217 13 = 0 then _ else _) = _
      rw [if_neg t0]; rfl
  · have yw : A1 163 i = nI (256 + w) := Classical.byContradiction fun z => by
      rw [hf, if_neg z] at q; exact absurd q (by decide)
    refine ⟨hb k A1 B1 hR 3, Sum.inl B1, ?_, rfl⟩
    rw [wi, if_pos yw, if_neg (by decide), if_pos (by rw [k16]; rfl)]
  · have yw : A1 163 i = nI (256 + w) := Classical.byContradiction fun z => by
      rw [hf, if_neg z] at q; exact absurd q (by decide)
    refine (hl k A1 B1 i lt hR ps yw).mono fun A' hA => ?_
    obtain ⟨r, re, hr⟩ := hA
    refine ⟨r, ?_, ?_⟩
    · rw [wi, if_pos yw, if_neg (by decide), if_neg (by rw [(lit_nI _ : (16 : Int32) = nI 16), nI_eq' (by omega) (by omega)]; omega)]
      exact re
    · rcases hr with h | ⟨B', r1, r2, r3⟩
      · exact Or.inl h
      · exact Or.inr ⟨_, B', r1, rfl, r2, r3⟩
  · by_cases z : A1 163 i = nI (256 + w)
    · right; rw [hf, if_pos z]
    · left; rw [hf, if_neg z]
/-! the round -/
def wkR (A0 B0 : Mm) (b : Nat → Nat) (L nd k : Nat) (A B : Mm) : Prop := (∃ i, PS A B b L i) ∧ A 146 5 = nI nd ∧ B 217 6 = nI nd ∧ (∀ j, j < k → A 160 j = B 234 (16 + j) ∧ ∃ d, d < 12 ∧ B 234 (16 + j) = nI d) ∧ A 147 6 = nI k ∧ gF A0 A ∧ hF B0 B
def roundRest (x1 : Int32) (M : Mm) : Option ((Int32 × Mm) ⊕ (Mm ⊕ Mm ⊕ (Int32 × Mm))) := Option.bind (fM_readTold 20 0 ((M 217 6) - 1) M) fun qz3 => if inb (16 + x1) 32 then (if inb (16 + x1) 32 then (if (mput qz3.2 234 (jix (16 + x1)) qz3.1) 234 (jix (16 + x1)) = (-1) then some (Sum.inr (Sum.inr (Sum.inl (mput qz3.2 234 (jix (16 + x1)) qz3.1)))) else Option.bind (fM_readMark 59 (mput qz3.2 234 (jix (16 + x1)) qz3.1)) fun qz8 => if qz8.1 = (-1) then some (Sum.inr (Sum.inr (Sum.inl qz8.2))) else some (Sum.inl (x1 + 1, qz8.2))) else none) else none
theorem wq_27 : (nI (wq 27) : Int32) = 20 := by decide
theorem walk_all {A B : Mm} {b : Nat → Nat} {L i nd : Nat} (hL : L ≤ 400) (hd : nd ≤ 12) (ps : PS A B b L i) (h5 : A 146 5 = nI nd) (h6 : B 217 6 = nI nd) (h0 : A 147 6 = 0) :
    Go (lp 1000000 (fun s => fR_read_b31 2 s.1 s.2) (0, A)) (fun y => Go (fM_readRound B) (fun r => ∃ A', (y = Sum.inl A' ∨ y = Sum.inr A') ∧ ((∃ k, r.1 = nI k ∧ k ≤ 16 ∧ A' 146 1 = 0 ∧ wkR A B b L nd k A' r.2) ∨ (r.1 = -1 ∧ FLT A' r.2 ∧ gF A A' ∧ hF B r.2)))) := by
  have e : fM_readRound B = Option.bind (lp 1000000 (fun s => if fM_isWord (nI (wq 27)) s.2 = 0 then some (Sum.inr (Sum.inr (Sum.inr (s.1, s.2)))) else if s.1 = 16 then some (Sum.inr (Sum.inl s.2)) else roundRest s.1 s.2) (0, B)) finP := by
    unfold fM_readRound
    refine congrArg (Option.bind _) (funext fun e2 => ?_)
    rcases e2 with p | p | p <;> rfl
  rw [e]
  refine words_go (x1 := 2) (b := b) (L := L) (w := 27) (Or.inr (Or.inl rfl)) (by omega) hL (fun s => ?_) roundRest (wkR A B b L nd) (fun A' B' => gF A A' ∧ hF B B') (fun k A B h => h.1) (fun k A1 B1 h e => ?_) ?_ ⟨⟨i, ps⟩, h5, h6, fun j hj => by omega, h0, gF.rfl' A, hF.rfl' B⟩
  · show (if s = 283 then some 1 else some 0) = some (if s = nI 283 then (1 : Int32) else 0)
    by_cases q : s = nI 283
    · rw [if_pos q, if_pos (show s = 283 from q)]
    · rw [if_neg q, if_neg (show ¬ s = 283 from q)]
  · obtain ⟨-, -, -, -, -, ga, hb⟩ := h
    exact ⟨ga.trans (eF_bA _ _ _).c.g, hb.trans (hF_errs _ e)⟩
  · rintro k A1 B1 i1 lt ⟨-, g5, g6, hD, h147, fa, fb⟩ ps1 q1
    show Go (fR_walkLine (nI k) A1) _
    have cl : fR_walkLine (nI k) A1 = Option.bind (Option.bind (fR_need (nI (256 + 27)) A1) fun M => fR_number 0 (nI nd - 1) M) fun qz4 => if inb (nI k) 16 then Option.bind (fR_need 59 (mput qz4.2 160 (jix (nI k)) qz4.1)) fun Mz8 => some (mput Mz8 147 6 (nI k + 1)) else none := by
      unfold fR_walkLine
      rw [Option.bind_assoc]
      show Option.bind (fR_need 283 A1) _ = Option.bind (fR_need 283 A1) _
      have hn : Go (fR_need 283 A1) (fun M => M 146 5 = A1 146 5) := by
        unfold fR_need
        rw [sort_ok hL ps1]
        refine go_bind.mpr ?_
        refine Go.some ?_
        refine Go.yes (q1) ?_
        refine Go.some ?_
        rw [mput_s (by omega)]
      obtain ⟨M, Me, M5⟩ := hn
      rw [Me]
      show Option.bind (fR_number 0 (M 146 5 - 1) M) _ = Option.bind (fR_number 0 (nI nd - 1) M) _
      rw [M5, g5]
    rw [cl]
    obtain ⟨p, pe, r, re, n1, o1, h⟩ := tol_go (w := 27) 0 (nI nd - 1) (by omega) hL ps1
    have i16 : inb (nI k) 16 := (inb_nI (by omega)).mpr lt
    have e16 : (16 : Int32) + nI k = nI (16 + k) := nI_add 16 k
    have i32 : inb (nI (16 + k)) 32 := (inb_nI (by omega)).mpr (by omega)
    refine go_bind.mpr ?_
    refine ⟨p, pe, ?_⟩
    refine Go.gd (i16) ?_
    refine go_bind.mpr ?_
    unfold roundRest
    rw [jix_nI (show k < 2147483648 by omega), e16, jix_nI (show 16 + k < 2147483648 by omega), g6]
    have re' : fM_readTold 20 0 (nI nd - 1) B1 = some r := re
    rcases h with ⟨v, v1, p1, r1, w, ps2⟩ | ⟨p1, r1, fl⟩
    · have vd := door_lt v1 hd w
      obtain ⟨A3, A3e, r3, r3e, n3, o3, h3⟩ := mark_go hL (ps2.put (a := 160) (k := k) (c := 234) (j := 16 + k) (v := p.1) (w := r.1) (by omega) (by omega))
      refine ⟨A3, A3e, ?_⟩
      refine Go.some ?_
      refine go_bind.mpr ?_
      refine ⟨r, re', ?_⟩
      have cell : mput r.2 234 (16 + k) r.1 234 (16 + k) = nI v := by rw [mput_same, r1]
      refine Go.gd (i32) ?_
      refine Go.gd (i32) ?_
      refine Go.no (by rw [cell]; exact nI_neg1 (by omega)) ?_
      refine go_bind.mpr ?_
      refine ⟨r3, r3e, ?_⟩
      have fa3 : gF A A3 := ((fa.trans n1.g).put (by omega)).trans n3.g
      have fb3 : hF B r3.2 := ((fb.trans o1.h).put (by omega)).trans o3.h
      rcases h3 with ⟨z0, ps3⟩ | ⟨z0, fl⟩
      · refine Go.no (by rw [z0]; decide) ?_
        refine Go.some ?_
        rw [nI_1]
        refine Or.inl ⟨r3.2, rfl, ⟨i1 + 2 + 1, ps3.putA (by omega)⟩, ?_, ?_, fun j hj => ?_, mput_same _ _ _ _, fa3.put (by omega), fb3⟩
        · rw [mput_r (by omega), n3 146 5 (by omega), mput_r (by omega), n1 146 5 (by omega)]; exact g5
        · rw [o3 217 6 (by omega), mput_r (by omega), o1 217 6 (by omega)]; exact g6
        · rw [mput_r (by omega), n3 160 j (by omega), o3 234 _ (by omega)]
          by_cases z : j = k
          · subst z
            rw [mput_same, mput_same, p1, r1]
            exact ⟨rfl, v, by omega, rfl⟩
          · rw [mput_s z, mput_s (by omega), n1 160 j (by omega), o1 234 _ (by omega)]
            exact hD j (by omega)
      · refine Go.yes (z0) ?_
        refine Go.some ?_
        exact Or.inr ⟨r3.2, rfl, ⟨by rw [mput_r (by omega)]; exact fl.1, by rw [mput_r (by omega)]; exact fl.2.1, by rw [mput_r (by omega)]; exact fl.2.2⟩, fa3.put (by omega), fb3⟩
    · have nf : ¬ mput p.2 160 k p.1 146 1 = 0 := by rw [mput_r (by omega)]; exact fl.1
      rw [need_bad 59 (by decide) nf]
      refine Go.some ?_
      refine Go.some ?_
      refine go_bind.mpr ?_
      refine ⟨r, re', ?_⟩
      refine Go.gd (i32) ?_
      refine Go.gd (i32) ?_
      refine Go.yes (by rw [mput_same, r1]) ?_
      refine Go.some ?_
      refine Or.inr ⟨_, rfl, ?_, ((fa.trans n1.g).put (by omega)).put (by omega), (fb.trans o1.h).put (by omega)⟩
      have f2 := fl.put (a := 160) (k := k) (c := 234) (j := 16 + k) (v := p.1) (w := r.1) (by omega) (by omega)
      exact ⟨by rw [mput_r (by omega)]; exact f2.1, by rw [mput_r (by omega)]; exact f2.2.1, by rw [mput_r (by omega)]; exact f2.2.2⟩
end PmLines2
