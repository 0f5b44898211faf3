section PmLaw
theorem first0 {A B : Mm} {b : Nat → Nat} {L i : Nat} (hL : L ≤ 400) (ps : PS A B b L i) : (fR_isFirstWord 0 (A 163 i) = some 1 ∧ fM_isLineWord B = 1 ∧ ∃ w, w ≤ 2 ∧ A 163 i = nI (256 + w) ∧ B 217 14 = nI w) ∨ (fR_isFirstWord 0 (A 163 i) = some 0 ∧ fM_isLineWord B = 0) := by
  have tr := (ps.tok hL).1
  unfold fM_isLineWord
  have small : ∀ d, d < 256 → fR_isFirstWord 0 (nI d) = some 0 := by
    intro d hd
    have : ∀ d : Fin 256, fR_isFirstWord 0 (nI d.val) = some 0 := by decide +kernel
    exact this ⟨d, hd⟩
  rcases tr with ⟨q1, q2⟩ | ⟨q1, q2⟩ | ⟨v, v1, q1, q3, q2, q4⟩ | ⟨k, k1, q1, q2, q3⟩ | ⟨d, d1, q1, q2, q3⟩
  · right; rw [q1, q2, if_neg (by decide)]; exact ⟨by decide, rfl⟩
  · right; rw [q1, q2, if_neg (by decide)]; exact ⟨by decide, rfl⟩
  · right; rw [q1, q2, if_neg (by decide)]; exact ⟨by decide, rfl⟩
  · rw [q1, q2, q3, if_pos rfl]
    have : ∀ k : Fin 29, (fR_isFirstWord 0 (nI (256 + k.val)) = some 1 ∧ fM_isIn (nI (wq k.val)) 0 2 = 1 ∧ k.val ≤ 2 ∧ wq k.val = k.val) ∨ (fR_isFirstWord 0 (nI (256 + k.val)) = some 0 ∧ fM_isIn (nI (wq k.val)) 0 2 = 0) := by decide +kernel
    rcases this ⟨k, k1⟩ with ⟨w1, w2, w3, w4⟩ | ⟨w1, w2⟩
    · left
      dsimp only at w1 w2 w3 w4
      refine ⟨w1, ?_, k, w3, rfl, by rw [w4]⟩
      rw [w2]; rfl
    · right
      dsimp only at w1 w2
      exact ⟨w1, by rw [w2]; rfl⟩
  · right
    have := isSg_lt d1
    rw [q1, q2, if_neg (by decide)]
    exact ⟨small d (by omega), rfl⟩
theorem need_bad {A : Mm} (c : Int32) (hc : ¬ c = 0) (h : ¬ A 146 1 = 0) : fR_need c A = some A := by
  refine Go.eq ?_
  unfold fR_need
  rw [sort_bad h, blame_bad 1 h]
  refine go_bind.mpr ?_
  refine Go.some ?_
  refine Go.no (fun q => hc q.symm) ?_
  refine go_bind.mpr ?_
  refine Go.some ?_
  refine Go.some ?_
  rfl
def lawTail (k : Nat) (A : Mm) : Option Mm := if inb (nI k) 16 then Option.bind (fR_need 59 (mput A 152 (jix (nI k)) (A 148 1))) fun Mz21 => some (mput Mz21 148 0 (nI k + 1)) else none
def finL (e2 : Mm ⊕ Mm ⊕ Mm ⊕ Mm ⊕ (Int32 × Mm)) : Option (Int32 × Mm) := match e2 with
  | Sum.inl p2 => some ((fM_errs 3 p2).1, (fM_errs 3 p2).2)
  | Sum.inr (Sum.inl p2) => some ((-1), p2)
  | Sum.inr (Sum.inr (Sum.inl p2)) => some ((-1), p2)
  | Sum.inr (Sum.inr (Sum.inr (Sum.inl p2))) => some ((fM_errs 1 p2).1, (fM_errs 1 p2).2)
  | Sum.inr (Sum.inr (Sum.inr (Sum.inr p2))) => if p2.2 217 13 = 0 then some (p2.1, p2.2) else some ((fM_errs 1 p2.2).1, (fM_errs 1 p2.2).2)
theorem tail_bad {A : Mm} {k : Nat} (hk : k < 16) (h : ¬ A 146 1 = 0) : Go (lawTail k A) (fun A' => A' 146 1 = A 146 1 ∧ A' 146 2 = A 146 2 ∧ gF A A') := by
  unfold lawTail
  rw [need_bad 59 (by decide) (by rw [mput_r (by omega)]; exact h)]
  refine Go.gd ((inb_nI (by omega)).mpr hk) ?_
  refine go_bind.mpr ?_
  refine Go.some ?_
  refine Go.some ?_
  exact ⟨by rw [mput_r (by omega), mput_r (by omega)], by rw [mput_r (by omega), mput_r (by omega)], ((gF.rfl' A).put (by omega)).put (by omega)⟩
def lnP (A0 B0 : Mm) (b : Nat → Nat) (L k : Nat) (A' : Mm) (r : (Int32 × Mm) ⊕ (Mm ⊕ Mm ⊕ Mm ⊕ Mm ⊕ (Int32 × Mm))) : Prop := (∃ B', r = Sum.inl (nI (k + 1), B') ∧ lwR A0 B0 b L (k + 1) A' B') ∨ (∃ y B', r = Sum.inr y ∧ finL y = some (-1, B') ∧ FLT A' B' ∧ (gF A0 A' ∧ hF B0 B'))
theorem tail_go {A B A0 B0 : Mm} {b : Nat → Nat} {L i n k f g : Nat} (hL : L ≤ 400) (hk : k < 16) (ps : PS A B b L i) (ed : ED A B n) (hn : n ≤ i) (h25 : B 217 25 = 0) (hD : ∀ j, j < k → LD A B j n) (l1 : f ≤ g) (l2 : g ≤ n) (a9 : A 149 k = B 226 (32 + k)) (a0 : A 150 k = nI f) (b7 : B 227 (32 + k) = nI f) (a1 : A 151 k = nI g) (b8 : B 228 (32 + k) = nI g) (t1 : ∃ z, z ≠ 1 ∧ Trn (fun k => B 230 (800 + k)) (fun k => B 231 (800 + k)) f (g - f) [] [z]) (t2 : g = n ∨ Trn (fun k => B 230 (800 + k)) (fun k => B 231 (800 + k)) g (n - g) [] [1]) (fa : gF A0 A) (fb : hF B0 B) :
    Go (lawTail k A) (fun A' => Go (fM_readLaw_j92 (nI k) (nI (32 + k)) B) (fun r => lnP A0 B0 b L k A' r)) := by
  have cL := cs_le b L
  have e152 : mput A 152 k (nI n) 152 k = nI n := mput_same _ _ _ _
  have ps1 : PS (mput A 152 k (nI n)) (mput B 229 (32 + k) (nI n)) b L i := ps.fr (fun c j p q => by rw [mput_r (by omega)]) (by rw [mput_r (by omega)]) (by rw [mput_r (by omega)]) (fun j p q => by rw [mput_r (by omega)]) (mput_r (by omega)) (mput_r (by omega))
  have a163 : mput A 152 k (nI n) 163 i = A 163 i := by rw [mput_r (by omega)]
  have sg : fM_isSign 59 (mput B 229 (32 + k) (nI n)) = if A 163 i = nI 59 then 1 else 0 := by
    have := sign_i hL ps1 (c := 59) (by omega) (by omega)
    rw [a163] at this; exact this
  unfold lawTail fM_readLaw_j92 fR_need
  rw [jix_nI (show k < 2147483648 by omega), ed.1, sort_ok hL ps1, a163, jix_nI (show 32 + k < 2147483648 by omega), ed.2.1]
  refine Go.gd ((inb_nI (by omega)).mpr hk) ?_
  refine go_bind.mpr ?_
  refine go_bind.mpr ?_
  refine Go.some ?_
  by_cases q : A 163 i = nI 59
  · have iN := not_end hL ps (by rw [q]; decide)
    obtain ⟨B9, B9e, ps9, fr9⟩ := ps1.adv hL iN
    have e4 : mput A 152 k (nI n) 146 4 + 1 = nI (i + 1) := by rw [mput_r (by omega), ps.2.2.2.1, nI_1]
    rw [e4]
    refine Go.yes (q) ?_
    refine Go.some ?_
    refine Go.some ?_
    refine Go.gd ((inb_nI (by omega)).mpr (by omega)) ?_
    refine Go.no (by rw [sg, if_pos q]; decide) ?_
    refine go_bind.mpr ?_
    refine ⟨B9, B9e, ?_⟩
    refine Go.some ?_
    rw [nI_1]
    have oB : ∀ c j, ¬ (c = 217 ∧ 11 ≤ j ∧ j ≤ 14) → ¬ (c = 229 ∧ j = 32 + k) → B9 c j = B c j := fun c j p q => by rw [fr9 c j p, mput_q q]
    have oA : ∀ c j, ¬ (c = 146 ∧ j = 4) → ¬ (c = 152 ∧ j = k) → ¬ (c = 148 ∧ j = 0) → mput (mput (mput A 152 k (nI n)) 146 4 (nI (i + 1))) 148 0 (nI (k + 1)) c j = A c j := fun c j p q r => by rw [mput_q r, mput_q p, mput_q q]
    refine Or.inl ⟨B9, rfl, i + 1, n, ?_, ⟨?_, ?_, ed.2.2.1, fun j hj => ?_⟩, by omega, ?_, fun j hj => ?_, mput_same _ _ _ _, ?_, ?_⟩
    · exact ps9.fr (fun c j p q => by rw [mput_r (by omega)]) (by rw [mput_r (by omega)]) (by rw [mput_r (by omega)]) (fun _ _ _ => rfl) rfl rfl
    · rw [oA 148 1 (by omega) (by omega) (by omega)]; exact ed.1
    · rw [oB 217 24 (by omega) (by omega)]; exact ed.2.1
    · rw [oA 153 j (by omega) (by omega) (by omega), oB 230 _ (by omega) (by omega), oB 231 _ (by omega) (by omega)]; exact ed.2.2.2 j hj
    · rw [oB 217 25 (by omega) (by omega)]; exact h25
    · by_cases z : j = k
      · subst z
        refine ⟨f, g, n, l1, l2, Nat.le_refl _, ?_, ?_, ?_, ?_, ?_, ?_, ?_, ?_, ?_⟩
        · rw [oA 149 j (by omega) (by omega) (by omega), oB 226 _ (by omega) (by omega)]; exact a9
        · rw [oA 150 j (by omega) (by omega) (by omega)]; exact a0
        · rw [oB 227 _ (by omega) (by omega)]; exact b7
        · rw [oA 151 j (by omega) (by omega) (by omega)]; exact a1
        · rw [oB 228 _ (by omega) (by omega)]; exact b8
        · rw [mput_r (by omega), mput_r (by omega), mput_same]
        · rw [fr9 229 _ (by omega), mput_same]
        · obtain ⟨z, hz, t⟩ := t1
          exact ⟨z, hz, Trn_cg (fun k p q => ⟨oB 230 _ (by omega) (by omega), oB 231 _ (by omega) (by omega)⟩) t⟩
        · exact t2.imp id fun t => Trn_cg (fun k p q => ⟨oB 230 _ (by omega) (by omega), oB 231 _ (by omega) (by omega)⟩) t
      · refine (hD j (by omega)).fr (Nat.le_refl _) (fun c p q => oA c j (by omega) (by omega) (by omega)) (fun c p q => oB c _ (by omega) (by omega)) (fun k hk => ⟨oB 230 _ (by omega) (by omega), oB 231 _ (by omega) (by omega)⟩)
    · exact ((fa.put (by omega)).put (by omega)).put (by omega)
    · exact (fb.put (by omega)).trans fr9.h
  · rw [blame_ok 1 hL ps1]
    refine Go.no (q) ?_
    refine go_bind.mpr ?_
    refine Go.some ?_
    refine Go.some ?_
    refine Go.some ?_
    refine Go.gd ((inb_nI (by omega)).mpr (by omega)) ?_
    refine Go.yes (by rw [sg, if_neg q]) ?_
    refine Go.some ?_
    refine Or.inr ⟨_, (fM_errs 1 (mput B 229 (32 + k) (nI n))).2, rfl, rfl, ?_, ?_, ?_⟩
    · have := flt_bA (A := mput A 152 k (nI n)) (B := mput B 229 (32 + k) (nI n)) (k := 1) (by decide)
      exact ⟨by rw [mput_r (by omega)]; exact this.1, by rw [mput_r (by omega)]; exact this.2.1, by rw [mput_r (by omega)]; exact this.2.2⟩
    · exact ((fa.put (by omega)).trans (eF_bA _ _ _).c.g).put (by omega)
    · exact (fb.put (by omega)).trans (hF_errs _ 1)
theorem wq_3 : (nI (wq 3) : Int32) = 3 := by decide
theorem law_line {A B A0 B0 : Mm} {b : Nat → Nat} {L k : Nat} (hL : L ≤ 400) (hk : k < 16) (h : lwR A0 B0 b L k A B) (hw : ∀ i, PS A B b L i → fR_isFirstWord 0 (A 163 i) = some 1) :
    Go (fR_lawLine (nI k) A) (fun A' => Go (fM_readLaw_b2 (nI k) B) (fun r => lnP A0 B0 b L k A' r)) := by
  obtain ⟨i, n, ps, ed, hn, h25, hD, h148, fa, fb⟩ := h
  have cL := cs_le b L
  rcases first0 hL ps with ⟨-, lw, w, w2, q1, q2⟩ | ⟨w, -⟩
  rotate_left
  · rw [hw i ps] at w; exact absurd w (by decide)
  have iN := not_end hL ps (by rw [q1, (lit_nI _ : (2 : Int32) = nI 2)]; intro q; rw [nI_eq' (by omega) (by omega)] at q; omega)
  have i16 : inb (nI k) 16 := (inb_nI (by omega)).mpr hk
  have i48 : inb (nI (32 + k)) 48 := (inb_nI (by omega)).mpr (by omega)
  have jk : jix (nI k) = k := jix_nI (by omega)
  have jk2 : jix (nI (32 + k)) = 32 + k := jix_nI (by omega)
  have e256 : A 163 i - 256 = nI w := by rw [q1, (lit_nI _ : (256 : Int32) = nI 256), nI_sub' (by omega), Nat.add_sub_cancel_left]
  have e32 : (32 : Int32) + nI k = nI (32 + k) := nI_add 32 k
  -- the word
  have ps0 : PS (mput A 149 k (nI w)) (mput B 226 (32 + k) (nI w)) b L i := ps.fr (fun c j p q => by rw [mput_r (by omega)]) (by rw [mput_r (by omega)]) (by rw [mput_r (by omega)]) (fun j p q => by rw [mput_r (by omega)]) (mput_r (by omega)) (mput_r (by omega))
  obtain ⟨B2, B2e, ps2, fr2⟩ := ps0.adv hL iN
  have o2 : ∀ c j, ¬ (c = 217 ∧ 11 ≤ j ∧ j ≤ 14) → ¬ (c = 226 ∧ j = 32 + k) → B2 c j = B c j := fun c j p q => by rw [fr2 c j p, mput_q q]
  have b24 : B2 217 24 = nI n := by rw [o2 217 24 (by omega) (by omega)]; exact ed.2.1
  have e4 : mput A 149 k (nI w) 146 4 + 1 = nI (i + 1) := by rw [mput_r (by omega), ps.2.2.2.1, nI_1]
  have e148 : mput (mput A 149 k (nI w)) 146 4 (nI (i + 1)) 148 1 = nI n := by rw [mput_r (by omega), mput_r (by omega)]; exact ed.1
  have oA : ∀ c j, ¬ (c = 149 ∧ j = k) → ¬ (c = 146 ∧ j = 4) → ¬ (c = 150 ∧ j = k) → mput (mput (mput A 149 k (nI w)) 146 4 (nI (i + 1))) 150 k (nI n) c j = A c j := fun c j p q r => by rw [mput_q r, mput_q q, mput_q p]
  have oB : ∀ c j, ¬ (c = 217 ∧ 11 ≤ j ∧ j ≤ 14) → ¬ (c = 226 ∧ j = 32 + k) → ¬ (c = 227 ∧ j = 32 + k) → mput B2 227 (32 + k) (nI n) c j = B c j := fun c j p q r => by rw [mput_q r, o2 c j p q]
  have s3 : ST (mput (mput (mput A 149 k (nI w)) 146 4 (nI (i + 1))) 150 k (nI n)) (mput B2 227 (32 + k) (nI n)) b L (i + 1) n (n, fun j => (B 230 (800 + j), B 231 (800 + j))) [] := by
    refine ⟨ps2.fr (fun c j p q => by rw [mput_r (by omega)]) (by rw [mput_r (by omega)]) (by rw [mput_r (by omega)]) (fun j p q => by rw [mput_r (by omega)]) (mput_r (by omega)) (mput_r (by omega)), ⟨by rw [mput_r (by omega)]; exact e148, by rw [mput_r (by omega)]; exact b24, ed.2.2.1, fun j hj => ?_⟩, Nat.le_refl _, ?_, fun j hj => ⟨oB 230 _ (by omega) (by omega) (by omega), oB 231 _ (by omega) (by omega) (by omega)⟩⟩
    · rw [oA 153 j (by omega) (by omega) (by omega), oB 230 _ (by omega) (by omega) (by omega), oB 231 _ (by omega) (by omega) (by omega)]; exact ed.2.2.2 j hj
    · show Trn _ _ n (n - n) [] []
      rw [Nat.sub_self]; rfl
  obtain ⟨A4, A4e, r, re, x1, x2, x3⟩ := sum_go (e := 0) hL s3 (by omega) (by show 0 ≤ 29; omega)
  have fa4 : gF A0 A4 := (((fa.put (by omega)).put (by omega)).put (by omega)).trans x1.c.g
  have fb4 : hF B0 r.2 := (((fb.put (by omega)).trans fr2.h).put (by omega)).trans x2.d.h
  unfold fR_lawLine fM_readLaw_b2
  rw [sort_ok hL ps]
  refine go_bind.mpr ?_
  refine Go.some ?_
  refine Go.gd (i16) ?_
  simp only [jk, e256, e4, e148]
  refine Go.gd (i16) ?_
  refine go_bind.mpr ?_
  refine ⟨A4, A4e, ?_⟩
  refine Go.gd (i16) ?_
  refine go_bind.mpr ?_
  -- the model comes as far
  have mod : ∀ {Q : ((Int32 × Mm) ⊕ (Mm ⊕ Mm ⊕ Mm ⊕ Mm ⊕ (Int32 × Mm))) → Prop}, Go (if r.1 = -1 then some (Sum.inr (Sum.inr (Sum.inl r.2))) else if inb (nI (32 + k)) 48 then (if fM_isWord 3 (mput r.2 228 (32 + k) (r.2 217 24)) = 0 then fM_readLaw_j92 (nI k) (nI (32 + k)) (mput r.2 228 (32 + k) (r.2 217 24)) else Option.bind (fM_reads (mput r.2 228 (32 + k) (r.2 217 24))) fun Mz15 => Option.bind (fM_readAny Mz15) fun qz17 => if qz17.1 = -1 then some (Sum.inr (Sum.inr (Sum.inr (Sum.inl qz17.2)))) else fM_readLaw_j92 (nI k) (nI (32 + k)) qz17.2) else none) Q → Go (if fM_isLineWord B = 0 then some (Sum.inr (Sum.inr (Sum.inr (Sum.inr (Sum.inr (nI k, B)))))) else if nI k = 16 then some (Sum.inr (Sum.inl B)) else if inb (32 + nI k) 48 then Option.bind (fM_reads (mput B 226 (jix (32 + nI k)) (B 217 14))) fun Mz6 => if inb (32 + nI k) 48 then Option.bind (fM_readSum (mput Mz6 227 (jix (32 + nI k)) (Mz6 217 24))) fun qz10 => if qz10.1 = -1 then some (Sum.inr (Sum.inr (Sum.inl qz10.2))) else if inb (32 + nI k) 48 then (if fM_isWord 3 (mput qz10.2 228 (jix (32 + nI k)) (qz10.2 217 24)) = 0 then fM_readLaw_j92 (nI k) (32 + nI k) (mput qz10.2 228 (jix (32 + nI k)) (qz10.2 217 24)) else Option.bind (fM_reads (mput qz10.2 228 (jix (32 + nI k)) (qz10.2 217 24))) fun Mz15 => Option.bind (fM_readAny Mz15) fun qz17 => if qz17.1 = -1 then some (Sum.inr (Sum.inr (Sum.inr (Sum.inl qz17.2)))) else fM_readLaw_j92 (nI k) (32 + nI k) qz17.2) else none else none else none) Q := by
    intro Q hQ
    rw [e32, jk2, q2]
    refine Go.no (by rw [lw]; decide) ?_
    refine Go.no (by rw [(lit_nI _ : (16 : Int32) = nI 16), nI_eq' (by omega) (by omega)]; omega) ?_
    refine Go.gd (i48) ?_
    refine go_bind.mpr ?_
    refine ⟨B2, B2e, ?_⟩
    refine Go.gd (i48) ?_
    refine go_bind.mpr ?_
    rw [b24]
    exact ⟨r, re, hQ⟩
  have nf : ∀ {X : Mm}, FLT A4 X → ¬ mput A4 151 k (A4 148 1) 146 1 = 0 := fun {X} q => by rw [mput_r (by omega)]; exact q.1
  rcases x3 with ⟨r0, i1, n1, z1, hz, hi, s4, l4⟩ | ⟨r0, fl, ft⟩
  rotate_left
  · rw [sort_bad (nf fl)]
    refine Go.some ?_
    refine go_bind.mpr ?_
    refine Go.no (by decide) ?_
    refine Go.some ?_
    have tl := tail_bad (A := mput A4 151 k (A4 148 1)) hk (nf fl)
    unfold lawTail at tl
    rw [jk] at tl
    obtain ⟨A5, A5e, t1, t2, t3⟩ := tl
    refine ⟨A5, A5e, ?_⟩
    refine mod ?_
    refine Go.yes (r0) ?_
    refine Go.some ?_
    refine Or.inr ⟨_, r.2, rfl, rfl, ?_, (fa4.put (by omega)).trans t3, fb4⟩
    exact ⟨by rw [t1]; exact nf fl, by rw [t1, mput_r (by omega)]; exact fl.2.1, by rw [t2, mput_r (by omega)]; exact fl.2.2⟩
  obtain ⟨ps4, ed4, ty4⟩ := s4
  have b24' : r.2 217 24 = nI n1 := ed4.2.1
  have a148' : A4 148 1 = nI n1 := ed4.1
  have ps5 : PS (mput A4 151 k (nI n1)) (mput r.2 228 (32 + k) (nI n1)) b L i1 := ps4.fr (fun c j p q => by rw [mput_r (by omega)]) (by rw [mput_r (by omega)]) (by rw [mput_r (by omega)]) (fun j p q => by rw [mput_r (by omega)]) (mput_r (by omega)) (mput_r (by omega))
  have wd3 : fM_isWord 3 (mput r.2 228 (32 + k) (nI n1)) = if A4 163 i1 = nI 259 then 1 else 0 := by
    have := word_i hL ps5 (k := 3) (by omega)
    rw [wq_3, mput_r (show 163 ≠ 151 by omega)] at this; exact this
  have cell149 : A4 149 k = nI w := by rw [x1 149 k (by omega), mput_r (by omega), mput_r (by omega), mput_same]
  have cell226 : r.2 226 (32 + k) = nI w := by rw [x2 226 _ (by omega), mput_r (by omega), fr2 226 _ (by omega), mput_same]
  have cell150 : A4 150 k = nI n := by rw [x1 150 k (by omega), mput_same]
  have cell227 : r.2 227 (32 + k) = nI n := by rw [x2 227 _ (by omega), mput_same]
  have c25 : r.2 217 25 = 0 := by rw [x2 217 25 (by omega), oB 217 25 (by omega) (by omega) (by omega)]; exact h25
  have nn1 : n ≤ n1 := ty4.1
  have hD4 : ∀ j, j < k → LD A4 r.2 j n1 := fun j hj => by
    refine (hD j hj).fr nn1 (fun c p q => ?_) (fun c p q => ?_) (fun m hm => ty4.2.2 m hm)
    · rw [x1 c j (by omega), oA c j (by omega) (by omega) (by omega)]
    · rw [x2 c _ (by omega), oB c _ (by omega) (by omega) (by omega)]
  have a163' : mput A4 151 k (nI n1) 163 i1 = A4 163 i1 := by rw [mput_r (by omega)]
  rw [a148', sort_ok hL ps5, a163']
  refine Go.some ?_
  refine go_bind.mpr ?_
  by_cases q3 : A4 163 i1 = nI 259
  · -- with a condition
    have iN1 := not_end hL ps4 (by rw [q3]; decide)
    obtain ⟨B6, B6e, ps6, fr6⟩ := ps5.adv hL iN1
    have e4' : mput A4 151 k (nI n1) 146 4 + 1 = nI (i1 + 1) := by rw [mput_r (by omega), ps4.2.2.2.1, nI_1]
    have o6 : ∀ c j, ¬ (c = 217 ∧ 11 ≤ j ∧ j ≤ 14) → ¬ (c = 228 ∧ j = 32 + k) → B6 c j = r.2 c j := fun c j p q => by rw [fr6 c j p, mput_q q]
    have oA6 : ∀ c j, ¬ (c = 151 ∧ j = k) → ¬ (c = 146 ∧ j = 4) → mput (mput A4 151 k (nI n1)) 146 4 (nI (i1 + 1)) c j = A4 c j := fun c j p q => by rw [mput_q q, mput_q p]
    have s6 : ST (mput (mput A4 151 k (nI n1)) 146 4 (nI (i1 + 1))) B6 b L (i1 + 1) n1 (n1, fun j => (r.2 230 (800 + j), r.2 231 (800 + j))) [] := by
      refine ⟨ps6, ⟨by rw [oA6 148 1 (by omega) (by omega)]; exact a148', by rw [o6 217 24 (by omega) (by omega)]; exact b24', ed4.2.2.1, fun j hj => ?_⟩, Nat.le_refl _, ?_, fun j hj => ⟨o6 230 _ (by omega) (by omega), o6 231 _ (by omega) (by omega)⟩⟩
      · rw [oA6 153 j (by omega) (by omega), o6 230 _ (by omega) (by omega), o6 231 _ (by omega) (by omega)]; exact ed4.2.2.2 j hj
      · show Trn _ _ n1 (n1 - n1) [] []
        rw [Nat.sub_self]; rfl
    obtain ⟨A7, A7e, r7, r7e, y1, y2, y3⟩ := condition_go hL s6 (by omega) (by omega) (by rw [o6 217 25 (by omega) (by omega)]; exact c25)
    have fa7 : gF A0 A7 := ((fa4.put (by omega)).put (by omega)).trans y1.g
    have fb7 : hF B0 r7.2 := ((fb4.put (by omega)).trans fr6.h).trans y2.h
    rw [e4']
    refine Go.yes (q3) ?_
    refine go_bind.mpr ?_
    refine ⟨A7, A7e, ?_⟩
    refine Go.some ?_
    rcases y3 with ⟨r0', i2, n2, hi2, s7, l7, d25⟩ | ⟨r0', fl, ft⟩
    · obtain ⟨ps7, ed7, ty7⟩ := s7
      have tg := tail_go (A := A7) (B := r7.2) (A0 := A0) (B0 := B0) (n := n2) (f := n) (g := n1) hL hk ps7 ed7 l7 d25 (fun j hj => (hD4 j hj).fr ty7.1 (fun c p q => by rw [y1 c j (by omega), oA6 c j (by omega) (by omega)]) (fun c p q => by rw [y2 c _ (by omega), o6 c _ (by omega) (by omega)]) (fun m hm => ty7.2.2 m hm)) nn1 ty7.1 (by rw [y1 149 k (by omega), oA6 149 k (by omega) (by omega), cell149, y2 226 _ (by omega), o6 226 _ (by omega) (by omega), cell226]) (by rw [y1 150 k (by omega), oA6 150 k (by omega) (by omega)]; exact cell150) (by rw [y2 227 _ (by omega), o6 227 _ (by omega) (by omega)]; exact cell227) (by rw [y1 151 k (by omega), mput_r (by omega), mput_same]) (by rw [y2 228 _ (by omega), fr6 228 _ (by omega), mput_same]) ⟨z1, hz, Trn_cg (fun m p q => ty7.2.2 m (by show m < n1; omega)) ty4.2.1⟩ (Or.inr ty7.2.1) fa7 fb7
      unfold lawTail at tg
      rw [jk] at tg
      obtain ⟨A8, A8e, r8, r8e, p8⟩ := tg
      refine ⟨A8, A8e, ?_⟩
      refine mod ?_
      rw [b24', wd3]
      refine Go.no (by rw [r0]; decide) ?_
      refine Go.gd (i48) ?_
      refine Go.no (by rw [if_pos q3]; decide) ?_
      refine go_bind.mpr ?_
      refine ⟨B6, B6e, ?_⟩
      refine go_bind.mpr ?_
      refine ⟨r7, r7e, ?_⟩
      refine Go.no (by rw [r0']; decide) ?_
      exact ⟨r8, r8e, p8⟩
    · have tl := tail_bad (A := A7) hk fl.1
      unfold lawTail at tl
      rw [jk] at tl
      obtain ⟨A8, A8e, t1, t2, t3⟩ := tl
      refine ⟨A8, A8e, ?_⟩
      refine mod ?_
      rw [b24', wd3]
      refine Go.no (by rw [r0]; decide) ?_
      refine Go.gd (i48) ?_
      refine Go.no (by rw [if_pos q3]; decide) ?_
      refine go_bind.mpr ?_
      refine ⟨B6, B6e, ?_⟩
      refine go_bind.mpr ?_
      refine ⟨r7, r7e, ?_⟩
      refine Go.yes (r0') ?_
      refine Go.some ?_
      refine Or.inr ⟨_, r7.2, rfl, rfl, ?_, fa7.trans t3, fb7⟩
      exact ⟨by rw [t1]; exact fl.1, by rw [t1]; exact fl.2.1, by rw [t2]; exact fl.2.2⟩
  · -- without
    refine Go.no (q3) ?_
    refine Go.some ?_
    have ed5 : ED (mput A4 151 k (nI n1)) (mput r.2 228 (32 + k) (nI n1)) n1 := ⟨by rw [mput_r (by omega)]; exact a148', by rw [mput_r (by omega)]; exact b24', ed4.2.2.1, fun j hj => by rw [mput_r (by omega), mput_r (by omega), mput_r (by omega)]; exact ed4.2.2.2 j hj⟩
    have tg := tail_go (A := mput A4 151 k (nI n1)) (B := mput r.2 228 (32 + k) (nI n1)) (A0 := A0) (B0 := B0) (n := n1) (f := n) (g := n1) hL hk ps5 ed5 (by omega) (by rw [mput_r (by omega)]; exact c25) (fun j hj => (hD4 j hj).fr (Nat.le_refl _) (fun c p q => by rw [mput_q (by omega)]) (fun c p q => by rw [mput_q (by omega)]) (fun m hm => ⟨by rw [mput_r (by omega)], by rw [mput_r (by omega)]⟩)) nn1 (Nat.le_refl _) (by rw [mput_r (by omega), mput_r (by omega), cell149, cell226]) (by rw [mput_r (by omega)]; exact cell150) (by rw [mput_r (by omega)]; exact cell227) (mput_same _ _ _ _) (mput_same _ _ _ _) ⟨z1, hz, Trn_cg (fun m p q => ⟨by rw [mput_r (by omega)], by rw [mput_r (by omega)]⟩) ty4.2.1⟩ (Or.inl rfl) (fa4.put (by omega)) (fb4.put (by omega))
    unfold lawTail at tg
    rw [jk] at tg
    obtain ⟨A8, A8e, r8, r8e, p8⟩ := tg
    refine ⟨A8, A8e, ?_⟩
    refine mod ?_
    rw [b24', wd3]
    refine Go.no (by rw [r0]; decide) ?_
    refine Go.gd (i48) ?_
    refine Go.yes (by rw [if_neg q3]) ?_
    exact ⟨r8, r8e, p8⟩
theorem law_all {A B : Mm} {b : Nat → Nat} {L i : Nat} (hL : L ≤ 400) (ps : PS A B b L i) (h1 : A 148 1 = 0) (h0 : A 148 0 = 0) (h24 : B 217 24 = 0) (h25 : B 217 25 = 0) :
    Go (lp 1000000 (fun s => fR_read_b31 0 s.1 s.2) (0, A)) (fun y => Go (fM_readLaw B) (fun r => ∃ A', (y = Sum.inl A' ∨ y = Sum.inr A') ∧ ((∃ k, r.1 = nI k ∧ k ≤ 16 ∧ A' 146 1 = 0 ∧ lwR A B b L k A' r.2) ∨ (r.1 = -1 ∧ FLT A' r.2 ∧ gF A A' ∧ hF B r.2)))) := by
  have e : fM_readLaw B = Option.bind (lp 1000000 (fun s => fM_readLaw_b2 s.1 s.2) (0, B)) finL := by
    unfold fM_readLaw
    refine congrArg (Option.bind _) (funext fun e2 => ?_)
    rcases e2 with p | p | p | p | p <;> rfl
  rw [e]
  refine lines_go (x1 := 0) (b := b) (L := L) (Or.inl rfl) hL fM_readLaw_b2 finL (lwR A B b L) (fun A' B' => gF A A' ∧ hF B B') ?_ ⟨i, 0, ps, ⟨h1, h24, by omega, fun k hk => by omega⟩, by omega, h25, fun j hj => by omega, h0, gF.rfl' A, hF.rfl' B⟩
  intro k A1 B1 hk hR
  have hR0 := hR
  obtain ⟨i1, n1, ps1, ed1, hn1, g25, hD1, g148, fa1, fb1⟩ := hR0
  have fw := first0 hL ps1
  have tok := ps1.tok hL
  refine ⟨i1, ps1, fun e => ?_, fun lt w => ?_, fun w k16 => ?_, fun w lt => ?_, ?_⟩
  · have s2 : A1 163 i1 = 2 := tok.2.2.mpr e
    have lw : fM_isLineWord B1 = 0 := by
      rcases fw with ⟨q, -⟩ | ⟨-, q⟩
      · rw [s2] at q; exact absurd q (by decide)
      · exact q
    have t0 : B1 217 13 = 0 := by
      rcases tok.1 with ⟨-, q⟩ | ⟨q, -⟩ | ⟨_, _, q, -⟩ | ⟨_, _, q, -⟩ | ⟨d, d1, q, -⟩
      · exact q
      · rw [s2] at q; exact absurd q (by decide)
      · rw [s2] at q; exact absurd q (by decide)
      · rw [s2, (lit_nI _ : (2 : Int32) = nI 2), nI_eq' (by omega) (by omega)] at q; omega
      · have := isSg_lt d1; rw [s2, (lit_nI _ : (2 : Int32) = nI 2), nI_eq' (by omega) (by omega)] at q; omega
    refine ⟨Sum.inr (Sum.inr (Sum.inr (Sum.inr (nI k, B1)))), ?_, ?_⟩
    · refine Go.eq ?_
      unfold fM_readLaw_b2
      refine Go.yes (lw) ?_
      refine Go.some ?_
      rfl
    · show (if B1 217 13 = 0 then _ else _) = _
      rw [if_pos t0]
  · have lw : fM_isLineWord B1 = 0 := by
      rcases fw with ⟨q, -⟩ | ⟨-, q⟩
      · rw [w] at q; exact absurd q (by decide)
      · exact q
    have t0 : ¬ B1 217 13 = 0 := by
      rcases tok.1 with ⟨q, -⟩ | ⟨-, q⟩ | ⟨_, _, -, _, q, -⟩ | ⟨_, _, -, q, -⟩ | ⟨d, d1, -, q, -⟩
      · have := tok.2.2.mp q; omega
      all_goals rw [q]; decide
    refine ⟨⟨fa1.trans (eF_bA _ _ _).c.g, fb1.trans (hF_errs _ 1)⟩, Sum.inr (Sum.inr (Sum.inr (Sum.inr (nI k, B1)))), ?_, ?_⟩
    · refine Go.eq ?_
      unfold fM_readLaw_b2
      refine Go.yes (lw) ?_
      refine Go.some ?_
      rfl
    · show (if B1 217 13 = 0 then _ else _) = _
      rw [if_neg t0]; rfl
  · have lw : fM_isLineWord B1 = 1 := by
      rcases fw with ⟨-, q, -⟩ | ⟨q, -⟩
      · exact q
      · rw [w] at q; exact absurd q (by decide)
    refine ⟨⟨fa1.trans (eF_bA _ _ _).c.g, fb1.trans (hF_errs _ 3)⟩, Sum.inl B1, ?_, rfl⟩
    refine Go.eq ?_
    unfold fM_readLaw_b2
    refine Go.no (by rw [lw]; decide) ?_
    refine Go.yes (by rw [k16]; rfl) ?_
    refine Go.some ?_
    rfl
  · have hw : ∀ i', PS A1 B1 b L i' → fR_isFirstWord 0 (A1 163 i') = some 1 := fun i' p' => by
      have e1 : nI i' = nI i1 := p'.2.2.2.1.symm.trans ps1.2.2.2.1
      have c1 := p'.2.2.2.2.2
      have c2 := ps1.2.2.2.2.2
      have cL := cs_le b L
      rw [nI_eq' (by omega) (by omega)] at e1
      rw [e1]; exact w
    refine (law_line hL lt hR hw).mono fun A' hA => hA.mono fun r hr => ?_
    exact hr
  · rcases fw with ⟨q, -⟩ | ⟨q, -⟩
    · exact Or.inr q
    · exact Or.inl q
end PmLaw
