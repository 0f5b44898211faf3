section PmReads
/-- the model's token that begins at p -/
def tM (b : Nat → Nat) (L p : Nat) (t v : Int32) : Prop :=
  (cl (b p) = 4 ∧ wS b p (en b p L) v ∧ t = (if v = -1 then 1 else 2)) ∨ (cl (b p) = 1 ∧ en b p L ≤ p + 4 ∧ t = 3 ∧ v = nI (nm b p (en b p L - p))) ∨ (cl (b p) = 1 ∧ p + 4 < en b p L ∧ t = 1) ∨ (cl (b p) ≠ 4 ∧ cl (b p) ≠ 1 ∧ cl (b p) ≠ 0 ∧ t = 4 ∧ v = nI (cl (b p))) ∨ (cl (b p) = 0 ∧ t = 1)
/-- the model stands at token i -/
def CTk (B : Mm) (b : Nat → Nat) (L i : Nat) : Prop := (∃ p, p < L ∧ sT b p = true ∧ cs b p = i ∧ B 217 12 = nI p ∧ tM b L p (B 217 13) (B 217 14) ∧ B 217 11 = nI (en b p L)) ∨ (i = cs b L ∧ B 217 12 = nI L ∧ B 217 13 = 0)
/-- s lies between token i and the one before -/
def BD (b : Nat → Nat) (L i s : Nat) : Prop := s ≤ L ∧ cs b s = i ∧ (s = L ∨ ¬ gO b s = true)
theorem BD_next {b : Nat → Nat} {L p : Nat} (hp : p < L) (hs : sT b p = true) : BD b L (cs b p + 1) (en b p L) := by
  refine ⟨en_le b p L hp, ?_, en_end hp⟩
  have gt := en_gt b p L
  rw [cs_flat (s := p + 1) (by omega) (fun k h1 h2 q => (sT_iff.mp q).2 (en_in (x := L) (by omega) h2)), cs_1, if_pos hs]
def rF (B B' : Mm) : Prop := ∀ c k, ¬ (c = 217 ∧ 11 ≤ k ∧ k ≤ 14) → B' c k = B c k
theorem rF.rfl' (B : Mm) : rF B B := fun _ _ _ => rfl
theorem rF.put {B B' : Mm} {k : Nat} {v : Int32} (h : rF B B') (h1 : 11 ≤ k) (h2 : k ≤ 14) : rF B (mput B' 217 k v) := fun c j q => by
  rw [mput_q (fun z => q ⟨z.1, by omega, by omega⟩)]; exact h c j q
theorem rF.tp {B B' : Mm} {b : Nat → Nat} {L : Nat} (h : rF B B') (t : TPm B b L) : TPm B' b L := by
  obtain ⟨t1, t2, t3⟩ := t
  exact ⟨by rw [h 217 10 (by omega)]; exact t1, fun k hk => by rw [h 223 k (by omega)]; exact t2 k hk, fun k hk => by rw [h 224 k (by omega)]; exact t3 k hk⟩
theorem rF.trans {B B1 B2 : Mm} (h : rF B B1) (k : rF B1 B2) : rF B B2 := fun c j q => by rw [k c j q, h c j q]
theorem raw_eq {B : Mm} {b : Nat → Nat} {L x : Nat} (hL : L ≤ 400) (hx : x ≤ L) (t : TPm B b L) : fM_raw (nI x) B = some (if x = L then -1 else nI (b x)) := by
  refine Go.eq ?_
  unfold fM_raw
  by_cases e : x = L
  · refine Go.yes (by rw [t.1, e]; exact i32_le.mpr (Int.le_refl _)) ?_
    refine Go.some ?_
    rw [if_pos e]
  · refine Go.no (by rw [t.1, nI_le' (by omega) (by omega)]; omega) ?_
    refine Go.gd ((inb_nI (by omega)).mpr (by omega)) ?_
    refine Go.some ?_
    rw [jix_nI (by omega), (t.2.1 x (by omega)).1, if_neg e]
theorem isLetter_eq {v : Nat} (h : v < 256) : fM_isLetter (nI v) = if cl v = 4 then 1 else 0 := by
  have : ∀ v : Fin 256, fM_isLetter (nI v.val) = if cl v.val = 4 then 1 else 0 := by decide +kernel
  exact this ⟨v, h⟩
theorem isDigit_eq {v : Nat} (h : v < 256) : fM_isDigit (nI v) = some (if cl v = 1 then 1 else 0) := by
  have : ∀ v : Fin 256, fM_isDigit (nI v.val) = some (if cl v.val = 1 then 1 else 0) := by decide +kernel
  exact this ⟨v, h⟩
theorem isMark_eq {v : Nat} (h : v < 256) (h1 : cl v ≠ 4) (h2 : cl v ≠ 1) (h3 : cl v ≠ 3) : (fM_isMarkSign (nI v) = 1 ∧ cl v ≠ 0 ∧ cl v = v) ∨ (fM_isMarkSign (nI v) = 0 ∧ cl v = 0) := by
  have : ∀ v : Fin 256, cl v.val ≠ 4 → cl v.val ≠ 1 → cl v.val ≠ 3 → (fM_isMarkSign (nI v.val) = 1 ∧ cl v.val ≠ 0 ∧ cl v.val = v.val) ∨ (fM_isMarkSign (nI v.val) = 0 ∧ cl v.val = 0) := by decide +kernel
  exact this ⟨v, h⟩ h1 h2 h3
theorem cl_3 {v : Nat} (h : v < 256) : cl v = 3 ↔ (v = 32 ∨ v = 10) := by
  have : ∀ v : Fin 256, cl v.val = 3 ↔ (v.val = 32 ∨ v.val = 10) := by decide +kernel
  exact this ⟨v, h⟩
theorem skip_go {B : Mm} {b : Nat → Nat} {L s : Nat} (hL : L ≤ 400) (hs : s ≤ L) (t : TPm B b L) (h : B 217 11 = nI s) :
    Go (lp 1000000 (fun s => fM_reads_b0 s) B) (fun B' => ∃ p, s ≤ p ∧ p ≤ L ∧ (∀ k, s ≤ k → k < p → cl (b k) = 3) ∧ (p = L ∨ cl (b p) ≠ 3) ∧ B' 217 11 = nI p ∧ rF B B') := by
  refine go_lp (fun q B' => ∃ x, q = L - x ∧ s ≤ x ∧ x ≤ L ∧ (∀ k, s ≤ k → k < x → cl (b k) = 3) ∧ B' 217 11 = nI x ∧ rF B B') ?_ _ (L - s) _ (by omega) ⟨s, rfl, Nat.le_refl _, hs, fun k h1 h2 => by omega, h, rF.rfl' _⟩
  rintro q B' ⟨x, rfl, x1, x2, x3, x4, fr⟩
  unfold fM_reads_b0 fM_reads_j26
  rw [x4, raw_eq hL x2 (fr.tp t)]
  refine go_bind.mpr ?_
  refine Go.some ?_
  by_cases e : x = L
  · rw [if_pos e]
    refine Go.no (by decide) ?_
    refine go_bind.mpr ?_
    refine Go.some ?_
    refine Go.no (by decide) ?_
    refine Go.some ?_
    exact ⟨x, x1, x2, x3, Or.inl e, x4, fr⟩
  · have b8 := (t.2.1 x (by omega)).2
    rw [if_neg e]
    have on : cl (b x) = 3 → ∃ k', k' < L - x ∧ ∃ x', k' = L - x' ∧ s ≤ x' ∧ x' ≤ L ∧ (∀ k, s ≤ k → k < x' → cl (b k) = 3) ∧ mput B' 217 11 (nI x + 1) 217 11 = nI x' ∧ rF B (mput B' 217 11 (nI x + 1)) := fun c3 => by
      refine ⟨L - (x + 1), by omega, x + 1, rfl, by omega, by omega, fun k h1 h2 => ?_, by rw [mput_same, nI_1], fr.put (by omega) (by omega)⟩
      by_cases z : k = x
      · subst z; exact c3
      · exact x3 k h1 (by omega)
    by_cases c3 : cl (b x) = 3
    · rcases (cl_3 b8).mp c3 with q | q
      · refine Go.yes (by rw [q]; rfl) ?_
        exact Go.some (on c3)
      · refine Go.no (by rw [q]; decide) ?_
        refine go_bind.mpr ?_
        refine Go.some ?_
        refine Go.yes (by rw [q]; rfl) ?_
        exact Go.some (on c3)
    · have n1 := fun q => c3 ((cl_3 b8).mpr q)
      refine Go.no (by rw [(lit_nI _ : (32 : Int32) = nI 32), nI_eq' (by omega) (by omega)]; exact fun k => n1 (Or.inl k)) ?_
      refine go_bind.mpr ?_
      refine Go.some ?_
      refine Go.no (by rw [(lit_nI _ : (10 : Int32) = nI 10), nI_eq' (by omega) (by omega)]; exact fun k => n1 (Or.inr k)) ?_
      refine Go.some ?_
      exact ⟨x, x1, x2, x3, Or.inr c3, x4, fr⟩
theorem letters_go {B : Mm} {b : Nat → Nat} {L p : Nat} (hL : L ≤ 400) (hp : p < L) (t : TPm B b L) (c : cl (b p) = 4) (h : B 217 11 = nI (p + 1)) :
    Go (lp 1000000 (fun s => fM_reads_b95 s) B) (fun B' => B' 217 11 = nI (en b p L) ∧ B' 217 12 = B 217 12 ∧ B' 217 13 = B 217 13 ∧ B' 217 14 = B 217 14 ∧ rF B B') := by
  refine go_lp (fun q B' => ∃ x, q = L - x ∧ p < x ∧ x ≤ L ∧ (∀ k, p ≤ k → k < x → cl (b k) = 4) ∧ B' 217 11 = nI x ∧ B' 217 12 = B 217 12 ∧ B' 217 13 = B 217 13 ∧ B' 217 14 = B 217 14 ∧ rF B B') ?_ _ (L - (p + 1)) _ (by omega) ⟨p + 1, rfl, by omega, by omega, fun k h1 h2 => by rw [show k = p by omega]; exact c, h, rfl, rfl, rfl, rF.rfl' _⟩
  rintro q B' ⟨x, rfl, x1, x2, x3, x4, f2, f3, f4, fr⟩
  unfold fM_reads_b95
  rw [x4, raw_eq hL x2 (fr.tp t)]
  have go : ∀ j, p < j → j < x → gO b j = true := fun j h1 h2 => gO_iff.mpr ⟨by omega, by rw [x3 (j - 1) (by omega) (by omega), x3 j (by omega) h2], Or.inl (x3 j (by omega) h2)⟩
  refine go_bind.mpr ?_
  refine Go.some ?_
  by_cases e : x = L
  · rw [if_pos e]
    refine Go.yes (by decide) ?_
    refine Go.some ?_
    exact ⟨by rw [x4, en_char x1 x2 go (Or.inl e)], f2, f3, f4, fr⟩
  · have b8 := (t.2.1 x (by omega)).2
    rw [if_neg e, isLetter_eq b8, nI_1]
    by_cases c4 : cl (b x) = 4
    · refine Go.no (by rw [if_pos c4]; decide) ?_
      refine Go.some ?_
      refine ⟨L - (x + 1), by omega, x + 1, rfl, by omega, by omega, fun k h1 h2 => ?_, mput_same _ _ _ _, by rw [mput_s (by omega)]; exact f2, by rw [mput_s (by omega)]; exact f3, by rw [mput_s (by omega)]; exact f4, fr.put (by omega) (by omega)⟩
      by_cases z : k = x
      · subst z; exact c4
      · exact x3 k h1 (by omega)
    · have ee := en_char x1 x2 go (Or.inr fun g => c4 (by
        have := gO_iff.mp g
        rw [← this.2.1]; exact x3 (x - 1) (by omega) (by omega)))
      refine Go.yes (by rw [if_neg c4]) ?_
      refine Go.some ?_
      exact ⟨by rw [x4, ee], f2, f3, f4, fr⟩
theorem digits_go {B : Mm} {b : Nat → Nat} {L p : Nat} (hL : L ≤ 400) (hp : p < L) (t : TPm B b L) (c : cl (b p) = 1) (h : B 217 11 = nI (p + 1)) (h4 : B 217 14 = nI (nm b p 1)) :
    Go (lp 1000000 (fun s => fM_reads_b171 s) B) (fun B' => B' 217 11 = nI (en b p L) ∧ B' 217 12 = B 217 12 ∧ B' 217 13 = B 217 13 ∧ (en b p L ≤ p + 4 → B' 217 14 = nI (nm b p (en b p L - p))) ∧ rF B B') := by
  refine go_lp (fun q B' => ∃ x, q = L - x ∧ p < x ∧ x ≤ L ∧ (∀ k, p ≤ k → k < x → cl (b k) = 1) ∧ B' 217 11 = nI x ∧ B' 217 12 = B 217 12 ∧ B' 217 13 = B 217 13 ∧ (x ≤ p + 4 → B' 217 14 = nI (nm b p (x - p))) ∧ rF B B') ?_ _ (L - (p + 1)) _ (by omega) ⟨p + 1, rfl, by omega, by omega, fun k h1 h2 => by rw [show k = p by omega]; exact c, h, rfl, rfl, fun _ => by rw [Nat.add_sub_cancel_left]; exact h4, rF.rfl' _⟩
  rintro q B' ⟨x, rfl, x1, x2, x3, x4, f2, f3, f4, fr⟩
  unfold fM_reads_b171
  rw [x4, raw_eq hL x2 (fr.tp t)]
  have go : ∀ j, p < j → j < x → gO b j = true := fun j h1 h2 => gO_iff.mpr ⟨by omega, by rw [x3 (j - 1) (by omega) (by omega), x3 j (by omega) h2], Or.inr (x3 j (by omega) h2)⟩
  refine go_bind.mpr ?_
  refine Go.some ?_
  by_cases e : x = L
  · have ee := en_char x1 x2 go (Or.inl e)
    rw [if_pos e]
    have d : fM_isDigit (-1) = some 0 := by decide
    rw [d]
    refine go_bind.mpr ?_
    refine Go.some ?_
    refine Go.yes (by first | rfl | (simp; done)) ?_
    refine Go.some ?_
    exact ⟨by rw [x4, ee], f2, f3, fun q => by rw [ee] at q ⊢; exact f4 q, fr⟩
  · have b8 := (t.2.1 x (by omega)).2
    rw [if_neg e, isDigit_eq b8]
    refine go_bind.mpr ?_
    refine Go.some ?_
    by_cases c1 : cl (b x) = 1
    · have dg := cl_1.mp c1
      refine Go.no (by rw [if_pos c1]; decide) ?_
      refine Go.bind (P := fun y => x + 1 ≤ p + 4 → y = nI (nm b p (x + 1 - p))) ?_ ?_
      · by_cases l : x ≤ p + 4
        · have v := f4 l
          have lt : nm b p (x - p) < 10 ^ (x - p) := nm_lt fun j hj => cl_1.mp (x3 (p + j) (by omega) (by omega))
          have pw : 10 ^ (x - p) ≤ 10 ^ 4 := Nat.pow_le_pow_right (by omega) (by omega)
          rw [v]
          refine Go.no (by rw [(lit_nI _ : (10000 : Int32) = nI 10000), nI_le' (by omega) (by omega)]; omega) ?_
          refine go_bind.mpr ?_
          refine Go.some ?_
          refine Go.some ?_
          intro _
          rw [show x + 1 - p = (x - p) + 1 by omega, (lit_nI _ : (10 : Int32) = nI 10), nI_mul', nI_add, (lit_nI _ : (48 : Int32) = nI 48), nI_sub' (by omega)]
          show _ = nI (10 * nm b p (x - p) + (b (p + (x - p)) - 48))
          rw [show p + (x - p) = x by omega]
          exact congrArg nI (by omega)
        · refine Go.ite (fun _ => Go.some fun q => by omega) (fun _ => ?_)
          refine go_bind.mpr ?_
          refine Go.some ?_
          refine Go.some ?_
          intro q; omega
      · intro y hy
        refine Go.some ?_
        rw [mput_s (show 11 ≠ 14 by omega), x4, nI_1]
        refine ⟨L - (x + 1), by omega, x + 1, rfl, by omega, by omega, fun k h1 h2 => ?_, mput_same _ _ _ _, by rw [mput_s (by omega), mput_s (by omega)]; exact f2, by rw [mput_s (by omega), mput_s (by omega)]; exact f3, fun q => by rw [mput_s (by omega), mput_same]; exact hy q, (fr.put (by omega) (by omega)).put (by omega) (by omega)⟩
        by_cases z : k = x
        · subst z; exact c1
        · exact x3 k h1 (by omega)
    · have ee := en_char x1 x2 go (Or.inr fun g => c1 (by
        have := gO_iff.mp g
        rw [← this.2.1]; exact x3 (x - 1) (by omega) (by omega)))
      refine Go.yes (by rw [if_neg c1]) ?_
      refine Go.some ?_
      exact ⟨by rw [x4, ee], f2, f3, fun q => by rw [ee] at q ⊢; exact f4 q, fr⟩
theorem reads_go {B : Mm} {b : Nat → Nat} {L i s : Nat} (hL : L ≤ 400) (t : TPm B b L) (hd : BD b L i s) (h : B 217 11 = nI s) : Go (fM_reads B) (fun B' => CTk B' b L i ∧ rF B B') := by
  obtain ⟨d1, d2, d3⟩ := hd
  unfold fM_reads
  refine Go.bind (skip_go hL d1 t h) ?_
  rintro B1 ⟨p, p1, p2, p3, p4, p5, fr⟩
  have csp : cs b p = i := by
    rw [cs_flat p1 (fun k h1 h2 q => (sT_iff.mp q).1 (p3 k h1 h2)), d2]
  have e11 : mput (mput B1 217 12 (B1 217 11)) 217 13 1 217 11 = nI p := by rw [mput_s (by omega), mput_s (by omega)]; exact p5
  have fr2 : rF B (mput (mput B1 217 12 (B1 217 11)) 217 13 1) := (fr.put (by omega) (by omega)).put (by omega) (by omega)
  dsimp only
  rw [e11, raw_eq hL p2 (fr2.tp t)]
  refine go_bind.mpr ?_
  refine Go.some ?_
  by_cases e : p = L
  · rw [if_pos e]
    refine Go.yes (rfl) ?_
    refine Go.some ?_
    refine ⟨Or.inr ⟨by rw [← csp, e], ?_, mput_same _ _ _ _⟩, fr2.put (by omega) (by omega)⟩
    rw [mput_s (by omega), mput_s (by omega), mput_same, p5, e]
  · have pl : p < L := by omega
    have b8 := (t.2.1 p pl).2
    have c3 : cl (b p) ≠ 3 := p4.elim (fun q => absurd q e) id
    have hs : sT b p = true := by
      refine sT_iff.mpr ⟨c3, fun g => ?_⟩
      have g' := gO_iff.mp g
      by_cases z : p = s
      · subst z
        rcases d3 with q | q
        · exact e q
        · exact q g
      · have := p3 (p - 1) (by omega) (by omega)
        omega
    rw [if_neg e, nI_1]
    refine Go.no (nI_neg1 (by omega)) ?_
    rw [isLetter_eq b8]
    have fr3 : rF B (mput (mput (mput (mput B1 217 12 (B1 217 11)) 217 13 1) 217 11 (nI (p + 1))) 217 14 (nI (b p))) := (fr2.put (by omega) (by omega)).put (by omega) (by omega)
    have c12 : mput (mput (mput (mput B1 217 12 (B1 217 11)) 217 13 1) 217 11 (nI (p + 1))) 217 14 (nI (b p)) 217 12 = nI p := by rw [mput_s (by omega), mput_s (by omega), mput_s (by omega), mput_same, p5]
    have c11 : mput (mput (mput (mput B1 217 12 (B1 217 11)) 217 13 1) 217 11 (nI (p + 1))) 217 14 (nI (b p)) 217 11 = nI (p + 1) := by rw [mput_s (by omega), mput_same]
    have c13 : mput (mput (mput (mput B1 217 12 (B1 217 11)) 217 13 1) 217 11 (nI (p + 1))) 217 14 (nI (b p)) 217 13 = 1 := by rw [mput_s (by omega), mput_s (by omega), mput_same]
    have c14 : mput (mput (mput (mput B1 217 12 (B1 217 11)) 217 13 1) 217 11 (nI (p + 1))) 217 14 (nI (b p)) 217 14 = nI (b p) := mput_same _ _ _ _
    generalize mput (mput (mput (mput B1 217 12 (B1 217 11)) 217 13 1) 217 11 (nI (p + 1))) 217 14 (nI (b p)) = B2 at fr3 c12 c11 c13 c14 ⊢
    by_cases c4 : cl (b p) = 4
    · refine Go.no (by rw [if_pos c4]; decide) ?_
      refine go_bind.mpr ?_
      obtain ⟨B3, z1, z2, z3, z4, z5, z6⟩ := letters_go hL pl (fr3.tp t) c4 c11
      refine ⟨B3, z1, ?_⟩
      dsimp only
      rw [z3, c12, z2]
      have gt := en_gt b p L
      obtain ⟨r, r1, r2⟩ := wordAt_eq (B := B3) gt (en_le b p L pl) hL ((fr3.trans z6).tp t) (fun k h1 h2 => by rw [cl_same h1 h2]; exact c4)
      refine go_bind.mpr ?_
      refine ⟨r, r1, ?_⟩
      dsimp only
      rw [mput_same]
      by_cases rr : r = -1
      · refine Go.yes (rr) ?_
        refine Go.some ?_
        refine ⟨Or.inl ⟨p, pl, hs, csp, ?_, Or.inl ⟨c4, ?_, ?_⟩, ?_⟩, (fr3.trans z6).put (by omega) (by omega)⟩
        · rw [mput_s (by omega), z3, c12]
        · rw [mput_same]; exact r2
        · rw [mput_s (by omega), mput_same, z4, c13, if_pos rr]
        · rw [mput_s (by omega), z2]
      · refine Go.no (rr) ?_
        refine Go.some ?_
        refine ⟨Or.inl ⟨p, pl, hs, csp, ?_, Or.inl ⟨c4, ?_, ?_⟩, ?_⟩, ((fr3.trans z6).put (by omega) (by omega)).put (by omega) (by omega)⟩
        · rw [mput_s (by omega), mput_s (by omega), z3, c12]
        · rw [mput_s (by omega), mput_same]; exact r2
        · rw [mput_same, mput_s (by omega), mput_same, if_neg rr]
        · rw [mput_s (by omega), mput_s (by omega), z2]
    · refine Go.yes (by rw [if_neg c4]) ?_
      rw [isDigit_eq b8]
      refine go_bind.mpr ?_
      refine Go.some ?_
      by_cases c1 : cl (b p) = 1
      · have dg := cl_1.mp c1
        refine Go.no (by rw [if_pos c1]; decide) ?_
        refine go_bind.mpr ?_
        have e48 : nI (b p) - 48 = nI (nm b p 1) := by
          rw [(lit_nI _ : (48 : Int32) = nI 48), nI_sub' (by omega)]
          show _ = nI (10 * 0 + (b (p + 0) - 48))
          exact congrArg nI (by rw [Nat.add_zero]; omega)
        obtain ⟨B3, z1, z2, z3, z4, z5, z6⟩ := digits_go (B := mput B2 217 14 (nI (b p) - 48)) hL pl ((fr3.put (by omega) (by omega)).tp t) c1 (by rw [mput_s (by omega)]; exact c11) (by rw [mput_same]; exact e48)
        refine ⟨B3, z1, ?_⟩
        dsimp only
        have z3' : B3 217 12 = nI p := by rw [z3, mput_s (by omega)]; exact c12
        have z4' : B3 217 13 = 1 := by rw [z4, mput_s (by omega)]; exact c13
        have fr4 : rF B B3 := (fr3.put (by omega) (by omega)).trans z6
        have gt := en_gt b p L
        have le := en_le b p L pl
        rw [z2, z3', nI_sub' (by omega)]
        by_cases l : en b p L ≤ p + 4
        · refine Go.no (by rw [(lit_nI _ : (5 : Int32) = nI 5), nI_le' (by omega) (by omega)]; omega) ?_
          refine Go.some ?_
          exact ⟨Or.inl ⟨p, pl, hs, csp, by rw [mput_s (by omega)]; exact z3', Or.inr (Or.inl ⟨c1, l, mput_same _ _ _ _, by rw [mput_s (by omega)]; exact z5 l⟩), by rw [mput_s (by omega)]; exact z2⟩, fr4.put (by omega) (by omega)⟩
        · refine Go.yes (by rw [(lit_nI _ : (5 : Int32) = nI 5), nI_le' (by omega) (by omega)]; omega) ?_
          refine Go.some ?_
          exact ⟨Or.inl ⟨p, pl, hs, csp, z3', Or.inr (Or.inr (Or.inl ⟨c1, by omega, z4'⟩)), z2⟩, fr4⟩
      · have ee : en b p L = p + 1 := en_char (by omega) (by omega) (fun j h1 h2 => by omega) (by
          by_cases z : p + 1 = L
          · exact Or.inl z
          · refine Or.inr fun g => ?_
            have g' := gO_iff.mp g
            rw [Nat.add_sub_cancel] at g'
            omega)
        refine Go.yes (by rw [if_neg c1]) ?_
        rcases isMark_eq b8 c4 c1 c3 with ⟨k1, k2, k3⟩ | ⟨k1, k2⟩
        · refine Go.no (by rw [k1]; decide) ?_
          refine Go.some ?_
          exact ⟨Or.inl ⟨p, pl, hs, csp, by rw [mput_s (by omega)]; exact c12, Or.inr (Or.inr (Or.inr (Or.inl ⟨c4, c1, k2, mput_same _ _ _ _, by rw [mput_s (by omega), c14, k3]⟩))), by rw [mput_s (by omega), ee]; exact c11⟩, fr3.put (by omega) (by omega)⟩
        · refine Go.yes (k1) ?_
          refine Go.some ?_
          exact ⟨Or.inl ⟨p, pl, hs, csp, c12, Or.inr (Or.inr (Or.inr (Or.inr ⟨k2, c13⟩))), by rw [ee]; exact c11⟩, fr3⟩
end PmReads
