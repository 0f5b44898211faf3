section PmTok
def isSg (c : Nat) : Prop := c = 59 ∨ c = 43 ∨ c = 45 ∨ c = 42 ∨ c = 47 ∨ c = 40 ∨ c = 41 ∨ c = 60 ∨ c = 61 ∨ c = 62
/-- a token of the reader, and the model's -/
def tR (s v t w : Int32) : Prop := (s = 2 ∧ t = 0) ∨ (s = 0 ∧ t = 1) ∨ (∃ n, n < 10000 ∧ s = 1 ∧ v = nI n ∧ t = 3 ∧ w = nI n) ∨ (∃ k, k < 29 ∧ s = nI (256 + k) ∧ t = 2 ∧ w = nI (wq k)) ∨ (∃ c, isSg c ∧ s = nI c ∧ t = 4 ∧ w = nI c)
theorem cl_sg (v : Nat) : cl v = 0 ∨ cl v = 1 ∨ cl v = 3 ∨ cl v = 4 ∨ isSg (cl v) := by
  unfold cl
  split
  · omega
  · split
    · omega
    · split
      · omega
      · split
        · right; right; right; right; assumption
        · omega
/-- both stand at token i, and there is no fault -/
def PS (A B : Mm) (b : Nat → Nat) (L i : Nat) : Prop := TBL A b L ∧ TPm B b L ∧ CTk B b L i ∧ A 146 4 = nI i ∧ A 146 1 = 0 ∧ i ≤ cs b L
theorem PS.tok {A B : Mm} {b : Nat → Nat} {L i : Nat} (hL : L ≤ 400) (h : PS A B b L i) : tR (A 163 i) (A 164 i) (B 217 13) (B 217 14) ∧ A 165 i = B 217 12 ∧ (A 163 i = 2 ↔ i = cs b L) := by
  obtain ⟨⟨t1, t2, t3, t4, -⟩, tp, ct, -, -, hi⟩ := h
  rcases ct with ⟨p, p1, p2, rfl, p4, p5, p6⟩ | ⟨rfl, p4, p5⟩
  · obtain ⟨a1, a2⟩ := t2 p p1 p2
    have lt := cs_lt p1 p2
    have gt := en_gt b p L
    have le := en_le b p L p1
    have c3 := (sT_iff.mp p2).1
    have cn : ¬ cs b p = cs b L := by omega
    refine ⟨?_, by rw [a1, p4], ?_⟩
    · rcases a2 with ⟨c, w⟩ | ⟨c, l, s, v⟩ | ⟨c, l, s⟩ | ⟨c4, c1, s⟩
      · rcases p5 with ⟨-, w', t⟩ | ⟨c', -⟩ | ⟨c', -⟩ | ⟨c', -⟩ | ⟨c', -⟩
        · rcases w with ⟨k, k1, k2, k3⟩ | ⟨k2, k3⟩
          · rcases w' with ⟨m, m1, m2, m3⟩ | ⟨m2, m3⟩
            · have := wM_uniq k1 m1 k2 m2
              subst this
              have q := (wq_fact k1).1
              rw [m3, if_neg (nI_neg1 (by omega))] at t
              exact Or.inr (Or.inr (Or.inr (Or.inl ⟨k, k1, k3, t, m3⟩)))
            · exact absurd k2 (m2 k k1)
          · rcases w' with ⟨m, m1, m2, m3⟩ | ⟨m2, m3⟩
            · exact absurd m2 (k2 m m1)
            · rw [m3, if_pos rfl] at t
              exact Or.inr (Or.inl ⟨k3, t⟩)
        all_goals omega
      · rcases p5 with ⟨c', -⟩ | ⟨-, -, t, v'⟩ | ⟨-, l', -⟩ | ⟨-, c', -⟩ | ⟨c', -⟩
        · omega
        · have lt2 : nm b p (en b p L - p) < 10 ^ (en b p L - p) := nm_lt fun j hj => digits (L := L) c (show p ≤ p + j by omega) (by omega)
          have pw : 10 ^ (en b p L - p) ≤ 10 ^ 4 := Nat.pow_le_pow_right (by omega) (by omega)
          exact Or.inr (Or.inr (Or.inl ⟨_, by omega, s, v, t, v'⟩))
        all_goals omega
      · rcases p5 with ⟨c', -⟩ | ⟨-, l', -⟩ | ⟨-, -, t⟩ | ⟨-, c', -⟩ | ⟨c', -⟩
        · omega
        · omega
        · exact Or.inr (Or.inl ⟨s, t⟩)
        all_goals omega
      · rcases p5 with ⟨c', -⟩ | ⟨c', -⟩ | ⟨c', -⟩ | ⟨-, -, c0, t, v⟩ | ⟨c0, t⟩
        · omega
        · omega
        · omega
        · have g : isSg (cl (b p)) := by
            rcases cl_sg (b p) with q | q | q | q | q
            · omega
            · omega
            · omega
            · omega
            · exact q
          exact Or.inr (Or.inr (Or.inr (Or.inr ⟨_, g, s, t, v⟩)))
        · rw [c0] at s
          exact Or.inr (Or.inl ⟨s, t⟩)
    · refine ⟨fun q => ?_, fun q => absurd q cn⟩
      exfalso
      rcases a2 with ⟨c, w⟩ | ⟨c, l, s, v⟩ | ⟨c, l, s⟩ | ⟨c4, c1, s⟩
      · rcases w with ⟨k, k1, k2, k3⟩ | ⟨k2, k3⟩
        · rw [k3, (lit_nI _ : (2 : Int32) = nI 2), nI_eq' (by omega) (by omega)] at q; omega
        · rw [k3] at q; exact absurd q (by decide)
      · rw [s] at q; exact absurd q (by decide)
      · rw [s] at q; exact absurd q (by decide)
      · have c256 := cl_lt (b p) (tp.2.1 p p1).2
        rw [s, (lit_nI _ : (2 : Int32) = nI 2), nI_eq' (by omega) (by omega)] at q
        rcases cl_sg (b p) with r | r | r | r | r
        · omega
        · omega
        · omega
        · omega
        · rw [q] at r; unfold isSg at r; omega
  · exact ⟨Or.inl ⟨t3, p5⟩, by rw [t4, p4], fun _ => rfl, fun _ => t3⟩
theorem isSg_lt {c : Nat} (h : isSg c) : 40 ≤ c ∧ c ≤ 62 := by unfold isSg at h; omega
/-- signs, words, numbers alike -/
theorem tR.sign {s v t w : Int32} (h : tR s v t w) {c : Nat} (hc : 40 ≤ c) (h2 : c ≤ 62) {B : Mm} (e1 : B 217 13 = t) (e2 : B 217 14 = w) : fM_isSign (nI c) B = if s = nI c then 1 else 0 := by
  unfold fM_isSign
  rw [e1, e2]
  rcases h with ⟨q1, q2⟩ | ⟨q1, q2⟩ | ⟨n, n1, q1, -, q2, -⟩ | ⟨k, k1, q1, q2, -⟩ | ⟨d, d1, q1, q2, q3⟩
  · rw [q1, q2, if_neg (by decide), if_neg (by rw [(lit_nI _ : (2 : Int32) = nI 2), nI_eq' (by omega) (by omega)]; omega)]
  · rw [q1, q2, if_neg (by decide), if_neg (by rw [(lit_nI _ : (0 : Int32) = nI 0), nI_eq' (by omega) (by omega)]; omega)]
  · rw [q1, q2, if_neg (by decide), if_neg (by rw [(lit_nI _ : (1 : Int32) = nI 1), nI_eq' (by omega) (by omega)]; omega)]
  · rw [q1, q2, if_neg (by decide), if_neg (by rw [nI_eq' (by omega) (by omega)]; omega)]
  · rw [q1, q2, q3, if_pos rfl]
theorem tR.word {s v t w : Int32} (h : tR s v t w) {k : Nat} (hk : k < 29) {B : Mm} (e1 : B 217 13 = t) (e2 : B 217 14 = w) : fM_isWord (nI (wq k)) B = if s = nI (256 + k) then 1 else 0 := by
  unfold fM_isWord
  rw [e1, e2]
  have qk := (wq_fact hk).1
  rcases h with ⟨q1, q2⟩ | ⟨q1, q2⟩ | ⟨n, n1, q1, -, q2, -⟩ | ⟨j, j1, q1, q2, q3⟩ | ⟨d, d1, q1, q2, q3⟩
  · rw [q1, q2, if_neg (by decide), if_neg (by rw [(lit_nI _ : (2 : Int32) = nI 2), nI_eq' (by omega) (by omega)]; omega)]
  · rw [q1, q2, if_neg (by decide), if_neg (by rw [(lit_nI _ : (0 : Int32) = nI 0), nI_eq' (by omega) (by omega)]; omega)]
  · rw [q1, q2, if_neg (by decide), if_neg (by rw [(lit_nI _ : (1 : Int32) = nI 1), nI_eq' (by omega) (by omega)]; omega)]
  · have qj := (wq_fact j1).1
    rw [q1, q2, q3, if_pos rfl]
    by_cases e : j = k
    · subst e; rw [if_pos rfl, if_pos rfl]
    · rw [if_neg, if_neg (by rw [nI_eq' (by omega) (by omega)]; omega)]
      rw [nI_eq' (by omega) (by omega)]
      intro q
      have a := (wq_fact j1).2
      have c := (wq_fact hk).2
      rw [q, c] at a
      exact e a.symm
  · have := isSg_lt d1
    rw [q1, q2, if_neg (by decide), if_neg (by rw [nI_eq' (by omega) (by omega)]; omega)]
theorem tR.num {s v t w : Int32} (h : tR s v t w) : (s = 1 ∧ t = 3 ∧ ∃ n, n < 10000 ∧ v = nI n ∧ w = nI n) ∨ (s ≠ 1 ∧ t ≠ 3) := by
  rcases h with ⟨q1, q2⟩ | ⟨q1, q2⟩ | ⟨n, n1, q1, q3, q2, q4⟩ | ⟨j, j1, q1, q2, q3⟩ | ⟨d, d1, q1, q2, q3⟩
  · right; rw [q1, q2]; exact ⟨by decide, by decide⟩
  · right; rw [q1, q2]; exact ⟨by decide, by decide⟩
  · exact Or.inl ⟨q1, q2, n, n1, q3, q4⟩
  · right; rw [q1, q2, (lit_nI _ : (1 : Int32) = nI 1)]; exact ⟨fun q => by rw [nI_eq' (by omega) (by omega)] at q; omega, by decide⟩
  · right; have := isSg_lt d1; rw [q1, q2, (lit_nI _ : (1 : Int32) = nI 1)]; exact ⟨fun q => by rw [nI_eq' (by omega) (by omega)] at q; omega, by decide⟩
theorem sort_ok {A B : Mm} {b : Nat → Nat} {L i : Nat} (hL : L ≤ 400) (h : PS A B b L i) : fR_sort A = some (A 163 i) := by
  obtain ⟨t, -, -, a, f, hi⟩ := h
  have := cs_le b L
  refine Go.eq ?_
  unfold fR_sort
  rw [a, jix_nI (by omega)]
  refine Go.yes (f) ?_
  refine Go.no (by rw [t.1, nI_le' (by omega) (by omega)]; omega) ?_
  refine Go.gd ((inb_nI (by omega)).mpr (by omega)) ?_
  refine Go.some ?_
  rfl
theorem sort_bad {A : Mm} (h : ¬ A 146 1 = 0) : fR_sort A = some 0 := by
  refine Go.eq ?_
  unfold fR_sort
  refine Go.no (h) ?_
  refine Go.some ?_
  rfl
theorem blame_bad {A : Mm} (k : Int32) (h : ¬ A 146 1 = 0) : fR_blame k A = some A := by
  refine Go.eq ?_
  unfold fR_blame
  refine Go.no (h) ?_
  refine Go.some ?_
  rfl
theorem blame_ok {A B : Mm} {b : Nat → Nat} {L i : Nat} (k : Int32) (hL : L ≤ 400) (h : PS A B b L i) : fR_blame k A = some (mput (mput A 146 1 k) 146 2 (B 217 12)) := by
  have tk := (h.tok hL).2.1
  obtain ⟨t, -, -, a, f, hi⟩ := h
  have := cs_le b L
  refine Go.eq ?_
  unfold fR_blame
  have e4 : mput A 146 1 k 146 4 = nI i := by rw [mput_s (by omega)]; exact a
  have e0 : mput A 146 1 k 162 0 = nI (cs b L + 1) := by rw [mput_r (by omega)]; exact t.1
  dsimp only
  rw [e4, e0, jix_nI (by omega), mput_r (show 165 ≠ 146 by omega), tk]
  refine Go.yes (f) ?_
  refine go_bind.mpr ?_
  refine Go.no (by rw [nI_le' (by omega) (by omega)]; omega) ?_
  refine Go.gd ((inb_nI (by omega)).mpr (by omega)) ?_
  refine Go.some ?_
  refine Go.some ?_
  rfl
theorem PS.fr {A B A' B' : Mm} {b : Nat → Nat} {L i : Nat} (h : PS A B b L i) (a : ∀ c k, 162 ≤ c → c ≤ 165 → A' c k = A c k) (a4 : A' 146 4 = A 146 4) (a1 : A' 146 1 = A 146 1) (b1 : ∀ k, 10 ≤ k → k ≤ 14 → B' 217 k = B 217 k) (b2 : B' 223 = B 223) (b3 : B' 224 = B 224) (a2 : A' 146 2 = A 146 2 := by first | rfl | (rw [mput_r (by omega)]) | (rw [mput_r (by omega), mput_r (by omega)])) : PS A' B' b L i := by
  obtain ⟨⟨t1, t2, t3, t4, t5⟩, ⟨u1, u2, u3⟩, ct, e4, e1, hi⟩ := h
  refine ⟨⟨by rw [a 162 0 (by omega) (by omega)]; exact t1, fun p hp hs => ?_, by rw [a 163 _ (by omega) (by omega)]; exact t3, by rw [a 165 _ (by omega) (by omega)]; exact t4, by rw [a2]; exact t5⟩, ⟨by rw [b1 10 (by omega) (by omega)]; exact u1, by rw [b2]; exact u2, by rw [b3]; exact u3⟩, ?_, by rw [a4]; exact e4, by rw [a1]; exact e1, hi⟩
  · rw [a 165 _ (by omega) (by omega), a 163 _ (by omega) (by omega), a 164 _ (by omega) (by omega)]; exact t2 p hp hs
  · unfold CTk
    rw [b1 11 (by omega) (by omega), b1 12 (by omega) (by omega), b1 13 (by omega) (by omega), b1 14 (by omega) (by omega)]; exact ct
theorem PS.adv {A B : Mm} {b : Nat → Nat} {L i : Nat} (hL : L ≤ 400) (h : PS A B b L i) (hi : i < cs b L) : Go (fM_reads B) (fun B' => PS (mput A 146 4 (nI (i + 1))) B' b L (i + 1) ∧ rF B B') := by
  obtain ⟨t, u, ct, e4, e1, -⟩ := h
  rcases ct with ⟨p, p1, p2, rfl, p4, p5, p6⟩ | ⟨rfl, -⟩
  · refine (reads_go hL u (BD_next p1 p2) p6).mono fun B' hB => ⟨⟨?_, hB.2.tp u, hB.1, mput_same _ _ _ _, by rw [mput_s (by omega)]; exact e1, by omega⟩, hB.2⟩
    unfold TBL
    rw [mput_r (by omega), mput_r (by omega), mput_r (by omega), mput_r (by omega), mput_s (by omega)]; exact t
  · omega
end PmTok
