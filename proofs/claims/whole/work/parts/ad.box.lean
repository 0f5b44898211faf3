section PmBox
def PQ (p q : Nat) : Prop := (p = q ∧ p ≤ 405504) ∨ (p = 1000000 ∧ q = 100000000)
theorem box_row {A B : Mm} {n a : Nat} (hn : n ≤ 12) (h6 : B 217 6 = nI n) (h : DE A B n 405504) (ha : a < n) : ∃ pq : Nat × Nat, PQ pq.1 pq.2 ∧ (∀ x1 x4 x5, lp 1000000 (fun s => fY_newBox_b28 x1 (nI n) x4 x5 (nI a) A s.1 s.2) (0, 0) = some (nI pq.1)) ∧ fM_farthestFrom (nI a) B = some (nI pq.2) := by
  have key : ∀ x1 x4 x5, Go (lp 1000000 (fun s => fY_newBox_b28 x1 (nI n) x4 x5 (nI a) A s.1 s.2) (0, 0)) (fun y => Go (lp 1000000 (fun s => fM_farthestFrom_b4 (nI a) B s.1 s.2) (0, 0)) (fun z => ∃ p q, PQ p q ∧ y = nI p ∧ z = nI q)) := by
    intro x1 x4 x5
    refine go_for2 (fun i s t => ∃ p q, PQ p q ∧ s = (nI p, nI i) ∧ t = (nI q, nI i)) n ?_ ?_ (i := 0) (by omega) ⟨0, 0, Or.inl ⟨rfl, by omega⟩, rfl, rfl⟩ (by omega)
    · rintro s t ⟨p, q, k, rfl, rfl⟩
      unfold fY_newBox_b28 fM_farthestFrom_b4
      dsimp only
      exact Go.yes (i32_le.mpr (Int.le_refl _)) (Go.some (Go.yes (by rw [h6]; exact i32_le.mpr (Int.le_refl _)) (Go.some ⟨p, q, k, rfl, rfl⟩)))
    · rintro i s t hi ⟨p, q, k, rfl, rfl⟩
      unfold fY_newBox_b28 fM_farthestFrom_b4
      dsimp only
      have j1 : jix (nI (12 * a + i)) = 12 * a + i := jix_nI (by omega)
      have hl : ¬ nI n ≤ nI i := by rw [nI_le' (by omega) (by omega)]; omega
      simp only [ix12, ix12', nI_1, j1, ← jmax_eq]
      refine Go.no (hl) ?_
      refine Go.gd ((inb_nI (by omega)).mpr (by omega)) ?_
      refine Go.some ?_
      refine Go.no (by rw [h6]; exact hl) ?_
      refine Go.gd ((inb_nI (by omega)).mpr (by omega)) ?_
      refine Go.some ?_
      rcases k with ⟨k1, k2⟩ | ⟨k1, k2⟩ <;> rcases h.1 a i ha hi with ⟨d, d1, d2, d3⟩ | ⟨d2, d3⟩ <;> rw [d2, d3] <;> rw [jmax_nI (by omega) (by omega), jmax_nI (by omega) (by omega)] <;> refine ⟨_, _, ?_, rfl, rfl⟩ <;> unfold PQ <;> omega
  obtain ⟨y, y1, z, z1, p, q, k, rfl, rfl⟩ := key 0 0 0
  refine ⟨(p, q), k, fun x1 x4 x5 => y1, ?_⟩
  unfold fM_farthestFrom
  rw [z1]; rfl
/-- the first least among those below i -/
def FL (f : Nat → Nat) (i c : Nat) : Prop := c < i ∧ ∀ a, a < i → f c ≤ f a ∧ (a < c → f c < f a)
theorem FL.step {f : Nat → Nat} {i c : Nat} (h : FL f i c) : FL f (i + 1) (if f c ≤ f i then c else i) := by
  obtain ⟨h1, h2⟩ := h
  split
  · rename_i e
    refine ⟨by omega, fun a ha => ?_⟩
    by_cases k : a = i
    · subst k; exact ⟨e, fun q => by omega⟩
    · exact h2 a (by omega)
  · rename_i e
    refine ⟨by omega, fun a ha => ?_⟩
    by_cases k : a = i
    · subst k; exact ⟨Nat.le_refl _, fun q => by omega⟩
    · have := (h2 a (by omega)).1
      exact ⟨by omega, fun q => by omega⟩
theorem FL.uniq {f : Nat → Nat} {i c d : Nat} (h : FL f i c) (k : FL f i d) : c = d := by
  have a1 := h.2 d k.1
  have a2 := k.2 c h.1
  rcases Nat.lt_trichotomy c d with q | q | q
  · have := a2.2 q; omega
  · exact q
  · have := a1.2 q; omega
theorem box_K {A : Mm} {n : Nat} {w : Nat → Nat} (x1 : Int32) (hn : n ≤ 12) (h0 : 0 < n) (hw : ∀ a, a < n → w a ≤ 1000000 ∧ ∀ x4 x5, lp 1000000 (fun s => fY_newBox_b28 x1 (nI n) x4 x5 (nI a) A s.1 s.2) (0, 0) = some (nI (w a))) :
    Go (lp 1000000 (fun s => fY_newBox_b16 x1 (nI n) A s.1 s.2.1 s.2.2) (1000000, (-1), 0)) (fun e => ∃ c, FL w n c ∧ e = (nI (w c), if w c = 1000000 then -1 else nI c)) := by
  refine go_for (fun i s => (i = 0 ∧ s = (1000000, (-1), 0)) ∨ ∃ c, FL w i c ∧ s = (nI (w c), (if w c = 1000000 then -1 else nI c), nI i)) n ?_ ?_ (i := 0) (by omega) (Or.inl ⟨rfl, rfl⟩) (by omega)
  · rintro s (⟨h, -⟩ | ⟨c, h, rfl⟩)
    · omega
    unfold fY_newBox_b16
    dsimp only
    exact Go.yes (i32_le.mpr (Int.le_refl _)) (Go.some ⟨c, h, rfl⟩)
  · rintro i s hi (⟨rfl, rfl⟩ | ⟨c, h, rfl⟩)
    · unfold fY_newBox_b16
      dsimp only
      obtain ⟨w1, w2⟩ := hw 0 hi
      refine Go.no (by rw [← nI_zero, nI_le' (by omega) (by omega)]; omega) ?_
      refine go_bind.mpr ?_
      refine ⟨nI (w 0), w2 1000000 (-1), ?_⟩
      refine Go.some ?_
      refine Or.inr ⟨0, ⟨by omega, fun a ha => ⟨by have : a = 0 := by omega
                                                   subst this; exact Nat.le_refl _, fun q => by omega⟩⟩, ?_⟩
      rw [lit_nI 1000000]
      simp only [nI_le' (show 1000000 < 2147483648 by omega) (show w 0 < 2147483648 by omega)]
      by_cases e : w 0 = 1000000
      · rw [e]; rfl
      · rw [if_neg (by omega), if_neg (by omega), if_neg e]; rfl
    · unfold fY_newBox_b16
      dsimp only
      obtain ⟨w1, w2⟩ := hw i hi
      have hc := (hw c (by have := h.1; omega)).1
      refine Go.no (by rw [nI_le' (by omega) (by omega)]; omega) ?_
      refine go_bind.mpr ?_
      rw [w2]
      refine Go.some ?_
      refine Go.some ?_
      refine Or.inr ⟨_, h.step, ?_⟩
      simp only [nI_le' (show w c < 2147483648 by omega) (show w i < 2147483648 by omega), nI_1]
      by_cases e : w c ≤ w i
      · simp only [if_pos e]
      · simp only [if_neg e]
        rw [if_neg (show ¬ w i = 1000000 by omega)]
theorem box_M {B : Mm} {n : Nat} {w : Nat → Nat} (x1 : Int32) (hn : n ≤ 12) (h0 : 0 < n) (h6 : B 217 6 = nI n) (hw : ∀ a, a < n → w a ≤ 100000000 ∧ fM_farthestFrom (nI a) B = some (nI (w a))) :
    Go (lp 1000000 (fun s => fM_box_b32 x1 B s.1 s.2) (0, 1)) (fun e => ∃ c, FL w n c ∧ e = nI c) := by
  have f1 : FL w 1 0 := ⟨by omega, fun a ha => by
    have : a = 0 := by omega
    subst this; exact ⟨Nat.le_refl _, fun q => by omega⟩⟩
  refine go_for (fun i s => ∃ c, FL w i c ∧ s = (nI c, nI i)) n ?_ ?_ (i := 1) (by omega) ⟨0, f1, rfl⟩ (by omega)
  · rintro s ⟨c, h, rfl⟩
    unfold fM_box_b32
    dsimp only
    exact Go.yes (by rw [h6]; exact i32_le.mpr (Int.le_refl _)) (Go.some ⟨c, h, rfl⟩)
  · rintro i s hi ⟨c, h, rfl⟩
    unfold fM_box_b32
    dsimp only
    obtain ⟨w1, w2⟩ := hw i hi
    obtain ⟨c1, c2⟩ := hw c (by have := h.1; omega)
    refine Go.no (by rw [h6, nI_le' (by omega) (by omega)]; omega) ?_
    refine go_bind.mpr ?_
    rw [w2]
    refine Go.some ?_
    refine go_bind.mpr ?_
    rw [c2]
    refine Go.some ?_
    refine Go.some ?_
    refine ⟨_, h.step, ?_⟩
    simp only [nI_le' (show w c < 2147483648 by omega) (show w i < 2147483648 by omega), nI_1]
    by_cases e : w c ≤ w i
    · simp only [if_pos e]
    · simp only [if_neg e]
theorem sim_box {A B : Mm} (x : Int32) (h : RR A B) : Sim A B (fK_box x A) (fM_box x B) := by
  have h0 := h
  obtain ⟨⟨n, ⟨⟨_, _, _, ⟨hn, hA, -⟩, -, -⟩, h6, -⟩, -⟩, ⟨-, -, -, ⟨-, hst⟩⟩, -⟩ := h0
  have hA : A 2 0 = nI n := hA
  have h6' : mput B 217 0 0 217 6 = nI n := by rw [mput_s (by omega)]; exact h6
  unfold Sim fK_box fM_box
  simp only [isIn_eq]
  by_cases n0 : n = 0
  · refine Go.yes (by rw [hA, n0]; rfl) ?_
    refine Go.some ?_
    refine Go.yes (by rw [h6', n0]; rfl) ?_
    refine Go.some ?_
    exact ⟨rfl, fin_0 h⟩
  have z1 : ¬ A 2 0 = 0 := by rw [hA, ← nI_zero, nI_eq' (by omega) (by omega)]; exact n0
  have z2 : ¬ mput B 217 0 0 217 6 = 0 := by rw [h6', ← nI_zero, nI_eq' (by omega) (by omega)]; exact n0
  rcases within_nI1 x (a := 0) (b := 1) (by omega) (by omega) with ⟨q, k, -, k1, rfl⟩ | ⟨q, q1⟩
  rotate_left
  · have q : fK_isWithin x 0 1 = 0 := q
    refine Go.no (z1) ?_
    refine Go.yes (q) ?_
    refine Go.some ?_
    refine Go.no (z2) ?_
    refine Go.yes (q) ?_
    refine Go.some ?_
    exact ⟨rfl, fin_0 h⟩
  have q : fK_isWithin (nI k) 0 1 = 1 := q
  obtain ⟨A1, y1, B1, y2, y3, y4⟩ := ways_go (A := A) (B := mput B 217 0 0) hn h6' (fun j hj => by rw [mput_r (by omega)]; exact hst j hj)
  have h61 : B1 217 6 = nI n := by rw [y4.2 217 (by omega)]; exact h6'
  have fr : RR A1 B1 ∧ KF A A1 ∧ MF B B1 ∧ CNs B B1 := by
    refine fin_r h (fun c j e => ?_) (fun c j e => ?_)
    · by_cases ec : c = 174
      · subst ec; exact absurd e (by rw [show aR 174 j = false from rfl]; decide)
      · rw [y4.1 c ec]
    · by_cases ec : c = 238
      · subst ec; exact absurd e (by rw [show bR 238 j = false from rfl]; decide)
      · rw [y4.2 c ec]
        exact fb_put (fb_rfl bR B) (rfl : bR 217 0 = false) c j e
  obtain ⟨f, hf⟩ := Classical.axiomOfChoice (r := fun a (pq : Nat × Nat) => a < n → PQ pq.1 pq.2 ∧ (∀ x1 x4 x5, lp 1000000 (fun s => fY_newBox_b28 x1 (nI n) x4 x5 (nI a) A1 s.1 s.2) (0, 0) = some (nI pq.1)) ∧ fM_farthestFrom (nI a) B1 = some (nI pq.2)) (fun a => by
    by_cases e : a < n
    · obtain ⟨pq, hpq⟩ := box_row hn h61 y3 e
      exact ⟨pq, fun _ => hpq⟩
    · exact ⟨(0, 0), fun e' => absurd e' e⟩)
  obtain ⟨r, r1, c, hc, rfl⟩ := box_K (A := A1) (w := fun a => (f a).1) (if nI k = 1 then (1 : Int32) else 0) hn (by omega) (fun a ha => ⟨by have := (hf a ha).1; unfold PQ at this; omega, (hf a ha).2.1 _⟩)
  obtain ⟨r', r1', d, hd, rfl⟩ := box_M (B := B1) (w := fun a => (f a).2) (nI k) hn (by omega) h61 (fun a ha => ⟨by have := (hf a ha).1; unfold PQ at this; omega, (hf a ha).2.2⟩)
  have hcd : c = d := by
    refine FL.uniq hc ⟨hd.1, fun a ha => ?_⟩
    have p1 := (hf a ha).1
    have p2 := (hf d hd.1).1
    have p3 := hd.2 a ha
    dsimp only at p3 ⊢
    unfold PQ at p1 p2
    exact ⟨by omega, fun q => by have := p3.2 q; omega⟩
  subst hcd
  have pc := (hf c hc.1).1
  have fc := (hf c hc.1).2.2
  unfold fY_newBox
  refine Go.no (z1) ?_
  refine Go.no (by rw [q]; decide) ?_
  refine go_bind.mpr ?_
  refine go_bind.mpr ?_
  rw [hA]
  rw [y1]
  refine Go.some ?_
  refine go_bind.mpr ?_
  rw [r1]
  refine Go.some ?_
  unfold PQ at pc
  by_cases big : (f c).1 = 1000000
  · have hk : k = 0 ∨ k = 1 := by omega
    have b2 : ¬ nI (f c).2 < 100000000 := by rw [lit_nI, nI_lt' (by omega) (by omega)]; omega
    rcases hk with rfl | rfl
    · refine Go.yes (by first | rfl | (simp; done)) ?_
      refine Go.some ?_
      refine Go.some ?_
      refine Go.no (z2) ?_
      refine Go.no (by rw [q]; decide) ?_
      refine go_bind.mpr ?_
      rw [y2]
      refine Go.some ?_
      refine go_bind.mpr ?_
      rw [r1']
      refine Go.some ?_
      refine go_bind.mpr ?_
      rw [fc]
      refine Go.some ?_
      refine Go.no (b2) ?_
      refine Go.some ?_
      exact ⟨if_pos big, fr⟩
    · refine Go.no (by first | decide | (simp; done)) ?_
      refine Go.yes (if_pos big) ?_
      refine Go.some ?_
      refine Go.some ?_
      refine Go.no (z2) ?_
      refine Go.no (by rw [q]; decide) ?_
      refine go_bind.mpr ?_
      rw [y2]
      refine Go.some ?_
      refine go_bind.mpr ?_
      rw [r1']
      refine Go.some ?_
      refine go_bind.mpr ?_
      rw [fc]
      refine Go.some ?_
      refine Go.no (b2) ?_
      refine Go.some ?_
      exact ⟨if_pos big, fr⟩
  · have hk : k = 0 ∨ k = 1 := by omega
    have b2 : nI (f c).2 < 100000000 := by rw [lit_nI, nI_lt' (by omega) (by omega)]; omega
    have hc12 := hc.1
    simp only [if_neg big]
    rcases hk with rfl | rfl
    · refine Go.yes (by first | rfl | (simp; done)) ?_
      refine Go.some ?_
      refine Go.some ?_
      refine Go.no (z2) ?_
      refine Go.no (by rw [q]; decide) ?_
      refine go_bind.mpr ?_
      rw [y2]
      refine Go.some ?_
      refine go_bind.mpr ?_
      rw [r1']
      refine Go.some ?_
      refine go_bind.mpr ?_
      rw [fc]
      refine Go.some ?_
      refine Go.yes (b2) ?_
      refine Go.yes (by first | rfl | (simp; done)) ?_
      refine Go.some ?_
      exact ⟨rfl, fr⟩
    · refine Go.no (by first | decide | (simp; done)) ?_
      refine Go.no (nI_neg1 (by omega)) ?_
      refine Go.some ?_
      refine Go.some ?_
      refine Go.no (z2) ?_
      refine Go.no (by rw [q]; decide) ?_
      refine go_bind.mpr ?_
      rw [y2]
      refine Go.some ?_
      refine go_bind.mpr ?_
      rw [r1']
      refine Go.some ?_
      refine go_bind.mpr ?_
      rw [fc]
      refine Go.some ?_
      refine Go.yes (b2) ?_
      refine Go.no (by first | decide | (simp; done)) ?_
      refine go_bind.mpr ?_
      refine Go.some ?_
      refine Go.some ?_
      refine ⟨?_, fr⟩
      rw [show (f c).1 = (f c).2 by omega]
end PmBox
