section PmWords
def wtab : List Nat := [111, 112, 101, 110, 115, 32, 103, 105, 118, 101, 115, 32, 116, 105, 114, 101, 115, 32, 119, 104, 101, 110, 32, 111, 114, 32, 97, 110, 100, 32, 110, 111, 116, 32, 107, 105, 110, 100, 32, 109, 117, 99, 104, 32, 97, 103, 101, 32, 102, 97, 99, 101, 32, 108, 111, 118, 101, 32, 112, 117, 114, 115, 101, 32, 104, 101, 97, 108, 116, 104, 32, 104, 117, 110, 103, 101, 114, 32, 104, 111, 117, 114, 32, 114, 97, 105, 110, 32, 100, 97, 121, 32, 111, 110, 32, 116, 111, 32, 110, 101, 119, 115, 32, 98, 105, 108, 108, 32, 107, 105, 115, 115, 32, 97, 110, 103, 101, 114, 32, 105, 110, 118, 105, 116, 97, 116, 105, 111, 110, 32, 116, 101, 120, 116, 32, 106, 111, 107, 101, 32, 119, 97, 108, 107, 32, 115, 116, 114, 101, 101, 116, 32]
def wbl : List Nat := [0, 6, 12, 18, 23, 26, 30, 34, 39, 44, 48, 53, 58, 64, 71, 78, 83, 88, 92, 95, 98, 103, 108, 113, 119, 130, 135, 140, 145, 152]
def wil : List Nat := [0, 0, 0, 0, 0, 0, 1, 1, 1, 1, 1, 1, 2, 2, 2, 2, 2, 2, 3, 3, 3, 3, 3, 4, 4, 4, 5, 5, 5, 5, 6, 6, 6, 6, 7, 7, 7, 7, 7, 8, 8, 8, 8, 8, 9, 9, 9, 9, 10, 10, 10, 10, 10, 11, 11, 11, 11, 11, 12, 12, 12, 12, 12, 12, 13, 13, 13, 13, 13, 13, 13, 14, 14, 14, 14, 14, 14, 14, 15, 15, 15, 15, 15, 16, 16, 16, 16, 16, 17, 17, 17, 17, 18, 18, 18, 19, 19, 19, 20, 20, 20, 20, 20, 21, 21, 21, 21, 21, 22, 22, 22, 22, 22, 23, 23, 23, 23, 23, 23, 24, 24, 24, 24, 24, 24, 24, 24, 24, 24, 24, 25, 25, 25, 25, 25, 26, 26, 26, 26, 26, 27, 27, 27, 27, 27, 28, 28, 28, 28, 28, 28, 28, 29]
/-- where word w begins, how long it is, which one lies at i -/
def wb (w : Nat) : Nat := wbl.getD w 0
def wl (w : Nat) : Nat := wb (w + 1) - wb w - 1
def wi (i : Nat) : Nat := wil.getD i 0
def wc (k : Nat) : Nat := wtab.getD k 0
theorem wi_fact {i : Nat} (h : i < 152) : wi i < 29 ∧ wb (wi i) ≤ i ∧ (wc i = 32 → i = wb (wi i) + wl (wi i) ∧ wi (i + 1) = wi i + 1 ∧ wb (wi i + 1) = i + 1) ∧ (wc i ≠ 32 → wi (i + 1) = wi i) := by
  have : ∀ i : Fin 152, wi i.val < 29 ∧ wb (wi i.val) ≤ i.val ∧ (wc i.val = 32 → i.val = wb (wi i.val) + wl (wi i.val) ∧ wi (i.val + 1) = wi i.val + 1 ∧ wb (wi i.val + 1) = i.val + 1) ∧ (wc i.val ≠ 32 → wi (i.val + 1) = wi i.val) := by decide +kernel
  exact this ⟨i, h⟩
theorem wb_fact {w : Nat} (h : w < 29) : wb w + wl w < 152 ∧ 1 ≤ wl w ∧ wl w ≤ 10 := by
  have : ∀ w : Fin 29, wb w.val + wl w.val < 152 ∧ 1 ≤ wl w.val ∧ wl w.val ≤ 10 := by decide +kernel
  exact this ⟨w, h⟩
theorem wc_lt {k : Nat} (h : k < 152) : wc k < 128 := by
  have : ∀ k : Fin 152, wc k.val < 128 := by decide +kernel
  exact this ⟨k, h⟩
/-- the bytes from p to e are word w -/
def wM (b : Nat → Nat) (p e w : Nat) : Prop := e = p + wl w ∧ ∀ j, j < wl w → b (p + j) = wc (wb w + j)
theorem wM_uniq {b : Nat → Nat} {p e w w' : Nat} (hw : w < 29) (hw' : w' < 29) (h : wM b p e w) (h' : wM b p e w') : w = w' := by
  have key : ∀ w w' : Fin 29, wl w.val = wl w'.val → (∀ j : Fin 10, j.val < wl w.val → wc (wb w.val + j.val) = wc (wb w'.val + j.val)) → w.val = w'.val := by decide +kernel
  refine key ⟨w, hw⟩ ⟨w', hw'⟩ ?_ ?_
  · have := h.1; have := h'.1; show wl w = wl w'; omega
  · intro j hj
    have e : wl w = wl w' := by have := h.1; have := h'.1; omega
    exact (h.2 j.val hj).symm.trans (h'.2 j.val (by have hj : j.val < wl w := hj; omega))
theorem jb_lo {v : Nat} (h : v < 128) : jbyte (nI v) = nI v := by
  have : ∀ v : Fin 128, jbyte (nI v.val) = nI v.val := by decide +kernel
  exact this ⟨v, h⟩
theorem jb_hi {v : Nat} (h : 128 ≤ v) (h2 : v < 256) : (jbyte (nI v)).toInt < 0 := by
  have : ∀ v : Fin 128, (jbyte (nI (128 + v.val))).toInt < 0 := by decide +kernel
  have := this ⟨v - 128, by omega⟩
  rwa [show 128 + (v - 128) = v by omega] at this
theorem jb_eq {v c : Nat} (h : v < 256) (hc : c < 128) : nI c = jbyte (nI v) ↔ v = c := by
  by_cases l : v < 128
  · rw [jb_lo l, nI_eq' (by omega) (by omega)]; exact ⟨Eq.symm, Eq.symm⟩
  · have := jb_hi (show 128 ≤ v by omega) h
    constructor
    · intro e
      rw [← e, nI_toInt' (by omega)] at this
      omega
    · intro e; omega
theorem sortOf_ind (x : Int32) (M M' : Mm) : fO_sortOf x M = fO_sortOf x M' := rfl
theorem sortOf_eq {v : Nat} (h : v < 256) (M : Mm) : fO_sortOf (jbyte (nI v)) M = some (nI (cl v)) := by
  rw [sortOf_ind _ M (fun _ _ => 0)]
  have : ∀ v : Fin 256, fO_sortOf (jbyte (nI v.val)) (fun _ _ => 0) = some (nI (cl v.val)) := by decide +kernel
  exact this ⟨v, h⟩
theorem charAt_ind (x : Int32) (M M' : Mm) : fJ_charAt_5068e_5 x M = fJ_charAt_5068e_5 x M' := rfl
theorem charAt_eq {k : Nat} (h : k < 152) (M : Mm) : fJ_charAt_5068e_5 (nI k) M = some (nI (wc k)) := by
  rw [charAt_ind _ M (fun _ _ => 0)]
  have : ∀ k : Fin 152, fJ_charAt_5068e_5 (nI k.val) (fun _ _ => 0) = some (nI (wc k.val)) := by decide +kernel
  exact this ⟨k, h⟩
theorem isWordAt_eq {A : Mm} {b : Nat → Nat} {p e w : Nat} (hw : w < 29) (hb : ∀ k, p ≤ k → k < e → A 178 k = jbyte (nI (b k)) ∧ b k < 256) (he : e ≤ 400) (hl : e = p + wl w) : Go (fO_isWordAt (nI (wb w)) (nI p) (nI e) A) (fun y => (y = 1 ∧ wM b p e w) ∨ (y = 0 ∧ ¬ wM b p e w)) := by
  obtain ⟨f1, f2, f3⟩ := wb_fact hw
  unfold fO_isWordAt
  refine Go.bind (P := fun r => (r = Sum.inr () ∧ wM b p e w) ∨ (r = Sum.inl () ∧ ¬ wM b p e w)) ?_ ?_
  rotate_left
  · rintro r (⟨rfl, h⟩ | ⟨rfl, h⟩)
    · refine Go.some ?_
      exact Or.inl ⟨rfl, h⟩
    · refine Go.some ?_
      exact Or.inr ⟨rfl, h⟩
  refine go_for (fun k s => s = nI k ∧ p ≤ k ∧ ∀ j, p + j < k → b (p + j) = wc (wb w + j)) e ?_ ?_ (i := p) (by omega) ⟨rfl, Nat.le_refl _, fun j hj => by omega⟩ (by omega)
  · rintro s ⟨rfl, h1, h2⟩
    unfold fO_isWordAt_b3
    exact Go.yes (i32_le.mpr (Int.le_refl _)) (Go.some (Or.inl ⟨rfl, hl, fun j hj => h2 j (by omega)⟩))
  · rintro k s hk ⟨rfl, h1, h2⟩
    unfold fO_isWordAt_b3
    have e1 : nI (wb w) + nI k - nI p = nI (wb w + (k - p)) := by rw [nI_add, nI_sub' (by omega)]; exact congrArg nI (by omega)
    obtain ⟨b1, b2⟩ := hb k h1 hk
    rw [e1, charAt_eq (by omega)]
    refine Go.no (by rw [nI_le' (by omega) (by omega)]; omega) ?_
    refine go_bind.mpr ?_
    refine Go.some ?_
    refine Go.gd ((inb_nI (by omega)).mpr (by omega)) ?_
    rw [jix_nI (by omega), b1, nI_1]
    refine Go.ite (fun q => Go.some ⟨rfl, by omega, fun j hj => ?_⟩) (fun q => Go.some (Or.inr ⟨rfl, fun m => q ?_⟩))
    · rw [jb_eq b2 (wc_lt (by omega))] at q
      by_cases e : p + j = k
      · rw [e, q, show k - p = j by omega]
      · exact h2 j (by omega)
    · have := m.2 (k - p) (by omega)
      rw [show p + (k - p) = k by omega] at this
      rw [jb_eq b2 (wc_lt (by omega))]; exact this
/-- what a word is, for the reader -/
def wR (b : Nat → Nat) (p e : Nat) (r : Int32) : Prop := (∃ w, w < 29 ∧ wM b p e w ∧ r = nI (256 + w)) ∨ ((∀ w, w < 29 → ¬ wM b p e w) ∧ r = 0)
theorem wordOf_eq {A : Mm} {b : Nat → Nat} {p e : Nat} (hp : p < e) (hb : ∀ k, p ≤ k → k < e → A 178 k = jbyte (nI (b k)) ∧ b k < 256) (he : e ≤ 400) : Go (fO_wordOf (nI p) (nI e) A) (fun y => wR b p e y) := by
  unfold fO_wordOf
  refine Go.bind (P := fun r => (∃ w, w < 29 ∧ wM b p e w ∧ r = Sum.inl (nI (256 + w))) ∨ ((∀ w, w < 29 → ¬ wM b p e w) ∧ r = Sum.inr ())) ?_ ?_
  rotate_left
  · rintro r (⟨w, h1, h2, rfl⟩ | ⟨h, rfl⟩)
    · refine Go.some ?_
      exact Or.inl ⟨w, h1, h2, rfl⟩
    · refine Go.some ?_
      exact Or.inr ⟨h, rfl⟩
  refine go_for (fun i s => s = (nI (256 + wi i), nI (wb (wi i)), nI i) ∧ ∀ w, w < wi i → ¬ wM b p e w) 152 ?_ ?_ (i := 0) (by omega) ⟨rfl, fun w hw => by have : w < 0 := hw; omega⟩ (by omega)
  · rintro s ⟨rfl, h⟩
    unfold fO_wordOf_b10
    exact Go.yes (by decide) (Go.some (Or.inr ⟨h, rfl⟩))
  · rintro i s hi ⟨rfl, h⟩
    unfold fO_wordOf_b10 fO_wordOf_j56 fO_wordOf_j65
    dsimp only
    obtain ⟨f1, f2, f3, f4⟩ := wi_fact hi
    have fw := wb_fact f1
    have c128 := wc_lt hi
    have ln : fJ_length_8abf5_5 = nI 152 := by decide
    rw [ln, charAt_eq hi, nI_1, nI_1]
    refine Go.no (by rw [nI_le' (by omega) (by omega)]; omega) ?_
    refine go_bind.mpr ?_
    refine Go.some ?_
    by_cases c : wc i = 32
    · obtain ⟨g1, g2, g3⟩ := f3 c
      have next : ¬ wM b p e (wi i) → ((nI (256 + wi i + 1), nI (i + 1), nI (i + 1)) : Int32 × Int32 × Int32) = (nI (256 + wi (i + 1)), nI (wb (wi (i + 1))), nI (i + 1)) ∧ ∀ w, w < wi (i + 1) → ¬ wM b p e w := fun q => by
        rw [g2, g3]
        refine ⟨rfl, fun w hw => ?_⟩
        by_cases z : w = wi i
        · rw [z]; exact q
        · exact h w (by omega)
      rw [nI_sub' f2, nI_sub' (by omega)]
      refine Go.yes (by rw [c]; rfl) ?_
      by_cases l : e - p = wl (wi i)
      · refine Go.yes (congrArg nI (by omega)) ?_
        refine go_bind.mpr ?_
        obtain ⟨y, y1, y2⟩ := isWordAt_eq (A := A) (b := b) f1 hb he (by omega)
        refine ⟨y, y1, ?_⟩
        rcases y2 with ⟨rfl, q⟩ | ⟨rfl, q⟩
        · refine Go.no (by decide) ?_
          refine Go.some ?_
          exact Or.inl ⟨wi i, f1, q, rfl⟩
        · refine Go.yes (rfl) ?_
          refine Go.some ?_
          exact next q
      · refine Go.no (by rw [nI_eq' (by omega) (by omega)]; omega) ?_
        refine Go.some ?_
        exact next (fun q => l (by have := q.1; omega))
    · refine Go.no (by rw [(lit_nI _ : (32 : Int32) = nI 32), nI_eq' (by omega) (by omega)]; exact c) ?_
      refine Go.some ?_
      rw [f4 c]
      exact ⟨rfl, h⟩
end PmWords
