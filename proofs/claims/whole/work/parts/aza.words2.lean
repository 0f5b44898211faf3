section PmWords2
def mtab : List Nat := [32, 111, 112, 101, 110, 115, 32, 103, 105, 118, 101, 115, 32, 116, 105, 114, 101, 115, 32, 119, 104, 101, 110, 32, 111, 114, 32, 97, 110, 100, 32, 110, 111, 116, 32, 107, 105, 110, 100, 32, 109, 117, 99, 104, 32, 97, 103, 101, 32, 102, 97, 99, 101, 32, 108, 111, 118, 101, 32, 112, 117, 114, 115, 101, 32, 104, 101, 97, 108, 116, 104, 32, 104, 117, 110, 103, 101, 114, 32, 104, 111, 117, 114, 32, 114, 97, 105, 110, 32, 100, 97, 121, 32, 111, 110, 32, 116, 111, 32, 119, 97, 108, 107, 32, 115, 116, 114, 101, 101, 116, 32, 110, 101, 119, 115, 32, 98, 105, 108, 108, 32, 107, 105, 115, 115, 32, 97, 110, 103, 101, 114, 32, 105, 110, 118, 105, 116, 97, 116, 105, 111, 110, 32, 116, 101, 120, 116, 32, 106, 111, 107, 101, 32]
def mkl : List Nat := [0, 6, 12, 18, 23, 26, 30, 34, 39, 44, 48, 53, 58, 64, 71, 78, 83, 88, 92, 95, 98, 103, 110, 115, 120, 125, 131, 142, 147, 152]
def wql : List Nat := [0, 1, 2, 3, 4, 5, 6, 7, 8, 9, 10, 11, 12, 13, 14, 15, 16, 17, 18, 19, 22, 23, 24, 25, 26, 27, 28, 20, 21]
def wvl : List Nat := [0, 1, 2, 3, 4, 5, 6, 7, 8, 9, 10, 11, 12, 13, 14, 15, 16, 17, 18, 19, 27, 28, 20, 21, 22, 23, 24, 25, 26]
/-- the model's words: where the blank before word m lies, its length; its number of the reader's word w, and back -/
def mc (k : Nat) : Nat := mtab.getD k 0
def mk (m : Nat) : Nat := mkl.getD m 0
def ml (m : Nat) : Nat := mk (m + 1) - mk m - 1
def wq (w : Nat) : Nat := wql.getD w 0
def wv (m : Nat) : Nat := wvl.getD m 0
theorem mk_fact {m : Nat} (h : m < 29) : mk (m + 1) = mk m + 1 + ml m ∧ mk (m + 1) ≤ 152 ∧ mc (mk m + 1 + ml m) = 32 ∧ ml m ≤ 10 ∧ wv m < 29 ∧ wl (wv m) = ml m ∧ wq (wv m) = m := by
  have : ∀ m : Fin 29, mk (m.val + 1) = mk m.val + 1 + ml m.val ∧ mk (m.val + 1) ≤ 152 ∧ mc (mk m.val + 1 + ml m.val) = 32 ∧ ml m.val ≤ 10 ∧ wv m.val < 29 ∧ wl (wv m.val) = ml m.val ∧ wq (wv m.val) = m.val := by decide +kernel
  exact this ⟨m, h⟩
theorem mc_fact {m j : Nat} (h : m < 29) (hj : j < ml m) : mc (mk m + 1 + j) ≠ 32 ∧ wc (wb (wv m) + j) = mc (mk m + 1 + j) := by
  have : ∀ m : Fin 29, ∀ j : Fin 10, j.val < ml m.val → mc (mk m.val + 1 + j.val) ≠ 32 ∧ wc (wb (wv m.val) + j.val) = mc (mk m.val + 1 + j.val) := by decide +kernel
  exact this ⟨m, h⟩ ⟨j, by have := (mk_fact h).2.2.2.1; omega⟩ hj
theorem wq_fact {w : Nat} (h : w < 29) : wq w < 29 ∧ wv (wq w) = w := by
  have : ∀ w : Fin 29, wq w.val < 29 ∧ wv (wq w.val) = w.val := by decide +kernel
  exact this ⟨w, h⟩
theorem mWords_eq {k : Nat} (h : k < 153) : mWords.getD k 0 = nI (mc k) ∧ mc k < 128 := by
  have : ∀ k : Fin 153, mWords.getD k.val 0 = nI (mc k.val) ∧ mc k.val < 128 := by decide +kernel
  exact this ⟨k, h⟩
/-- the model's tape -/
def TPm (B : Mm) (b : Nat → Nat) (L : Nat) : Prop := B 217 10 = nI L ∧ (∀ k, k < L → B 223 k = nI (b k) ∧ b k < 256) ∧ ∀ k, k < 153 → B 224 k = nI (mc k)
/-- what a word is, for the model -/
def wS (b : Nat → Nat) (p e : Nat) (r : Int32) : Prop := (∃ w, w < 29 ∧ wM b p e w ∧ r = nI (wq w)) ∨ ((∀ w, w < 29 → ¬ wM b p e w) ∧ r = -1)
theorem wM_m {b : Nat → Nat} {p e m : Nat} (h : m < 29) : wM b p e (wv m) ↔ (e = p + ml m ∧ ∀ j, j < ml m → b (p + j) = mc (mk m + 1 + j)) := by
  obtain ⟨-, -, -, -, -, f, -⟩ := mk_fact h
  unfold wM
  rw [f]
  exact ⟨fun q => ⟨q.1, fun j hj => (q.2 j hj).trans (mc_fact h hj).2⟩, fun q => ⟨q.1, fun j hj => (q.2 j hj).trans (mc_fact h hj).2.symm⟩⟩
theorem cl_4 {v : Nat} (h : cl v = 4) : v ≠ 32 := by
  rintro rfl
  exact absurd h (by decide)
theorem wordAt_eq {B : Mm} {b : Nat → Nat} {p e L : Nat} (hp : p < e) (he : e ≤ L) (hL : L ≤ 400) (hT : TPm B b L) (hl : ∀ k, p ≤ k → k < e → cl (b k) = 4) : Go (fM_wordAt (nI p) (nI e) B) (fun y => wS b p e y) := by
  obtain ⟨-, hb, hw⟩ := hT
  unfold fM_wordAt
  refine Go.bind (P := fun r => (∃ m, m < 29 ∧ wM b p e (wv m) ∧ r = Sum.inl (nI m)) ∨ ((∀ m, m < 29 → ¬ wM b p e (wv m)) ∧ r = Sum.inr ())) ?_ ?_
  rotate_left
  · rintro r (⟨m, h1, h2, rfl⟩ | ⟨h, rfl⟩)
    · refine Go.some ?_
      have f := mk_fact h1
      exact Or.inl ⟨wv m, f.2.2.2.2.1, h2, by rw [f.2.2.2.2.2.2]⟩
    · refine Go.some ?_
      refine Or.inr ⟨fun w hw q => ?_, rfl⟩
      have f := wq_fact hw
      exact h (wq w) f.1 (by rw [f.2]; exact q)
  refine go_for (fun m s => s = (nI m + (-1), nI (mk m)) ∧ ∀ m', m' < m → ¬ wM b p e (wv m')) 29 ?_ ?_ (i := 0) (by omega) ⟨rfl, fun m hm => by omega⟩ (by omega)
  · rintro s ⟨rfl, h⟩
    unfold fM_wordAt_b5
    exact Go.yes (by decide) (Go.some (Or.inr ⟨h, rfl⟩))
  · rintro m s hm ⟨rfl, h⟩
    unfold fM_wordAt_b5 fM_wordAt_j88
    dsimp only
    obtain ⟨f1, f2, f3, f4, f5, f6, f7⟩ := mk_fact hm
    have e1 : nI m + (-1) + 1 = nI m := by rw [Int32.add_assoc]; exact Int32.add_zero _
    rw [e1]
    refine Go.no (by rw [(lit_nI _ : (152 : Int32) = nI 152), nI_le' (by omega) (by omega)]; omega) ?_
    refine go_bind.mpr ?_
    have inner : Go (lp 1000000 (fun s => fM_wordAt_b20 (nI p) (nI e) (nI m) (nI (mk m)) B s) 0) (fun y => ∃ i, y = nI i ∧ i ≤ ml m ∧ p + i ≤ e ∧ (∀ j, j < i → b (p + j) = mc (mk m + 1 + j)) ∧ (p + i = e ∨ b (p + i) ≠ mc (mk m + 1 + i))) := by
      refine go_lp (fun q s => ∃ i, q = e - (p + i) ∧ s = nI i ∧ i ≤ ml m ∧ p + i ≤ e ∧ ∀ j, j < i → b (p + j) = mc (mk m + 1 + j)) ?_ _ (e - (p + 0)) _ (by omega) ⟨0, rfl, rfl, by omega, by omega, fun j hj => by omega⟩
      rintro q s ⟨i, rfl, rfl, i1, i2, i3⟩
      unfold fM_wordAt_b20
      rw [nI_add, nI_1, nI_add, nI_1]
      by_cases z : p + i = e
      · exact Go.yes (by rw [nI_le' (by omega) (by omega)]; omega) (Go.some ⟨i, rfl, i1, i2, i3, Or.inl z⟩)
      · refine Go.no (by rw [nI_le' (by omega) (by omega)]; omega) ?_
        refine Go.gd ((inb_nI (by omega)).mpr (by omega)) ?_
        refine Go.gd ((inb_nI (by omega)).mpr (by omega)) ?_
        rw [jix_nI (by omega), jix_nI (by omega), hw _ (by omega), (hb (p + i) (by omega)).1]
        have c8 := (mWords_eq (show mk m + 1 + i < 153 by omega)).2
        have b8 := (hb (p + i) (by omega)).2
        refine Go.ite (fun q => Go.some ?_) (fun q => Go.some ⟨i, rfl, i1, i2, i3, Or.inr fun k => q ?_⟩)
        · rw [nI_eq' (by omega) (by omega)] at q
          have ne := cl_4 (hl (p + i) (by omega) (by omega))
          have lt : i < ml m := by
            refine Classical.byContradiction fun k => ne ?_
            rw [← q, show i = ml m by omega]; exact f3
          refine ⟨e - (p + (i + 1)), by omega, i + 1, rfl, rfl, by omega, by omega, fun j hj => ?_⟩
          by_cases w : j = i
          · subst w; exact q.symm
          · exact i3 j (by omega)
        · rw [k]
    obtain ⟨y, y1, i, rfl, i1, i2, i3, i4⟩ := inner
    refine ⟨_, y1, ?_⟩
    have skip : ∀ {x3 : Int32}, lp 1000000 (fun s => fM_wordAt_b94 (nI p) (nI e) x3 B s) (nI (mk m) + 1) = some (nI (mk (m + 1))) := by
      intro x3
      refine Go.eq ?_
      rw [nI_1]
      refine go_lp (fun q s => ∃ j, q = ml m - j ∧ j ≤ ml m ∧ s = nI (mk m + 1 + j)) ?_ _ (ml m - 0) _ (by omega) ⟨0, rfl, by omega, rfl⟩
      rintro q s ⟨j, rfl, j1, rfl⟩
      unfold fM_wordAt_b94
      have c8 := (mWords_eq (show mk m + 1 + j < 153 by omega)).2
      refine Go.gd ((inb_nI (by omega)).mpr (by omega)) ?_
      rw [jix_nI (by omega), hw _ (by omega), nI_1]
      by_cases z : j = ml m
      · subst z
        refine Go.yes (by rw [f3]; rfl) ?_
        refine Go.some ?_
        exact congrArg nI (by omega)
      · have := (mc_fact hm (show j < ml m by omega)).1
        refine Go.no (by rw [(lit_nI _ : (32 : Int32) = nI 32), nI_eq' (by omega) (by omega)]; exact this) ?_
        refine Go.some ?_
        exact ⟨ml m - (j + 1), by omega, j + 1, rfl, by omega, rfl⟩
    have next : ¬ wM b p e (wv m) → ((nI m, nI (mk (m + 1))) : Int32 × Int32) = (nI (m + 1) + (-1), nI (mk (m + 1))) ∧ ∀ m', m' < m + 1 → ¬ wM b p e (wv m') := fun q => by
      refine ⟨by rw [nI_dec (by omega)]; rfl, fun m' hm' => ?_⟩
      by_cases z : m' = m
      · subst z; exact q
      · exact h m' (by omega)
    dsimp only
    rw [nI_add]
    by_cases z : p + i = e
    · have e2 : nI (mk m) + 1 + nI i = nI (mk m + 1 + i) := by rw [nI_1, nI_add]
      have c8 := (mWords_eq (show mk m + 1 + i < 153 by omega)).2
      refine Go.yes (by rw [z]) ?_
      rw [e2]
      refine Go.gd ((inb_nI (by omega)).mpr (by omega)) ?_
      rw [jix_nI (by omega), hw _ (by omega)]
      by_cases w : mc (mk m + 1 + i) = 32
      · refine Go.yes (by rw [w]; rfl) ?_
        refine Go.some ?_
        have ei : i = ml m := by
          refine Classical.byContradiction fun k => (mc_fact hm (show i < ml m by omega)).1 w
        exact Or.inl ⟨m, hm, (wM_m hm).mpr ⟨by omega, fun j hj => i3 j (by omega)⟩, rfl⟩
      · refine Go.no (by rw [(lit_nI _ : (32 : Int32) = nI 32), nI_eq' (by omega) (by omega)]; exact w) ?_
        refine go_bind.mpr ?_
        rw [skip]
        refine Go.some ?_
        refine Go.some ?_
        refine next fun q => w ?_
        have := ((wM_m hm).mp q).1
        rw [show i = ml m by omega]; exact f3
    · refine Go.no (by rw [nI_eq' (by omega) (by omega)]; exact z) ?_
      refine go_bind.mpr ?_
      rw [skip]
      refine Go.some ?_
      refine Go.some ?_
      refine next fun q => ?_
      obtain ⟨q1, q2⟩ := (wM_m hm).mp q
      rcases i4 with k | k
      · exact z k
      · exact k (q2 i (by omega))
end PmWords2
