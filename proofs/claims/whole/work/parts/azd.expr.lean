section PmExpr
theorem go_lp2x {α β α' β' : Type} {f : α → Option (α ⊕ β)} {g : α' → Option (α' ⊕ β')} {Q : β → β' → Prop} (I : Nat → α → α' → Prop)
    (hb : ∀ k s t, I k s t → Go (f s) (fun r => Go (g t) (fun r' => match r, r' with | .inl s', .inl t' => ∃ k', k' < k ∧ I k' s' t' | .inr y, .inr y' => Q y y' | .inl s', .inr y' => ∀ n, 0 < n → Go (lp n f s') (fun y => Q y y') | _, _ => False))) :
    ∀ (n k : Nat) (s : α) (t : α'), k + 1 < n → I k s t → Go (lp n f s) (fun y => Go (lp n g t) (fun y' => Q y y')) := by
  intro n
  induction n with
  | zero => intro k s t h; omega
  | succ n ih =>
    intro k s t hk hI
    obtain ⟨r, e, r', e', q⟩ := hb k s t hI
    unfold lp
    rw [e]
    cases r with
    | inl s' =>
      cases r' with
      | inl t' =>
        obtain ⟨k', h1, h2⟩ := q
        rw [e']
        exact ih k' s' t' (by omega) h2
      | inr y' =>
        rw [e']
        exact (q n (by omega)).mono fun y hy => ⟨y', rfl, hy⟩
    | inr y =>
      cases r' with
      | inl t' => exact q.elim
      | inr y' => rw [e']; exact ⟨y, rfl, y', rfl, q⟩
def eF (A A' : Mm) : Prop := ∀ c k, ¬ ((c = 146 ∧ (k = 1 ∨ k = 2 ∨ k = 4)) ∨ (c = 148 ∧ k = 1) ∨ c = 153) → A' c k = A c k
def mF (B B' : Mm) : Prop := ∀ c k, ¬ ((c = 217 ∧ ((11 ≤ k ∧ k ≤ 14) ∨ k = 24 ∨ k = 28 ∨ k = 29)) ∨ ((c = 230 ∨ c = 231) ∧ 800 ≤ k)) → B' c k = B c k
theorem eF.rfl' (A : Mm) : eF A A := fun _ _ _ => rfl
theorem mF.rfl' (B : Mm) : mF B B := fun _ _ _ => rfl
theorem eF.trans {A A1 A2 : Mm} (h : eF A A1) (k : eF A1 A2) : eF A A2 := fun c j q => by rw [k c j q, h c j q]
theorem mF.trans {B B1 B2 : Mm} (h : mF B B1) (k : mF B1 B2) : mF B B2 := fun c j q => by rw [k c j q, h c j q]
theorem eF.put {A A' : Mm} {a k : Nat} {v : Int32} (h : eF A A') (q : (a = 146 ∧ (k = 1 ∨ k = 2 ∨ k = 4)) ∨ (a = 148 ∧ k = 1) ∨ a = 153) : eF A (mput A' a k v) := fun c j z => by
  rw [mput_q (fun w => z (by rw [w.1, w.2]; exact q))]; exact h c j z
theorem mF.put {B B' : Mm} {a k : Nat} {v : Int32} (h : mF B B') (q : (a = 217 ∧ ((11 ≤ k ∧ k ≤ 14) ∨ k = 24 ∨ k = 28 ∨ k = 29)) ∨ ((a = 230 ∨ a = 231) ∧ 800 ≤ k)) : mF B (mput B' a k v) := fun c j z => by
  rw [mput_q (fun w => z (by rw [w.1, w.2]; exact q))]; exact h c j z
theorem rF.m {B B' : Mm} (h : rF B B') : mF B B' := fun c k q => h c k (by omega)
/-- the steps and codes so far -/
def ED (A B : Mm) (n : Nat) : Prop := A 148 1 = nI n ∧ B 217 24 = nI n ∧ n ≤ 400 ∧ ∀ k, k < n → Enc (A 153 k) (B 230 (800 + k)) (B 231 (800 + k))
/-- where the codes of this part begin, and those before -/
abbrev FG : Type := Nat × (Nat → Int32 × Int32)
def TY (B : Mm) (f : FG) (n : Nat) (σ : List Nat) : Prop := f.1 ≤ n ∧ Trn (fun k => B 230 (800 + k)) (fun k => B 231 (800 + k)) f.1 (n - f.1) [] σ ∧ ∀ k, k < f.1 → B 230 (800 + k) = (f.2 k).1 ∧ B 231 (800 + k) = (f.2 k).2
def ST (A B : Mm) (b : Nat → Nat) (L i n : Nat) (f : FG) (σ : List Nat) : Prop := PS A B b L i ∧ ED A B n ∧ TY B f n σ
def aEm (A : Mm) (n : Nat) (x : Int32) : Mm := mput (mput A 153 n x) 148 1 (nI (n + 1))
def bEm (B : Mm) (n : Nat) (o a : Int32) : Mm := mput (mput (mput B 230 (800 + n) o) 231 (800 + n) a) 217 24 (nI (n + 1))
theorem step_eq {A : Mm} {n : Nat} (x : Int32) (h : A 148 1 = nI n) (hn : n < 400) : fL_addStep x A = some (aEm A n x) := by
  refine Go.eq ?_
  unfold fL_addStep aEm
  have e : mput A 153 n x 148 1 = nI n := by rw [mput_r (by omega)]; exact h
  rw [h, jix_nI (by omega)]
  dsimp only
  rw [e, nI_1]
  refine Go.no (by rw [(lit_nI _ : (400 : Int32) = nI 400), nI_le' (by omega) (by omega)]; omega) ?_
  refine Go.gd ((inb_nI (by omega)).mpr hn) ?_
  refine Go.some ?_
  rfl
theorem emit_eq {B : Mm} {n : Nat} (o a : Int32) (h : B 217 24 = nI n) (hn : n < 400) : fM_emits o a B = some (bEm B n o a) := by
  refine Go.eq ?_
  unfold fM_emits bEm
  have e1 : mput B 230 (800 + n) o 217 24 = nI n := by rw [mput_r (by omega)]; exact h
  have e2 : mput (mput B 230 (800 + n) o) 231 (800 + n) a 217 24 = nI n := by rw [mput_r (by omega)]; exact e1
  have e3 : 800 + nI n = nI (800 + n) := nI_add 800 n
  rw [h, e3, jix_nI (by omega)]
  dsimp only
  rw [e1, e3, jix_nI (by omega), e2, nI_1]
  refine Go.gd ((inb_nI (by omega)).mpr (by omega)) ?_
  refine Go.gd ((inb_nI (by omega)).mpr (by omega)) ?_
  refine Go.some ?_
  rfl
theorem Trn_cg {op ar op' ar' : Nat → Int32} : ∀ {n f : Nat} {σ τ : List Nat}, (∀ k, f ≤ k → k < f + n → op' k = op k ∧ ar' k = ar k) → Trn op ar f n σ τ → Trn op' ar' f n σ τ
  | 0, _, _, _, _, h => h
  | n + 1, f, σ, τ, e, ⟨υ, h1, h2, h3⟩ => ⟨υ, by rw [(e f (by omega) (by omega)).1, (e f (by omega) (by omega)).2]; exact h1, h2, Trn_cg (fun k a c => e k (by omega) (by omega)) h3⟩
theorem Trn_snoc {op ar : Nat → Int32} : ∀ {n f : Nat} {σ τ υ : List Nat}, Trn op ar f n σ τ → tst (op (f + n)) (ar (f + n)) τ = some υ → υ.length ≤ 32 → Trn op ar f (n + 1) σ υ
  | 0, f, σ, τ, υ, h, t, l => by
    have h : σ = τ := h
    subst h
    exact ⟨υ, t, l, rfl⟩
  | n + 1, f, σ, τ, υ, ⟨w, h1, h2, h3⟩, t, l => ⟨w, h1, h2, Trn_snoc h3 (by rw [show f + 1 + n = f + (n + 1) by omega]; exact t) l⟩
theorem eF_aEm (A : Mm) (n : Nat) (x : Int32) : eF A (aEm A n x) := ((eF.rfl' A).put (by omega)).put (by omega)
theorem mF_bEm (B : Mm) (n : Nat) (o a : Int32) : mF B (bEm B n o a) := (((mF.rfl' B).put (by omega)).put (by omega)).put (by omega)
theorem ST.emit {A B : Mm} {b : Nat → Nat} {L i n : Nat} {f : FG} {σ υ : List Nat} {x o a : Int32} (h : ST A B b L i n f σ) (hn : n < 400) (he : Enc x o a) (ht : tst o a σ = some υ) (hl : υ.length ≤ 32) : ST (aEm A n x) (bEm B n o a) b L i (n + 1) f υ := by
  obtain ⟨h1, ⟨d1, d2, d3, d4⟩, t1, t2, t3⟩ := h
  have o0 : bEm B n o a 230 (800 + n) = o := by unfold bEm; rw [mput_r (by omega), mput_r (by omega), mput_same]
  have a0 : bEm B n o a 231 (800 + n) = a := by unfold bEm; rw [mput_r (by omega), mput_same]
  have o1 : ∀ k, k ≠ n → bEm B n o a 230 (800 + k) = B 230 (800 + k) := fun k hk => by unfold bEm; rw [mput_r (by omega), mput_r (by omega), mput_s (by omega)]
  have a1 : ∀ k, k ≠ n → bEm B n o a 231 (800 + k) = B 231 (800 + k) := fun k hk => by unfold bEm; rw [mput_r (by omega), mput_s (by omega), mput_r (by omega)]
  refine ⟨?_, ⟨mput_same _ _ _ _, mput_same _ _ _ _, by omega, fun k hk => ?_⟩, by omega, ?_, fun k hk => by rw [o1 k (by omega), a1 k (by omega)]; exact t3 k hk⟩
  · refine h1.fr (fun c k p q => ?_) ?_ ?_ (fun k p q => ?_) ?_ ?_ (by unfold aEm; rw [mput_r (by omega), mput_r (by omega)])
    · exact (eF_aEm A n x) c k (by omega)
    · unfold aEm; rw [mput_r (by omega), mput_r (by omega)]
    · unfold aEm; rw [mput_r (by omega), mput_r (by omega)]
    · unfold bEm; rw [mput_s (by omega), mput_r (by omega), mput_r (by omega)]
    · unfold bEm; rw [mput_r (by omega), mput_r (by omega), mput_r (by omega)]
    · unfold bEm; rw [mput_r (by omega), mput_r (by omega), mput_r (by omega)]
  · by_cases e : k = n
    · subst e
      rw [o0, a0]
      unfold aEm
      rw [mput_r (by omega), mput_same]; exact he
    · rw [o1 k e, a1 k e]
      unfold aEm
      rw [mput_r (by omega), mput_s e]; exact d4 k (by omega)
  · rw [show n + 1 - f.1 = (n - f.1) + 1 by omega]
    refine Trn_snoc (Trn_cg (fun k p q => ⟨o1 k (by omega), a1 k (by omega)⟩) t2) ?_ hl
    rw [show f.1 + (n - f.1) = n by omega, o0, a0]; exact ht
theorem ST.adv {A B : Mm} {b : Nat → Nat} {L i n : Nat} {f : FG} {σ : List Nat} (hL : L ≤ 400) (h : ST A B b L i n f σ) (hi : i < cs b L) : Go (fM_reads B) (fun B' => ST (mput A 146 4 (nI (i + 1))) B' b L (i + 1) n f σ ∧ rF B B') := by
  obtain ⟨h1, ⟨d1, d2, d3, d4⟩, t1, t2, t3⟩ := h
  refine (h1.adv hL hi).mono fun B' hB => ⟨⟨hB.1, ⟨by rw [mput_r (by omega)]; exact d1, by rw [hB.2 217 24 (by omega)]; exact d2, d3, fun k hk => ?_⟩, t1, ?_, fun k hk => by rw [hB.2 230 _ (by omega), hB.2 231 _ (by omega)]; exact t3 k hk⟩, hB.2⟩
  · rw [mput_r (by omega), hB.2 230 _ (by omega), hB.2 231 _ (by omega)]; exact d4 k hk
  · exact Trn_cg (fun k p q => ⟨hB.2 230 _ (by omega), hB.2 231 _ (by omega)⟩) t2
theorem aEm_mput (A : Mm) (n : Nat) (x : Int32) (k : Nat) (v : Int32) : aEm (mput A 146 k v) n x = mput (aEm A n x) 146 k v := by
  funext c j
  unfold aEm mput
  by_cases e1 : c = 148 ∧ j = 1
  · rw [if_pos e1, if_neg (by omega), if_pos e1]
  · rw [if_neg e1]
    by_cases e2 : c = 153 ∧ j = n
    · rw [if_pos e2, if_neg (by omega), if_neg e1, if_pos e2]
    · rw [if_neg e2]
      by_cases e3 : c = 146 ∧ j = k
      · rw [if_pos e3, if_pos e3]
      · rw [if_neg e3, if_neg e3, if_neg e1, if_neg e2]
/-- a fault on both sides -/
def FLT (A B : Mm) : Prop := ¬ A 146 1 = 0 ∧ A 146 1 = B 217 28 ∧ A 146 2 = B 217 29
def Flt (A : Mm) : Prop := ¬ A 146 1 = 0 ∧ ∃ n, n ≤ 400 ∧ A 148 1 = nI n
/-- nothing but what a faulted reader may still do -/
def fF (A A' : Mm) : Prop := Flt A' ∧ A' 146 1 = A 146 1 ∧ A' 146 2 = A 146 2 ∧ eF A A'
theorem fF.rfl' {A : Mm} (h : Flt A) : fF A A := ⟨h, rfl, rfl, eF.rfl' A⟩
theorem fF.trans {A A1 A2 : Mm} (h : fF A A1) (k : fF A1 A2) : fF A A2 := ⟨k.1, k.2.1.trans h.2.1, k.2.2.1.trans h.2.2.1, h.2.2.2.trans k.2.2.2⟩
theorem fF.flt {A A' B : Mm} (h : FLT A B) (k : fF A A') : FLT A' B := ⟨by rw [k.2.1]; exact h.1, by rw [k.2.1]; exact h.2.1, by rw [k.2.2.1]; exact h.2.2⟩
def bA (A : Mm) (k : Int32) (pl : Int32) : Mm := mput (mput A 146 1 k) 146 2 pl
theorem eF_bA (A : Mm) (k pl : Int32) : eF A (bA A k pl) := ((eF.rfl' A).put (by omega)).put (by omega)
theorem flt_bA {A B : Mm} {k : Int32} (hk : ¬ k = 0) : FLT (bA A k (B 217 12)) (fM_errs k B).2 := by
  refine ⟨by unfold bA; rw [mput_s (by omega), mput_same]; exact hk, ?_, ?_⟩
  · unfold bA fM_errs
    dsimp only
    rw [mput_s (by omega), mput_same, mput_s (by omega), mput_same]
  · unfold bA fM_errs
    dsimp only
    rw [mput_same, mput_same, mput_s (by omega)]
theorem Flt_bA {A : Mm} {k pl : Int32} {n : Nat} (hk : ¬ k = 0) (h : A 148 1 = nI n) (hn : n ≤ 400) : Flt (bA A k pl) := ⟨by unfold bA; rw [mput_s (by omega), mput_same]; exact hk, n, hn, by unfold bA; rw [mput_r (by omega), mput_r (by omega)]; exact h⟩
theorem mF_errs (B : Mm) (k : Int32) : mF B (fM_errs k B).2 := ((mF.rfl' B).put (by omega)).put (by omega)
theorem errs_1 (B : Mm) (k : Int32) : (fM_errs k B).1 = -1 := rfl
/-- what an expression ends with -/
def XP (A B : Mm) (b : Nat → Nat) (L : Nat) (f : FG) (σ : List Nat) (e i : Nat) (A' : Mm) (r : Int32 × Mm) : Prop := eF A A' ∧ mF B r.2 ∧ ((r.1 = 0 ∧ ∃ i' n' z, z ≠ 1 ∧ i < i' ∧ ST A' r.2 b L i' n' f (z :: σ) ∧ n' + e ≤ i') ∨ (r.1 = -1 ∧ FLT A' r.2 ∧ Flt A'))
theorem wq_ask {k : Nat} (h : k < 29) : (fK_isWithin (nI (256 + k)) 263 273 = 1 ∧ fM_canAsk (nI (wq k)) = some 1 ∧ 7 ≤ k ∧ k ≤ 17 ∧ wq k = k) ∨ (fK_isWithin (nI (256 + k)) 263 273 = 0 ∧ fM_canAsk (nI (wq k)) = some 0) := by
  have : ∀ k : Fin 29, (fK_isWithin (nI (256 + k.val)) 263 273 = 1 ∧ fM_canAsk (nI (wq k.val)) = some 1 ∧ 7 ≤ k.val ∧ k.val ≤ 17 ∧ wq k.val = k.val) ∨ (fK_isWithin (nI (256 + k.val)) 263 273 = 0 ∧ fM_canAsk (nI (wq k.val)) = some 0) := by decide +kernel
  exact this ⟨k, h⟩
theorem operand_bad {A : Mm} (h : Flt A) : Go (fR_operand A) (fun A' => fF A A') := by
  unfold fR_operand
  rw [sort_bad h.1, blame_bad 1 h.1]
  refine go_bind.mpr ?_
  refine Go.some ?_
  refine Go.no (by decide) ?_
  refine Go.yes (by decide) ?_
  refine go_bind.mpr ?_
  refine Go.some ?_
  refine Go.some ?_
  exact fF.rfl' h
theorem step_bad {A : Mm} (x : Int32) (h : Flt A) : Go (fL_addStep x A) (fun A' => fF A A') := by
  obtain ⟨h1, n, hn, h2⟩ := h
  by_cases e : n < 400
  · rw [step_eq x h2 e]
    refine Go.some ?_
    refine ⟨⟨?_, n + 1, by omega, mput_same _ _ _ _⟩, ?_, ?_, eF_aEm A n x⟩
    · unfold aEm; rw [mput_r (by omega), mput_r (by omega)]; exact h1
    · unfold aEm; rw [mput_r (by omega), mput_r (by omega)]
    · unfold aEm; rw [mput_r (by omega), mput_r (by omega)]
  · unfold fL_addStep
    refine Go.yes (by rw [h2, (lit_nI _ : (400 : Int32) = nI 400), nI_le' (by omega) (by omega)]; omega) ?_
    refine Go.some ?_
    exact fF.rfl' ⟨h1, n, hn, h2⟩
theorem number_bad {A : Mm} (x1 x2 : Int32) (h : Flt A) : fR_number x1 x2 A = some (0, A) := by
  refine Go.eq ?_
  unfold fR_number
  rw [sort_bad h.1, blame_bad 1 h.1]
  refine go_bind.mpr ?_
  refine Go.some ?_
  refine Go.no (by decide) ?_
  refine go_bind.mpr ?_
  refine Go.some ?_
  refine Go.some ?_
  rfl
theorem operand_go {A B : Mm} {b : Nat → Nat} {L i n : Nat} {f : FG} {e : Nat} {σ : List Nat} (hL : L ≤ 400) (h : ST A B b L i n f σ) (hn : n + e ≤ i) (hs : σ.length ≤ 31) :
    Go (fR_operand A) (fun A' => Go (fM_readUnit B) (fun r => XP A B b L f σ e i A' r)) := by
  have h0 := h
  obtain ⟨ps, ed, ty⟩ := h0
  obtain ⟨tr, -, te⟩ := ps.tok hL
  have cL := cs_le b L
  have iN := ps.2.2.2.2.2
  have good : ∀ {x o a : Int32} {z : Nat}, i < cs b L → Enc x o a → z ≠ 1 → tst o a σ = some (z :: σ) → Go (fM_reads (bEm B n o a)) (fun B' => XP A B b L f σ e i (mput (aEm A n x) 146 4 (nI (i + 1))) (0, B')) := fun {x o a z} hi he hz ht => by
    have s1 := h.emit (x := x) (o := o) (a := a) (show n < 400 by omega) he ht (by show σ.length + 1 ≤ 32; omega)
    refine (s1.adv hL hi).mono fun B' hB => ⟨(eF_aEm A n x).put (by omega), (mF_bEm B n o a).trans hB.2.m, Or.inl ⟨rfl, i + 1, n + 1, z, hz, by omega, hB.1, by omega⟩⟩
  have a4 : A 146 4 = nI i := ps.2.2.2.1
  have a4E : ∀ x, aEm A n x 146 4 + 1 = nI (i + 1) := fun x => by
    unfold aEm; rw [mput_r (by omega), mput_r (by omega), a4, nI_1]
  unfold fR_operand fM_readUnit fM_readUnit_j43
  rw [sort_ok hL ps]
  refine go_bind.mpr ?_
  refine Go.some ?_
  have bad : ¬ A 163 i = 1 → fK_isWithin (A 163 i) 263 273 = 0 → Go (Option.bind (fR_blame 1 A) fun Mz5 => some Mz5) (fun A' => XP A B b L f σ e i A' ((-1), (fM_errs 1 B).2)) := fun _ _ => by
    rw [blame_ok 1 hL ps]
    refine go_bind.mpr ?_
    refine Go.some ?_
    refine Go.some ?_
    exact ⟨eF_bA A 1 _, mF_errs B 1, Or.inr ⟨rfl, flt_bA (by decide), Flt_bA (by decide) ed.1 ed.2.2.1⟩⟩
  rcases tr with ⟨q1, q2⟩ | ⟨q1, q2⟩ | ⟨v, v1, q1, q3, q2, q4⟩ | ⟨k, k1, q1, q2, q3⟩ | ⟨d, d1, q1, q2, q3⟩
  · have w : fK_isWithin (A 163 i) 263 273 = 0 := by rw [q1]; decide
    refine Go.no (by rw [q1]; decide) ?_
    refine Go.yes (w) ?_
    refine (bad (by rw [q1]; decide) w).mono fun A' hA => ?_
    refine go_bind.mpr ?_
    refine Go.no (by rw [q2]; decide) ?_
    refine Go.some ?_
    refine Go.yes (by first | rfl | (simp; done)) ?_
    refine Go.no (by rw [q2]; decide) ?_
    refine Go.some ?_
    exact hA
  · have w : fK_isWithin (A 163 i) 263 273 = 0 := by rw [q1]; decide
    refine Go.no (by rw [q1]; decide) ?_
    refine Go.yes (w) ?_
    refine (bad (by rw [q1]; decide) w).mono fun A' hA => ?_
    refine go_bind.mpr ?_
    refine Go.no (by rw [q2]; decide) ?_
    refine Go.some ?_
    refine Go.yes (by first | rfl | (simp; done)) ?_
    refine Go.no (by rw [q2]; decide) ?_
    refine Go.some ?_
    exact hA
  · have iN2 : i < cs b L := by
      have : ¬ i = cs b L := fun z => by rw [te.mpr z] at q1; exact absurd q1 (by decide)
      omega
    rw [a4, jix_nI (by omega), q3, step_eq _ ed.1 (by omega)]
    refine Go.yes (q1) ?_
    refine Go.gd ((inb_nI (by omega)).mpr (by omega)) ?_
    refine go_bind.mpr ?_
    refine Go.some ?_
    refine Go.some ?_
    rw [a4E]
    refine go_bind.mpr ?_
    refine Go.no (by rw [q2]; decide) ?_
    refine Go.some ?_
    refine Go.yes (by first | rfl | (simp; done)) ?_
    refine Go.yes (q2) ?_
    refine go_bind.mpr ?_
    have e1 : (if (0 : Int32) = 0 then (0 : Int32) else 1) = 0 := rfl
    have e2 : (if (0 : Int32) = 0 then B 217 14 else B 217 14 - 7) = nI v := by rw [if_pos rfl, q4]
    rw [e1, e2, emit_eq _ _ ed.2.1 (by omega)]
    refine Go.some ?_
    refine go_bind.mpr ?_
    refine (good (x := nI v) (o := 0) (a := nI v) (z := if v = 0 then 0 else 2) iN2 (Or.inl ⟨v, v1, rfl, rfl, rfl⟩) (by split <;> omega) ?_).mono fun B' hB => Go.some hB
    unfold tst
    rw [if_pos rfl]
    by_cases z : v = 0
    · rw [if_pos (by rw [z]; rfl), if_pos z]
    · rw [if_neg (by rw [← nI_zero, nI_eq' (by omega) (by omega)]; exact z), if_neg z]
  · have iN2 : i < cs b L := by
      have : ¬ i = cs b L := fun z => by rw [te.mpr z, (lit_nI _ : (2 : Int32) = nI 2), nI_eq' (by omega) (by omega)] at q1; omega
      omega
    have n1 : ¬ A 163 i = 1 := by rw [q1, (lit_nI _ : (1 : Int32) = nI 1), nI_eq' (by omega) (by omega)]; omega
    rcases wq_ask k1 with ⟨w1, w2, w3, w4, w5⟩ | ⟨w1, w2⟩
    · have ex : 10000 + A 163 i - 263 = nI (10000 + (k - 7)) := by
        rw [q1, (lit_nI _ : (10000 : Int32) = nI 10000), nI_add, (lit_nI _ : (263 : Int32) = nI 263), nI_sub' (by omega)]; exact congrArg nI (by omega)
      rw [ex, step_eq (nI (10000 + (k - 7))) ed.1 (by omega)]
      refine Go.no (n1) ?_
      refine Go.no (by rw [q1, w1]; decide) ?_
      refine go_bind.mpr ?_
      refine Go.some ?_
      refine Go.some ?_
      rw [a4E]
      refine go_bind.mpr ?_
      refine Go.yes (q2) ?_
      refine go_bind.mpr ?_
      rw [q3, w2]
      refine Go.some ?_
      refine Go.no (by decide) ?_
      refine Go.some ?_
      refine Go.no (by decide) ?_
      refine go_bind.mpr ?_
      have e1 : (if (1 : Int32) = 0 then (0 : Int32) else 1) = 1 := rfl
      have e2 : (if (1 : Int32) = 0 then nI (wq k) else nI (wq k) - 7) = nI (k - 7) := by
        rw [if_neg (by decide), w5, (lit_nI _ : (7 : Int32) = nI 7), nI_sub' (by omega)]
      rw [e1, e2, emit_eq _ _ ed.2.1 (by omega)]
      refine Go.some ?_
      refine go_bind.mpr ?_
      refine (good (x := nI (10000 + (k - 7))) (o := 1) (a := nI (k - 7)) (z := 0) iN2 (Or.inr (Or.inl ⟨k - 7, by omega, rfl, rfl, rfl⟩)) (by omega) ?_).mono fun B' hB => Go.some hB
      unfold tst
      rw [if_neg (by decide), if_pos rfl]
    · have w : fK_isWithin (A 163 i) 263 273 = 0 := by rw [q1]; exact w1
      refine Go.no (n1) ?_
      refine Go.yes (w) ?_
      refine (bad n1 w).mono fun A' hA => ?_
      refine go_bind.mpr ?_
      refine Go.yes (q2) ?_
      refine go_bind.mpr ?_
      rw [q3, w2]
      refine Go.some ?_
      refine Go.yes (by first | rfl | (simp; done)) ?_
      refine Go.some ?_
      refine Go.yes (by first | rfl | (simp; done)) ?_
      refine Go.no (by rw [q2]; decide) ?_
      refine Go.some ?_
      exact hA
  · have l := isSg_lt d1
    have n1 : ¬ A 163 i = 1 := by rw [q1, (lit_nI _ : (1 : Int32) = nI 1), nI_eq' (by omega) (by omega)]; omega
    have w : fK_isWithin (A 163 i) 263 273 = 0 := by
      have : ∀ d : Fin 63, fK_isWithin (nI d.val) 263 273 = 0 := by decide +kernel
      rw [q1]; exact this ⟨d, by omega⟩
    refine Go.no (n1) ?_
    refine Go.yes (w) ?_
    refine (bad n1 w).mono fun A' hA => ?_
    refine go_bind.mpr ?_
    refine Go.no (by rw [q2]; decide) ?_
    refine Go.some ?_
    refine Go.yes (by first | rfl | (simp; done)) ?_
    refine Go.no (by rw [q2]; decide) ?_
    refine Go.some ?_
    exact hA
end PmExpr
