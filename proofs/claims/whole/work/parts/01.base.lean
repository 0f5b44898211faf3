section RnBase
abbrev Mm : Type := Nat → Nat → Int32
abbrev Sg : Type := Mm × (Nat → Nat → Option Nat) × Nat
/-- a store -/
def mput (M : Mm) (a k : Nat) (v : Int32) : Mm := fun b j => if b = a ∧ j = k then v else M b j
theorem mput_same (M : Mm) (a k : Nat) (v : Int32) : mput M a k v a k = v := by simp [mput]
theorem mput_ne (M : Mm) (a k : Nat) (v : Int32) (b j : Nat) (h : ¬ (b = a ∧ j = k)) : mput M a k v b j = M b j := by simp [mput, h]
/-- an index lies in a row of n -/
abbrev inb (i : Int32) (n : Nat) : Prop := ¬ (i < 0 ∨ n ≤ i.toNatClampNeg)
/-- a long of a row of longs: two ints -/
def mgl (M : Mm) (a k : Nat) : Int64 := Int64.ofBitVec ((M a (2 * k + 1)).toBitVec ++ (M a (2 * k)).toBitVec)
def mpl (M : Mm) (a k : Nat) (v : Int64) : Mm := mput (mput M a (2 * k) (Int32.ofBitVec (v.toBitVec.extractLsb' 0 32))) a (2 * k + 1) (Int32.ofBitVec (v.toBitVec.extractLsb' 32 32))
theorem mpl_bits (x : BitVec 64) : x.extractLsb' 32 32 ++ x.extractLsb' 0 32 = x := by
  apply BitVec.eq_of_getLsbD_eq
  intro i hi
  simp only [BitVec.getLsbD_append, BitVec.getLsbD_extractLsb']
  by_cases h : i < 32
  · simp [h]
  · simp [h, show i - 32 < 32 by omega, show 32 + (i - 32) = i by omega]
theorem mgl_same (M : Mm) (a k : Nat) (v : Int64) : mgl (mpl M a k v) a k = v := by
  have h1 : mpl M a k v a (2 * k + 1) = Int32.ofBitVec (v.toBitVec.extractLsb' 32 32) := by simp [mpl, mput]
  have h2 : mpl M a k v a (2 * k) = Int32.ofBitVec (v.toBitVec.extractLsb' 0 32) := by simp [mpl, mput]
  unfold mgl
  rw [h1, h2]
  show Int64.ofBitVec (v.toBitVec.extractLsb' 32 32 ++ v.toBitVec.extractLsb' 0 32) = v
  rw [mpl_bits]
  rfl
theorem mgl_ne (M : Mm) (a k : Nat) (v : Int64) (j : Nat) (h : j ≠ k) : mgl (mpl M a k v) a j = mgl M a j := by
  unfold mgl mpl
  rw [mput_ne _ _ _ _ _ _ (by omega), mput_ne _ _ _ _ _ _ (by omega), mput_ne _ _ _ _ _ _ (by omega), mput_ne _ _ _ _ _ _ (by omega)]
/-- a loop: the body goes on (inl) or leaves (inr) -/
def lp {α β : Type} : Nat → (α → Option (α ⊕ β)) → α → Option β
  | 0, _, _ => none
  | n + 1, f, s => match f s with
    | none => none
    | some (.inl t) => lp n f t
    | some (.inr e) => some e
theorem lp_ind {α β : Type} {f : α → Option (α ⊕ β)} {P : α → Prop} {E : β → Prop} (hb : ∀ s x, f s = some x → (match x with | .inl t => P t | .inr e => E e) → P s) :
    ∀ (n : Nat) (s : α) (e : β), lp n f s = some e → E e → P s := by
  intro n
  induction n with
  | zero => intro s e h; cases h
  | succ n ih =>
    intro s e h he
    unfold lp at h
    cases hf : f s with
    | none => rw [hf] at h; cases h
    | some x =>
      rw [hf] at h
      cases x with
      | inl t => exact hb s _ hf (ih t e h he)
      | inr e' => cases h; exact hb s _ hf he
theorem gd {c : Prop} [Decidable c] {α : Type} {x : Option α} {r : α} (h : (if c then x else none) = some r) : c ∧ x = some r := by
  by_cases hc : c
  · rw [if_pos hc] at h; exact ⟨hc, h⟩
  · rw [if_neg hc] at h; cases h
theorem bd {α β : Type} {x : Option α} {f : α → Option β} {r : β} (h : x.bind f = some r) : ∃ a, x = some a ∧ f a = some r := by
  cases x with
  | none => cases h
  | some a => exact ⟨a, rfl, h⟩
theorem ifd {c : Prop} [Decidable c] {α : Type} {x y : Option α} {r : α} (h : (if c then x else y) = some r) : (c ∧ x = some r) ∨ (¬ c ∧ y = some r) := by
  by_cases hc : c
  · rw [if_pos hc] at h; exact Or.inl ⟨hc, h⟩
  · rw [if_neg hc] at h; exact Or.inr ⟨hc, h⟩
end RnBase
