section PmBase
/-! running a partial function to its end -/
def Go {α : Type} (x : Option α) (Q : α → Prop) : Prop := ∃ a, x = some a ∧ Q a
theorem go_some {α : Type} {a : α} {Q : α → Prop} : Go (some a) Q ↔ Q a := ⟨fun ⟨b, h, q⟩ => by cases h; exact q, fun q => ⟨a, rfl, q⟩⟩
theorem go_none {α : Type} {Q : α → Prop} : Go (none : Option α) Q ↔ False := ⟨fun ⟨b, h, _⟩ => (by cases h), fun h => h.elim⟩
theorem go_bind {α β : Type} {x : Option α} {f : α → Option β} {Q : β → Prop} : Go (Option.bind x f) Q ↔ Go x (fun a => Go (f a) Q) := by
  cases x with
  | none => exact ⟨fun ⟨_, h, _⟩ => (by cases h), fun ⟨_, h, _⟩ => (by cases h)⟩
  | some a => exact ⟨fun h => ⟨a, rfl, h⟩, fun ⟨b, h, q⟩ => by cases h; exact q⟩
theorem go_ite {c : Prop} [Decidable c] {α : Type} {x y : Option α} {Q : α → Prop} : Go (if c then x else y) Q ↔ (c → Go x Q) ∧ (¬ c → Go y Q) := by
  by_cases h : c <;> simp [h]
theorem go_gd {c : Prop} [Decidable c] {α : Type} {x : Option α} {Q : α → Prop} : Go (if c then x else none) Q ↔ c ∧ Go x Q := by
  by_cases h : c <;> simp [h, go_none]
theorem Go.mono {α : Type} {x : Option α} {P Q : α → Prop} (h : Go x P) (k : ∀ a, P a → Q a) : Go x Q := by
  obtain ⟨a, e, p⟩ := h; exact ⟨a, e, k a p⟩
theorem Go.bind {α β : Type} {x : Option α} {f : α → Option β} {P : α → Prop} {Q : β → Prop} (h : Go x P) (k : ∀ a, P a → Go (f a) Q) : Go (Option.bind x f) Q := go_bind.mpr (h.mono k)
theorem Go.some {α : Type} {a : α} {Q : α → Prop} (q : Q a) : Go (some a) Q := ⟨a, rfl, q⟩
theorem Go.gd {c : Prop} [Decidable c] {α : Type} {x : Option α} {Q : α → Prop} (h : c) (k : Go x Q) : Go (if c then x else none) Q := go_gd.mpr ⟨h, k⟩
theorem Go.yes {c : Prop} [Decidable c] {α : Type} {x y : Option α} {Q : α → Prop} (h : c) (k : Go x Q) : Go (if c then x else y) Q := by rw [if_pos h]; exact k
theorem Go.no {c : Prop} [Decidable c] {α : Type} {x y : Option α} {Q : α → Prop} (h : ¬ c) (k : Go y Q) : Go (if c then x else y) Q := by rw [if_neg h]; exact k
theorem Go.ite {c : Prop} [Decidable c] {α : Type} {x y : Option α} {Q : α → Prop} (h : c → Go x Q) (k : ¬ c → Go y Q) : Go (if c then x else y) Q := go_ite.mpr ⟨h, k⟩
theorem Go.eq {α : Type} {x : Option α} {a : α} (h : Go x (fun b => b = a)) : x = Option.some a := by
  obtain ⟨b, e, rfl⟩ := h; exact e
/-- a loop with a measure -/
theorem go_lp {α β : Type} {f : α → Option (α ⊕ β)} {Q : β → Prop} (I : Nat → α → Prop)
    (hb : ∀ k s, I k s → Go (f s) (fun r => match r with | .inl t => ∃ k', k' < k ∧ I k' t | .inr e => Q e)) :
    ∀ (n k : Nat) (s : α), k < n → I k s → Go (lp n f s) Q := by
  intro n
  induction n with
  | zero => intro k s h; omega
  | succ n ih =>
    intro k s hk hI
    obtain ⟨r, e, q⟩ := hb k s hI
    unfold lp
    rw [e]
    cases r with
    | inl t =>
      obtain ⟨k', h1, h2⟩ := q
      exact ih k' t (by omega) h2
    | inr y => exact ⟨y, rfl, q⟩
/-- a loop that counts up to e, or leaves before -/
theorem go_for {α β : Type} {f : α → Option (α ⊕ β)} {Q : β → Prop} (J : Nat → α → Prop) (e : Nat)
    (hx : ∀ s, J e s → Go (f s) (fun r => match r with | .inl _ => False | .inr y => Q y))
    (hs : ∀ i s, i < e → J i s → Go (f s) (fun r => match r with | .inl t => J (i + 1) t | .inr y => Q y)) {i : Nat} {s : α} (hi : i ≤ e) (hJ : J i s) {n : Nat} (hn : e - i < n) :
    Go (lp n f s) Q := by
  refine go_lp (fun k s => k ≤ e ∧ J (e - k) s) ?_ n (e - i) s hn ⟨by omega, by rw [show e - (e - i) = i by omega]; exact hJ⟩
  intro k s h
  by_cases h0 : k = 0
  · subst h0
    refine (hx s h.2).mono fun r q => ?_
    cases r with
    | inl t => exact q.elim
    | inr y => exact q
  · refine (hs (e - k) s (by omega) h.2).mono fun r q => ?_
    cases r with
    | inl t => exact ⟨k - 1, by omega, by omega, by rw [show e - (k - 1) = e - k + 1 by omega]; exact q⟩
    | inr y => exact q
/-- two loops side by side -/
theorem go_lp2 {α β α' β' : Type} {f : α → Option (α ⊕ β)} {g : α' → Option (α' ⊕ β')} {Q : β → β' → Prop} (I : Nat → α → α' → Prop)
    (hb : ∀ k s t, I k s t → Go (f s) (fun r => Go (g t) (fun r' => match r, r' with | .inl s', .inl t' => ∃ k', k' < k ∧ I k' s' t' | .inr y, .inr y' => Q y y' | _, _ => False))) :
    ∀ (n k : Nat) (s : α) (t : α'), k < n → I k s t → Go (lp n f s) (fun y => Go (lp n g t) (fun y' => Q y y')) := by
  intro n
  induction n with
  | zero => intro k s t h; omega
  | succ n ih =>
    intro k s t hk hI
    obtain ⟨r, e, r', e', q⟩ := hb k s t hI
    unfold lp
    rw [e]
    cases r with
    | inl s' =>
      cases r' with
      | inl t' =>
        obtain ⟨k', h1, h2⟩ := q
        rw [e']
        exact ih k' s' t' (by omega) h2
      | inr y' => exact q.elim
    | inr y =>
      cases r' with
      | inl t' => exact q.elim
      | inr y' => rw [e']; exact ⟨y, rfl, y', rfl, q⟩
theorem go_for2 {α β α' β' : Type} {f : α → Option (α ⊕ β)} {g : α' → Option (α' ⊕ β')} {Q : β → β' → Prop} (J : Nat → α → α' → Prop) (e : Nat)
    (hx : ∀ s t, J e s t → Go (f s) (fun r => Go (g t) (fun r' => match r, r' with | .inr y, .inr y' => Q y y' | _, _ => False)))
    (hs : ∀ i s t, i < e → J i s t → Go (f s) (fun r => Go (g t) (fun r' => match r, r' with | .inl s', .inl t' => J (i + 1) s' t' | .inr y, .inr y' => Q y y' | _, _ => False)))
    {i : Nat} {s : α} {t : α'} (hi : i ≤ e) (hJ : J i s t) {n : Nat} (hn : e - i < n) :
    Go (lp n f s) (fun y => Go (lp n g t) (fun y' => Q y y')) := by
  refine go_lp2 (fun k s t => k ≤ e ∧ J (e - k) s t) ?_ n (e - i) s t hn ⟨by omega, by rw [show e - (e - i) = i by omega]; exact hJ⟩
  intro k s t h
  by_cases h0 : k = 0
  · subst h0
    refine (hx s t h.2).mono fun r q => q.mono fun r' q => ?_
    cases r <;> cases r' <;> first | exact q.elim | exact q
  · refine (hs (e - k) s t (by omega) h.2).mono fun r q => q.mono fun r' q => ?_
    cases r <;> cases r' <;> first | exact q.elim | exact q | exact ⟨k - 1, by omega, by omega, by rw [show e - (k - 1) = e - k + 1 by omega]; exact q⟩
end PmBase
section PmNum
theorem lit_nI (n : Nat) : (OfNat.ofNat n : Int32) = nI (@OfNat.ofNat Nat n (instOfNatNat n)) := rfl
theorem nI_zero : nI 0 = 0 := rfl
theorem inb_nI {k n : Nat} (hk : k < 2147483648) : inb (nI k) n ↔ k < n := by
  unfold inb
  rw [nI_clamp (by simpa using hk)]
  constructor
  · intro h; exact Nat.lt_of_not_le fun q => h (Or.inr q)
  · intro h q
    rcases q with q | q
    · exact nI_pos (by simpa using hk) q
    · omega
theorem jix_nI {k : Nat} (hk : k < 2147483648) : jix (nI k) = k := nI_clamp (by simpa using hk)
theorem nI_lt' {a b : Nat} (ha : a < 2147483648) (hb : b < 2147483648) : nI a < nI b ↔ a < b := nI_ltI (by simpa using ha) (by simpa using hb)
theorem nI_le' {a b : Nat} (ha : a < 2147483648) (hb : b < 2147483648) : nI a ≤ nI b ↔ a ≤ b := nI_leI (by simpa using ha) (by simpa using hb)
theorem nI_eq' {a b : Nat} (ha : a < 2147483648) (hb : b < 2147483648) : nI a = nI b ↔ a = b := nI_eq (by simpa using ha) (by simpa using hb)
theorem nI_sub' {a b : Nat} (h : b ≤ a) : nI a - nI b = nI (a - b) := pk_sub h
theorem nI_mul' (a b : Nat) : nI a * nI b = nI (a * b) := pk_mul a b
theorem nI_toInt' {n : Nat} (h : n < 2147483648) : (nI n).toInt = (n : Int) := nI_toInt (by simpa using h)
theorem nI_dec {n : Nat} (h : 0 < n) : nI n + (-1) = nI (n - 1) := by
  obtain ⟨m, rfl⟩ : ∃ m, n = m + 1 := ⟨n - 1, by omega⟩
  rw [pk_m1]; rfl
theorem nI_neg1 {n : Nat} (h : n < 2147483648) : ¬ nI n = -1 := by
  intro e
  have := congrArg Int32.toInt e
  rw [nI_toInt' h] at this
  have h2 : (-1 : Int32).toInt = -1 := by decide
  omega
theorem nI_nneg {n : Nat} (h : n < 2147483648) : ¬ nI n < 0 := nI_pos (by simpa using h)
theorem i32_lt {a b : Int32} : a < b ↔ a.toInt < b.toInt := Int32.lt_iff_toInt_lt
theorem i32_le {a b : Int32} : a ≤ b ↔ a.toInt ≤ b.toInt := Int32.le_iff_toInt_le
theorem i32_eq {a b : Int32} : a = b ↔ a.toInt = b.toInt := Int32.toInt_inj.symm
theorem i32_add {a b : Int32} (h1 : -2147483648 ≤ a.toInt + b.toInt) (h2 : a.toInt + b.toInt ≤ 2147483647) : (a + b).toInt = a.toInt + b.toInt := by
  rw [Int32.toInt_add]; exact Int.bmod_eq_of_le (by omega) (by omega)
theorem i32_sub {a b : Int32} (h1 : -2147483648 ≤ a.toInt - b.toInt) (h2 : a.toInt - b.toInt ≤ 2147483647) : (a - b).toInt = a.toInt - b.toInt := by
  rw [Int32.toInt_sub]; exact Int.bmod_eq_of_le (by omega) (by omega)
theorem i32_mul {a b : Int32} (h1 : -2147483648 ≤ a.toInt * b.toInt) (h2 : a.toInt * b.toInt ≤ 2147483647) : (a * b).toInt = a.toInt * b.toInt := by
  rw [Int32.toInt_mul]; exact Int.bmod_eq_of_le (by omega) (by omega)
theorem i32_nI {x : Int32} {n : Nat} (h : x.toInt = n) (hn : n < 2147483648) : x = nI n := i32_eq.mpr (by rw [h, nI_toInt' hn])
theorem i32_ofs {x : Int32} (h0 : 0 ≤ x.toInt) : ∃ n : Nat, x = nI n ∧ (n : Int) = x.toInt ∧ n < 2147483648 := by
  have := x.toInt_lt
  exact ⟨x.toInt.toNat, i32_nI (by omega) (by omega), by omega, by omega⟩
theorem within_iff {x a b : Int32} : fK_isWithin x a b = (if a ≤ x ∧ x ≤ b then 1 else 0) := by
  unfold fK_isWithin
  simp only [i32_lt, i32_le]
  split
  · rw [if_neg (by omega)]
  · split
    · rw [if_neg (by omega)]
    · rw [if_pos (by omega)]
theorem isIn_eq (x a b : Int32) : fM_isIn x a b = fK_isWithin x a b := rfl
theorem within_cases (x a b : Int32) : (fK_isWithin x a b = 1 ∧ a.toInt ≤ x.toInt ∧ x.toInt ≤ b.toInt) ∨ (fK_isWithin x a b = 0 ∧ ¬ (a.toInt ≤ x.toInt ∧ x.toInt ≤ b.toInt)) := by
  rw [within_iff]
  simp only [i32_le]
  by_cases h : a.toInt ≤ x.toInt ∧ x.toInt ≤ b.toInt
  · left; exact ⟨if_pos h, h⟩
  · right; exact ⟨if_neg h, h⟩
/-- a number from 0 on, within its bound -/
theorem within_nI (x : Int32) {b : Nat} (hb : b < 2147483648) : (fK_isWithin x 0 (nI b) = 1 ∧ ∃ n : Nat, n ≤ b ∧ x = nI n) ∨ (fK_isWithin x 0 (nI b) = 0) := by
  rcases within_cases x 0 (nI b) with ⟨h, h1, h2⟩ | ⟨h, -⟩
  · left
    refine ⟨h, ?_⟩
    rw [nI_toInt' hb] at h2
    obtain ⟨n, e, e2, -⟩ := i32_ofs (x := x) (by simpa using h1)
    exact ⟨n, by omega, e⟩
  · right; exact h
theorem within_nI1 (x : Int32) {a b : Nat} (hb : b < 2147483648) (ha : a ≤ b) : (fK_isWithin x (nI a) (nI b) = 1 ∧ ∃ n : Nat, a ≤ n ∧ n ≤ b ∧ x = nI n) ∨ (fK_isWithin x (nI a) (nI b) = 0 ∧ ∀ n : Nat, a ≤ n → n ≤ b → x ≠ nI n) := by
  rcases within_cases x (nI a) (nI b) with ⟨h, h1, h2⟩ | ⟨h, h1⟩
  · left
    refine ⟨h, ?_⟩
    rw [nI_toInt' hb] at h2
    rw [nI_toInt' (by omega)] at h1
    obtain ⟨n, e, e2, -⟩ := i32_ofs (x := x) (by omega)
    exact ⟨n, by omega, by omega, e⟩
  · right
    refine ⟨h, fun n h2 h3 e => h1 ?_⟩
    rw [e, nI_toInt' (by omega), nI_toInt' (by omega), nI_toInt' hb]
    omega
theorem jmin_eq (x y : Int32) : jmin x y = fM_lesser x y := by
  unfold jmin fM_lesser
  by_cases h : y < x
  · rw [if_pos h, if_pos (by rw [i32_le]; rw [i32_lt] at h; omega)]
  · rw [if_neg h]
    by_cases h2 : y ≤ x
    · rw [if_pos h2]; apply i32_eq.mpr; rw [i32_le] at h2; rw [i32_lt] at h; omega
    · rw [if_neg h2]
theorem jmax_eq (x y : Int32) : jmax x y = fM_greater x y := by
  unfold jmax fM_greater
  by_cases h : x < y
  · rw [if_pos h, if_pos (by rw [i32_le]; rw [i32_lt] at h; omega)]
  · rw [if_neg h]
    by_cases h2 : x ≤ y
    · rw [if_pos h2]; apply i32_eq.mpr; rw [i32_le] at h2; rw [i32_lt] at h; omega
    · rw [if_neg h2]
theorem jmin_comm (x y : Int32) : jmin x y = jmin y x := by
  unfold jmin
  simp only [i32_lt]
  split <;> split <;> first | rfl | (apply i32_eq.mpr; omega)
theorem jmax_comm (x y : Int32) : jmax x y = jmax y x := by
  unfold jmax
  simp only [i32_lt]
  split <;> split <;> first | rfl | (apply i32_eq.mpr; omega)
theorem jmin_nI {a b : Nat} (ha : a < 2147483648) (hb : b < 2147483648) : jmin (nI a) (nI b) = nI (min a b) := by
  unfold jmin
  simp only [nI_lt' hb ha]
  split
  · rw [Nat.min_eq_right (by omega)]
  · rw [Nat.min_eq_left (by omega)]
theorem jmax_nI {a b : Nat} (ha : a < 2147483648) (hb : b < 2147483648) : jmax (nI a) (nI b) = nI (max a b) := by
  unfold jmax
  simp only [nI_lt' ha hb]
  split
  · rw [Nat.max_eq_right (by omega)]
  · rw [Nat.max_eq_left (by omega)]
theorem jmin_toInt (a b : Int32) : (jmin a b).toInt = min a.toInt b.toInt := by
  unfold jmin
  simp only [i32_lt]
  split <;> omega
theorem jmax_toInt (a b : Int32) : (jmax a b).toInt = max a.toInt b.toInt := by
  unfold jmax
  simp only [i32_lt]
  split <;> omega
theorem held_eq {x a b : Int32} (h : a ≤ b) : fM_held x a b = fK_held x a b := by
  unfold fM_held fK_held
  apply i32_eq.mpr
  rw [jmax_toInt, jmin_toInt]
  simp only [i32_le] at *
  split
  · split <;> omega
  · omega
theorem held_toInt (x a b : Int32) : (fK_held x a b).toInt = max a.toInt (min b.toInt x.toInt) := by
  unfold fK_held; rw [jmax_toInt, jmin_toInt]
theorem shr31 (x : Int32) : x &&& 31 = nI (x.toBitVec.toNat % 32) := pk_and x 5 (by decide)
theorem nI_31 {k : Nat} (h : k < 32) : nI k &&& 31 = nI k := by
  rw [pk_andN (by omega) 5 (by decide)]
  rw [Nat.mod_eq_of_lt (by omega)]
end PmNum
section PmMem
theorem mput_r {M : Mm} {a k : Nat} {v : Int32} {b : Nat} (h : b ≠ a) : mput M a k v b = M b := by
  funext j; exact mput_ne _ _ _ _ _ _ fun q => h q.1
theorem mput_s {M : Mm} {a k : Nat} {v : Int32} {j : Nat} (h : j ≠ k) : mput M a k v a j = M a j := mput_ne _ _ _ _ _ _ fun q => h q.2
theorem mput_q {M : Mm} {a k : Nat} {v : Int32} {b j : Nat} (h : ¬ (b = a ∧ j = k)) : mput M a k v b j = M b j := mput_ne _ _ _ _ _ _ h
theorem mcp_r {M : Mm} {a b sp dp n c : Nat} (h : c ≠ b) : mcp M a b sp dp n c = M c := if_neg h
theorem mcp_row (M : Mm) (a b n j : Nat) (h : j < n) : mcp M a b 0 0 n b j = M a j := by
  unfold mcp; rw [if_pos rfl, pk_cpy_in (by omega) (by omega)]; simp
theorem mcp_out (M : Mm) (a b n j : Nat) (h : n ≤ j) : mcp M a b 0 0 n b j = M b j := by
  unfold mcp; rw [if_pos rfl, pk_cpy_out (by omega)]
/-- cells that stay -/
def FB (S : Nat → Nat → Bool) (M M' : Mm) : Prop := ∀ c k, S c k = true → M' c k = M c k
theorem fb_rfl (S : Nat → Nat → Bool) (M : Mm) : FB S M M := fun _ _ _ => rfl
theorem fb_put {S : Nat → Nat → Bool} {M0 M : Mm} {a k : Nat} {v : Int32} (h : FB S M0 M) (ha : S a k = false) : FB S M0 (mput M a k v) := fun c j h1 => by
  rw [mput_q (fun q => by rw [q.1, q.2, ha] at h1; cases h1)]; exact h c j h1
theorem fb_cp {S : Nat → Nat → Bool} {M0 M : Mm} {a b sp dp n : Nat} (h : FB S M0 M) (ha : ∀ k, S b k = false) : FB S M0 (mcp M a b sp dp n) := fun c j h1 => by
  rw [mcp_r (fun q => by rw [q, ha] at h1; cases h1)]; exact h c j h1
theorem FB.trans {S : Nat → Nat → Bool} {M0 M1 M2 : Mm} (h : FB S M0 M1) (k : FB S M1 M2) : FB S M0 M2 := fun c j h1 => by rw [k c j h1, h c j h1]
theorem FB.sub {S T : Nat → Nat → Bool} {M M' : Mm} (h : FB S M M') (k : ∀ c j, T c j = true → S c j = true) : FB T M M' := fun c j h1 => h c j (k c j h1)
theorem FB.row {S : Nat → Nat → Bool} {M M' : Mm} (h : FB S M M') {c : Nat} (k : ∀ j, S c j = true) : M' c = M c := funext fun j => h c j (k j)
/-- the class's functions leave the model's cells, the model's those of the class -/
def mK (c _ : Nat) : Bool := Nat.ble 217 c && Nat.ble c 251
def mM (c _ : Nat) : Bool := Nat.ble c 216 || Nat.ble 252 c
abbrev KF (M M' : Mm) : Prop := FB mK M M'
abbrev MF (M M' : Mm) : Prop := FB mM M M'
end PmMem
