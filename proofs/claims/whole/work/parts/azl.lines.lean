section PmLines
/-! what reading a text may touch -/
def gF (A A' : Mm) : Prop := ∀ c k, ¬ ((c = 146 ∧ k ≠ 5) ∨ (147 ≤ c ∧ c ≤ 161) ∨ c = 167) → A' c k = A c k
def hF (B B' : Mm) : Prop := ∀ c k, ¬ ((c = 217 ∧ ((11 ≤ k ∧ k ≤ 14) ∨ (24 ≤ k ∧ k ≤ 29))) ∨ (226 ≤ c ∧ c ≤ 229 ∧ 32 ≤ k) ∨ ((c = 230 ∨ c = 231) ∧ 800 ≤ k) ∨ c = 232 ∨ (c = 233 ∧ 64 ≤ k) ∨ (c = 234 ∧ 16 ≤ k) ∨ (c = 235 ∧ 144 ≤ k)) → B' c k = B c k
theorem gF.rfl' (A : Mm) : gF A A := fun _ _ _ => rfl
theorem hF.rfl' (B : Mm) : hF B B := fun _ _ _ => rfl
theorem gF.trans {A A1 A2 : Mm} (h : gF A A1) (k : gF A1 A2) : gF A A2 := fun c j q => by rw [k c j q, h c j q]
theorem hF.trans {B B1 B2 : Mm} (h : hF B B1) (k : hF B1 B2) : hF B B2 := fun c j q => by rw [k c j q, h c j q]
theorem gF.put {A A' : Mm} {a k : Nat} {v : Int32} (h : gF A A') (q : (a = 146 ∧ k ≠ 5) ∨ (147 ≤ a ∧ a ≤ 161) ∨ a = 167) : gF A (mput A' a k v) := fun c j z => by
  rw [mput_q (fun w => z (by rw [w.1, w.2]; exact q))]; exact h c j z
theorem hF.put {B B' : Mm} {a k : Nat} {v : Int32} (h : hF B B') (q : (a = 217 ∧ ((11 ≤ k ∧ k ≤ 14) ∨ (24 ≤ k ∧ k ≤ 29))) ∨ (226 ≤ a ∧ a ≤ 229 ∧ 32 ≤ k) ∨ ((a = 230 ∨ a = 231) ∧ 800 ≤ k) ∨ a = 232 ∨ (a = 233 ∧ 64 ≤ k) ∨ (a = 234 ∧ 16 ≤ k) ∨ (a = 235 ∧ 144 ≤ k)) : hF B (mput B' a k v) := fun c j z => by
  rw [mput_q (fun w => z (by rw [w.1, w.2]; exact q))]; exact h c j z
theorem cF.g {A A' : Mm} (h : cF A A') : gF A A' := fun c k q => h c k (by omega)
theorem dF.h {B B' : Mm} (h : dF B B') : hF B B' := fun c k q => h c k (by omega)
theorem rF.h {B B' : Mm} (h : rF B B') : hF B B' := fun c k q => h c k (by omega)
theorem hF_errs (B : Mm) (k : Int32) : hF B (fM_errs k B).2 := (mF_errs B k).d.h
theorem begins_bad {A : Mm} (x1 x2 : Int32) (hx : x1 = 0 ∨ x1 = 1 ∨ x1 = 2 ∨ x1 = 3) (h : ¬ A 146 1 = 0) : fR_begins x1 x2 A = some (0, A) := by
  refine Go.eq ?_
  unfold fR_begins
  have w : fR_isFirstWord x1 0 = some 0 := by rcases hx with rfl | rfl | rfl | rfl <;> decide
  rw [sort_bad h]
  refine go_bind.mpr ?_
  refine Go.some ?_
  refine go_bind.mpr ?_
  rw [w, blame_bad 1 h]
  refine Go.some ?_
  refine go_bind.mpr ?_
  refine Go.yes (by first | rfl | (simp; done)) ?_
  refine go_bind.mpr ?_
  refine Go.some ?_
  refine Go.some ?_
  refine Go.no (h) ?_
  refine Go.some ?_
  rfl
theorem read_bad {A : Mm} (x1 c : Int32) (hx : x1 = 0 ∨ x1 = 1 ∨ x1 = 2 ∨ x1 = 3) (h : ¬ A 146 1 = 0) : ∀ n, 0 < n → Go (lp n (fun s => fR_read_b31 x1 s.1 s.2) (c, A)) (fun y => y = Sum.inl A ∨ y = Sum.inr A) := by
  intro n hn
  obtain ⟨n, rfl⟩ : ∃ k, n = k + 1 := ⟨n - 1, by omega⟩
  by_cases q : 16 < c
  · have : fR_read_b31 x1 c A = some (Sum.inr (Sum.inr A)) := by
      refine Go.eq ?_
      unfold fR_read_b31
      refine Go.yes (q) ?_
      refine Go.some ?_
      rfl
    rw [lpx_inr n (f := fun s => fR_read_b31 x1 s.1 s.2) (s := (c, A)) this]
    exact ⟨_, rfl, Or.inr rfl⟩
  · have : fR_read_b31 x1 c A = some (Sum.inr (Sum.inl A)) := by
      refine Go.eq ?_
      unfold fR_read_b31
      rw [sort_bad h, begins_bad x1 c hx h]
      refine Go.no (q) ?_
      refine go_bind.mpr ?_
      refine Go.some ?_
      refine Go.no (by decide) ?_
      refine go_bind.mpr ?_
      refine Go.some ?_
      refine Go.yes (rfl) ?_
      refine Go.some ?_
      rfl
    rw [lpx_inr n (f := fun s => fR_read_b31 x1 s.1 s.2) (s := (c, A)) this]
    exact ⟨_, rfl, Or.inl rfl⟩
/-- the reader's line of a text's kind -/
def lineK (x1 : Int32) (x5 : Int32) (A : Mm) : Option Mm := if x1 = 0 then fR_lawLine x5 A else if x1 = 1 then fR_postLine x5 A else if x1 = 2 then fR_walkLine x5 A else fR_streetLine x5 A
/-- line by line, both alike -/
theorem lines_go {β : Type} {b : Nat → Nat} {L : Nat} {x1 : Int32} (hx : x1 = 0 ∨ x1 = 1 ∨ x1 = 2 ∨ x1 = 3) (hL : L ≤ 400) (g : Int32 → Mm → Option ((Int32 × Mm) ⊕ β)) (fin : β → Option (Int32 × Mm)) (R : Nat → Mm → Mm → Prop) (Bd : Mm → Mm → Prop)
    (H : ∀ k A B, k ≤ 16 → R k A B → ∃ i, PS A B b L i ∧ (i = cs b L → ∃ y, g (nI k) B = some (Sum.inr y) ∧ fin y = some (nI k, B)) ∧ (i < cs b L → fR_isFirstWord x1 (A 163 i) = some 0 → Bd (bA A 1 (B 217 12)) (fM_errs 1 B).2 ∧ ∃ y, g (nI k) B = some (Sum.inr y) ∧ fin y = some (-1, (fM_errs 1 B).2)) ∧ (fR_isFirstWord x1 (A 163 i) = some 1 → k = 16 → Bd (bA A 3 (B 217 12)) (fM_errs 3 B).2 ∧ ∃ y, g (nI k) B = some (Sum.inr y) ∧ fin y = some (-1, (fM_errs 3 B).2)) ∧ (fR_isFirstWord x1 (A 163 i) = some 1 → k < 16 → Go (lineK x1 (nI k) A) (fun A' => Go (g (nI k) B) (fun r => (∃ B', r = Sum.inl (nI (k + 1), B') ∧ R (k + 1) A' B') ∨ (∃ y B', r = Sum.inr y ∧ fin y = some (-1, B') ∧ FLT A' B' ∧ Bd A' B')))) ∧ (fR_isFirstWord x1 (A 163 i) = some 0 ∨ fR_isFirstWord x1 (A 163 i) = some 1))
    {A B : Mm} (h0 : R 0 A B) :
    Go (lp 1000000 (fun s => fR_read_b31 x1 s.1 s.2) (0, A)) (fun y => Go (Option.bind (lp 1000000 (fun s => g s.1 s.2) (0, B)) fin) (fun r => ∃ A', (y = Sum.inl A' ∨ y = Sum.inr A') ∧ ((∃ k, r.1 = nI k ∧ k ≤ 16 ∧ A' 146 1 = 0 ∧ R k A' r.2) ∨ (r.1 = -1 ∧ FLT A' r.2 ∧ Bd A' r.2)))) := by
  have key : Go (lp 1000000 (fun s => fR_read_b31 x1 s.1 s.2) (0, A)) (fun y => Go (lp 1000000 (fun s => g s.1 s.2) (0, B)) (fun y' => ∃ A' B', (y = Sum.inl A' ∨ y = Sum.inr A') ∧ ((∃ k, fin y' = some (nI k, B') ∧ k ≤ 16 ∧ A' 146 1 = 0 ∧ R k A' B') ∨ (fin y' = some (-1, B') ∧ FLT A' B' ∧ Bd A' B')))) := by
    refine go_lp2x (fun q s t => ∃ k A1 B1, q = 16 - k ∧ k ≤ 16 ∧ s = (nI k, A1) ∧ t = (nI k, B1) ∧ R k A1 B1) ?_ 1000000 16 _ _ (by omega) ⟨0, A, B, rfl, by omega, rfl, rfl, h0⟩
    rintro q s t ⟨k, A1, B1, rfl, hk, rfl, rfl, hR⟩
    obtain ⟨i, ps, hE, hN, h16, hl, hw⟩ := H k A1 B1 hk hR
    have f0 : A1 146 1 = 0 := ps.2.2.2.2.1
    have te := (ps.tok hL).2.2
    have iN := ps.2.2.2.2.2
    dsimp only
    unfold fR_read_b31
    rw [sort_ok hL ps]
    refine Go.no (by rw [(lit_nI _ : (16 : Int32) = nI 16), nI_lt' (by omega) (by omega)]; omega) ?_
    refine go_bind.mpr ?_
    refine Go.some ?_
    by_cases e : i = cs b L
    · obtain ⟨y, y1, y2⟩ := hE e
      refine Go.yes (te.mpr e) ?_
      refine Go.some ?_
      rw [y1]
      refine Go.some ?_
      exact ⟨A1, B1, Or.inr rfl, Or.inl ⟨k, y2, hk, f0, hR⟩⟩
    refine Go.no (fun z => e (te.mp z)) ?_
    refine go_bind.mpr ?_
    unfold fR_begins
    rw [sort_ok hL ps]
    rcases hw with w | w
    · obtain ⟨hb, y, y1, y2⟩ := hN (by omega) w
      have nf : ¬ bA A1 1 (B1 217 12) 146 1 = 0 := by unfold bA; rw [mput_s (by omega), mput_same]; decide
      refine go_bind.mpr ?_
      refine Go.some ?_
      refine go_bind.mpr ?_
      rw [w, blame_ok 1 hL ps]
      refine Go.some ?_
      refine go_bind.mpr ?_
      refine Go.yes (by first | rfl | (simp; done)) ?_
      refine go_bind.mpr ?_
      refine Go.some ?_
      refine Go.some ?_
      refine Go.no (nf) ?_
      refine Go.some ?_
      refine Go.yes (rfl) ?_
      refine Go.some ?_
      rw [y1]
      refine Go.some ?_
      exact ⟨_, _, Or.inl rfl, Or.inr ⟨y2, flt_bA (by decide), hb⟩⟩
    · refine go_bind.mpr ?_
      refine Go.some ?_
      refine go_bind.mpr ?_
      rw [w, blame_ok 3 hL ps]
      refine Go.some ?_
      refine go_bind.mpr ?_
      refine Go.no (by first | decide | (simp; done)) ?_
      by_cases k16 : k = 16
      · obtain ⟨hb, y, y1, y2⟩ := h16 w k16
        have nf : ¬ bA A1 3 (B1 217 12) 146 1 = 0 := by unfold bA; rw [mput_s (by omega), mput_same]; decide
        refine Go.no (by rw [(lit_nI _ : (16 : Int32) = nI 16), nI_lt' (by omega) (by omega)]; omega) ?_
        refine go_bind.mpr ?_
        refine Go.some ?_
        refine Go.some ?_
        refine Go.no (nf) ?_
        refine Go.some ?_
        refine Go.yes (rfl) ?_
        refine Go.some ?_
        rw [y1]
        refine Go.some ?_
        exact ⟨_, _, Or.inl rfl, Or.inr ⟨y2, flt_bA (by decide), hb⟩⟩
      · refine Go.yes (by rw [(lit_nI _ : (16 : Int32) = nI 16), nI_lt' (by omega) (by omega)]; omega) ?_
        refine Go.some ?_
        refine Go.yes (f0) ?_
        refine Go.some ?_
        refine Go.no (by show ¬ (1 : Int32) = 0; decide) ?_
        refine go_bind.mpr ?_
        obtain ⟨A', a1, r, r1, hr⟩ := hl w (by omega)
        have le : (if x1 = 0 then Option.bind (fR_lawLine (nI k) A1) fun Mz12 => some Mz12 else if x1 = 1 then Option.bind (fR_postLine (nI k) A1) fun Mz14 => some Mz14 else if x1 = 2 then Option.bind (fR_walkLine (nI k) A1) fun Mz16 => some Mz16 else Option.bind (fR_streetLine (nI k) A1) fun Mz18 => some Mz18) = some A' := by
          rw [← a1]
          unfold lineK
          simp only [Option.bind_fun_some]
        refine ⟨A', le, ?_⟩
        refine Go.some ?_
        refine ⟨r, r1, ?_⟩
        rcases hr with ⟨B', rfl, q2⟩ | ⟨y, B', rfl, q2, q3, q4⟩
        · rw [nI_1]
          exact ⟨16 - (k + 1), by omega, k + 1, A', B', rfl, by omega, rfl, rfl, q2⟩
        · intro n hn
          refine (read_bad x1 _ hx q3.1 n hn).mono fun z hz => ⟨A', B', hz, Or.inr ⟨q2, q3, q4⟩⟩
  obtain ⟨y, y1, y', y2, A', B', h1, h2⟩ := key
  refine ⟨y, y1, ?_⟩
  refine go_bind.mpr ?_
  refine ⟨y', y2, ?_⟩
  rcases h2 with ⟨k, k1, k2, k3, k4⟩ | ⟨k1, k2, k3⟩
  · rw [k1]
    refine Go.some ?_
    exact ⟨A', h1, Or.inl ⟨k, rfl, k2, k3, k4⟩⟩
  · rw [k1]
    refine Go.some ?_
    exact ⟨A', h1, Or.inr ⟨rfl, k2, k3⟩⟩
theorem ST.gen {A B A' B' : Mm} {b : Nat → Nat} {L i n : Nat} {f : FG} {σ : List Nat} (h : ST A B b L i n f σ) (a : ∀ c k, ((162 ≤ c ∧ c ≤ 165) ∨ (c = 146 ∧ (k = 1 ∨ k = 2 ∨ k = 4)) ∨ (c = 148 ∧ k = 1) ∨ c = 153) → A' c k = A c k) (m : ∀ c k, ((c = 217 ∧ ((10 ≤ k ∧ k ≤ 14) ∨ k = 24)) ∨ c = 223 ∨ c = 224 ∨ c = 230 ∨ c = 231) → B' c k = B c k) : ST A' B' b L i n f σ := by
  obtain ⟨h1, ⟨d1, d2, d3, d4⟩, t1, t2, t3⟩ := h
  refine ⟨h1.fr (fun c k p q => a c k (by omega)) (a 146 4 (by omega)) (a 146 1 (by omega)) (fun k p q => m 217 k (by omega)) (funext fun k => m 223 k (by omega)) (funext fun k => m 224 k (by omega)) (a 146 2 (by omega)), ⟨by rw [a 148 1 (by omega)]; exact d1, by rw [m 217 24 (by omega)]; exact d2, d3, fun k hk => ?_⟩, t1, ?_, fun k hk => by rw [m 230 _ (by omega), m 231 _ (by omega)]; exact t3 k hk⟩
  · rw [a 153 k (by omega), m 230 _ (by omega), m 231 _ (by omega)]; exact d4 k hk
  · exact Trn_cg (fun k p q => ⟨m 230 _ (by omega), m 231 _ (by omega)⟩) t2
/-- a line of the law, as drafted -/
def LD (A B : Mm) (j n : Nat) : Prop := ∃ f g h, f ≤ g ∧ g ≤ h ∧ h ≤ n ∧ A 149 j = B 226 (32 + j) ∧ A 150 j = nI f ∧ B 227 (32 + j) = nI f ∧ A 151 j = nI g ∧ B 228 (32 + j) = nI g ∧ A 152 j = nI h ∧ B 229 (32 + j) = nI h ∧ (∃ z, z ≠ 1 ∧ Trn (fun k => B 230 (800 + k)) (fun k => B 231 (800 + k)) f (g - f) [] [z]) ∧ (g = h ∨ Trn (fun k => B 230 (800 + k)) (fun k => B 231 (800 + k)) g (h - g) [] [1])
theorem LD.fr {A B A' B' : Mm} {j n n' : Nat} (hn : n ≤ n') (h : LD A B j n) (a : ∀ c, 149 ≤ c → c ≤ 152 → A' c j = A c j) (m : ∀ c, 226 ≤ c → c ≤ 229 → B' c (32 + j) = B c (32 + j)) (o : ∀ k, k < n → B' 230 (800 + k) = B 230 (800 + k) ∧ B' 231 (800 + k) = B 231 (800 + k)) : LD A' B' j n' := by
  obtain ⟨f, g, h, k1, k2, k3, k4, k5, k6, k7, k8, k9, k10, ⟨z, hz, k11⟩, k12⟩ := h
  refine ⟨f, g, h, k1, k2, by omega, by rw [a 149 (by omega) (by omega), m 226 (by omega) (by omega)]; exact k4, by rw [a 150 (by omega) (by omega)]; exact k5, by rw [m 227 (by omega) (by omega)]; exact k6, by rw [a 151 (by omega) (by omega)]; exact k7, by rw [m 228 (by omega) (by omega)]; exact k8, by rw [a 152 (by omega) (by omega)]; exact k9, by rw [m 229 (by omega) (by omega)]; exact k10, ⟨z, hz, Trn_cg (fun k p q => o k (by omega)) k11⟩, k12.imp id fun q => Trn_cg (fun k p q => o k (by omega)) q⟩
def lwR (A0 B0 : Mm) (b : Nat → Nat) (L k : Nat) (A B : Mm) : Prop := ∃ i n, PS A B b L i ∧ ED A B n ∧ n ≤ i ∧ B 217 25 = 0 ∧ (∀ j, j < k → LD A B j n) ∧ A 148 0 = nI k ∧ gF A0 A ∧ hF B0 B
end PmLines
