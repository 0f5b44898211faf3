section PmCond
/-! what a condition may touch -/
def cF (A A' : Mm) : Prop := ∀ c k, ¬ ((c = 146 ∧ k ≠ 5) ∨ (c = 148 ∧ k = 1) ∨ c = 153 ∨ c = 167) → A' c k = A c k
def dF (B B' : Mm) : Prop := ∀ c k, ¬ ((c = 217 ∧ ((11 ≤ k ∧ k ≤ 14) ∨ (24 ≤ k ∧ k ≤ 29))) ∨ ((c = 230 ∨ c = 231) ∧ 800 ≤ k) ∨ c = 232) → B' c k = B c k
theorem cF.rfl' (A : Mm) : cF A A := fun _ _ _ => rfl
theorem dF.rfl' (B : Mm) : dF B B := fun _ _ _ => rfl
theorem cF.trans {A A1 A2 : Mm} (h : cF A A1) (k : cF A1 A2) : cF A A2 := fun c j q => by rw [k c j q, h c j q]
theorem dF.trans {B B1 B2 : Mm} (h : dF B B1) (k : dF B1 B2) : dF B B2 := fun c j q => by rw [k c j q, h c j q]
theorem cF.put {A A' : Mm} {a k : Nat} {v : Int32} (h : cF A A') (q : (a = 146 ∧ k ≠ 5) ∨ (a = 148 ∧ k = 1) ∨ a = 153 ∨ a = 167) : cF A (mput A' a k v) := fun c j z => by
  rw [mput_q (fun w => z (by rw [w.1, w.2]; exact q))]; exact h c j z
theorem dF.put {B B' : Mm} {a k : Nat} {v : Int32} (h : dF B B') (q : (a = 217 ∧ ((11 ≤ k ∧ k ≤ 14) ∨ (24 ≤ k ∧ k ≤ 29))) ∨ ((a = 230 ∨ a = 231) ∧ 800 ≤ k) ∨ a = 232) : dF B (mput B' a k v) := fun c j z => by
  rw [mput_q (fun w => z (by rw [w.1, w.2]; exact q))]; exact h c j z
theorem eF.c {A A' : Mm} (h : eF A A') : cF A A' := fun c k q => h c k (by omega)
theorem mF.d {B B' : Mm} (h : mF B B') : dF B B' := fun c k q => h c k (by omega)
theorem rF.d {B B' : Mm} (h : rF B B') : dF B B' := fun c k q => h c k (by omega)
def fC (A A' : Mm) : Prop := Flt A' ∧ A' 146 1 = A 146 1 ∧ A' 146 2 = A 146 2 ∧ cF A A'
theorem fC.rfl' {A : Mm} (h : Flt A) : fC A A := ⟨h, rfl, rfl, cF.rfl' A⟩
theorem fC.trans {A A1 A2 : Mm} (h : fC A A1) (k : fC A1 A2) : fC A A2 := ⟨k.1, k.2.1.trans h.2.1, k.2.2.1.trans h.2.2.1, h.2.2.2.trans k.2.2.2⟩
theorem fC.flt {A A' B : Mm} (h : FLT A B) (k : fC A A') : FLT A' B := ⟨by rw [k.2.1]; exact h.1, by rw [k.2.1]; exact h.2.1, by rw [k.2.2.1]; exact h.2.2⟩
theorem fF.c {A A' : Mm} (h : fF A A') : fC A A' := ⟨h.1, h.2.1, h.2.2.1, h.2.2.2.c⟩
def emK (A : Mm) (n : Nat) : List Nat → Mm
  | [] => A
  | x :: xs => emK (aEm A n (kc x)) (n + 1) xs
def emM (B : Mm) (n : Nat) : List Nat → Mm
  | [] => B
  | x :: xs => emM (bEm B n (mo x) 0) (n + 1) xs
theorem emK_app : ∀ (xs ys : List Nat) (A : Mm) (n : Nat), emK A n (xs ++ ys) = emK (emK A n xs) (n + xs.length) ys
  | [], _, _, _ => rfl
  | x :: xs, ys, A, n => by
    show emK (aEm A n (kc x)) (n + 1) (xs ++ ys) = emK (emK (aEm A n (kc x)) (n + 1) xs) (n + (xs.length + 1)) ys
    rw [emK_app xs ys, show n + 1 + xs.length = n + (xs.length + 1) by omega]
theorem emM_app : ∀ (xs ys : List Nat) (B : Mm) (n : Nat), emM B n (xs ++ ys) = emM (emM B n xs) (n + xs.length) ys
  | [], _, _, _ => rfl
  | x :: xs, ys, B, n => by
    show emM (bEm B n (mo x) 0) (n + 1) (xs ++ ys) = emM (emM (bEm B n (mo x) 0) (n + 1) xs) (n + (xs.length + 1)) ys
    rw [emM_app xs ys, show n + 1 + xs.length = n + (xs.length + 1) by omega]
theorem emK_mput : ∀ (xs : List Nat) (A : Mm) (n k : Nat) (v : Int32), emK (mput A 146 k v) n xs = mput (emK A n xs) 146 k v
  | [], _, _, _, _ => rfl
  | x :: xs, A, n, k, v => by
    show emK (aEm (mput A 146 k v) n (kc x)) (n + 1) xs = mput (emK (aEm A n (kc x)) (n + 1) xs) 146 k v
    rw [aEm_mput, emK_mput xs]
/-- only steps and their number -/
theorem emK_fr : ∀ (xs : List Nat) (A : Mm) (n : Nat) (c k : Nat), ¬ ((c = 148 ∧ k = 1) ∨ c = 153) → emK A n xs c k = A c k
  | [], _, _, _, _, _ => rfl
  | x :: xs, A, n, c, k, h => by
    show emK (aEm A n (kc x)) (n + 1) xs c k = A c k
    rw [emK_fr xs _ _ c k h]
    unfold aEm
    rw [mput_q (by omega), mput_q (by omega)]
theorem emM_fr : ∀ (xs : List Nat) (B : Mm) (n : Nat) (c k : Nat), ¬ ((c = 217 ∧ k = 24) ∨ ((c = 230 ∨ c = 231) ∧ 800 ≤ k)) → emM B n xs c k = B c k
  | [], _, _, _, _, _ => rfl
  | x :: xs, B, n, c, k, h => by
    show emM (bEm B n (mo x) 0) (n + 1) xs c k = B c k
    rw [emM_fr xs _ _ c k h]
    unfold bEm
    rw [mput_q (by omega), mput_q (by omega), mput_q (by omega)]
theorem emK_148 : ∀ (xs : List Nat) (A : Mm) (n : Nat), A 148 1 = nI n → emK A n xs 148 1 = nI (n + xs.length)
  | [], _, _, h => h
  | x :: xs, A, n, h => by
    show emK (aEm A n (kc x)) (n + 1) xs 148 1 = nI (n + (xs.length + 1))
    rw [emK_148 xs (aEm A n (kc x)) (n + 1) (mput_same _ _ _ _), show n + 1 + xs.length = n + (xs.length + 1) by omega]
theorem emM_24 : ∀ (xs : List Nat) (B : Mm) (n : Nat), B 217 24 = nI n → emM B n xs 217 24 = nI (n + xs.length)
  | [], _, _, h => h
  | x :: xs, B, n, h => by
    show emM (bEm B n (mo x) 0) (n + 1) xs 217 24 = nI (n + (xs.length + 1))
    rw [emM_24 xs (bEm B n (mo x) 0) (n + 1) (mput_same _ _ _ _), show n + 1 + xs.length = n + (xs.length + 1) by omega]
theorem cF_emK (A : Mm) (n : Nat) (xs : List Nat) : cF A (emK A n xs) := fun c k q => emK_fr xs A n c k (by omega)
theorem dF_emM (B : Mm) (n : Nat) (xs : List Nat) : dF B (emM B n xs) := fun c k q => emM_fr xs B n c k (by omega)
/-- cells that ST speaks of -/
theorem ST.fr {A B A' B' : Mm} {b : Nat → Nat} {L i n : Nat} {f : FG} {σ : List Nat} (h : ST A B b L i n f σ) (a : ∀ c k, ¬ (c = 146 ∧ k ≠ 1 ∧ k ≠ 2 ∧ k ≠ 4) → ¬ c = 167 → A' c k = A c k) (m : ∀ c k, ¬ (c = 217 ∧ 25 ≤ k ∧ k ≤ 29) → ¬ c = 232 → B' c k = B c k) : ST A' B' b L i n f σ := by
  obtain ⟨h1, ⟨d1, d2, d3, d4⟩, t1, t2, t3⟩ := h
  refine ⟨h1.fr (fun c k p q => a c k (by omega) (by omega)) (a 146 4 (by omega) (by omega)) (a 146 1 (by omega) (by omega)) (fun k p q => m 217 k (by omega) (by omega)) (funext fun k => m 223 k (by omega) (by omega)) (funext fun k => m 224 k (by omega) (by omega)) (a 146 2 (by omega) (by omega)), ⟨by rw [a 148 1 (by omega) (by omega)]; exact d1, by rw [m 217 24 (by omega) (by omega)]; exact d2, d3, fun k hk => ?_⟩, t1, ?_, fun k hk => by rw [m 230 _ (by omega) (by omega), m 231 _ (by omega) (by omega)]; exact t3 k hk⟩
  · rw [a 153 k (by omega) (by omega), m 230 _ (by omega) (by omega), m 231 _ (by omega) (by omega)]; exact d4 k hk
  · exact Trn_cg (fun k p q => ⟨m 230 _ (by omega) (by omega), m 231 _ (by omega) (by omega)⟩) t2
theorem tst_x {x : Nat} (h1 : 1 ≤ x) (h3 : x ≤ 3) (σ : List Nat) : tst (mo x) 0 (1 :: (List.replicate (if x = 1 ∨ x = 2 then 1 else 0) 1 ++ σ)) = some (1 :: σ) := by
  have hx : x = 1 ∨ x = 2 ∨ x = 3 := by omega
  rcases hx with rfl | rfl | rfl <;> rfl
theorem enc_x {x : Nat} (h1 : 1 ≤ x) (h3 : x ≤ 3) : Enc (kc x) (mo x) 0 := by
  have hx : x = 1 ∨ x = 2 ∨ x = 3 := by omega
  unfold Enc
  rcases hx with rfl | rfl | rfl
  · exact Or.inr (Or.inr (Or.inr (Or.inr (Or.inr (Or.inr (Or.inr (Or.inr (Or.inr (Or.inr (Or.inr ⟨rfl, rfl⟩))))))))))
  · exact Or.inr (Or.inr (Or.inr (Or.inr (Or.inr (Or.inr (Or.inr (Or.inr (Or.inr (Or.inr (Or.inl ⟨rfl, rfl⟩))))))))))
  · exact Or.inr (Or.inr (Or.inr (Or.inr (Or.inr (Or.inr (Or.inr (Or.inr (Or.inr (Or.inl ⟨rfl, rfl⟩)))))))))
theorem rep_add (a c : Nat) : List.replicate (a + c) (1 : Nat) = List.replicate a 1 ++ List.replicate c 1 := by
  induction a with
  | zero => rw [Nat.zero_add]; rfl
  | succ a ih => rw [Nat.add_right_comm, List.replicate_succ, ih]; rfl
theorem ST.emits {b : Nat → Nat} {L i : Nat} {f : FG} : ∀ (xs : List Nat) {A B : Mm} {n m : Nat}, (∀ x, x ∈ xs → 1 ≤ x ∧ x ≤ 3) → n + xs.length ≤ 400 → bin xs + m ≤ 30 → ST A B b L i n f (1 :: List.replicate (bin xs + m) 1) → ST (emK A n xs) (emM B n xs) b L i (n + xs.length) f (1 :: List.replicate m 1)
  | [], A, B, n, m, _, _, _, h => by
    have e : bin [] + m = m := Nat.zero_add m
    rw [e] at h; exact h
  | x :: xs, A, B, n, m, hx, hn, hb, h => by
    obtain ⟨x1, x3⟩ := hx x (List.mem_cons_self ..)
    have hn : n + (xs.length + 1) ≤ 400 := hn
    rw [bin_c] at h hb
    have e : List.replicate (bin xs + (if x = 1 ∨ x = 2 then 1 else 0) + m) 1 = List.replicate (if x = 1 ∨ x = 2 then 1 else 0) 1 ++ List.replicate (bin xs + m) (1 : Nat) := by
      rw [← rep_add]; exact congrArg (fun k => List.replicate k (1 : Nat)) (by omega)
    rw [e] at h
    have s1 := h.emit (show n < 400 by omega) (enc_x x1 x3) (tst_x x1 x3 _) (by rw [List.length_cons, List.length_replicate]; omega)
    have s2 := ST.emits xs (fun y hy => hx y (List.mem_cons_of_mem _ hy)) (by omega) (by omega) s1
    show ST (emK (aEm A n (kc x)) (n + 1) xs) (emM (bEm B n (mo x) 0) (n + 1) xs) b L i (n + (xs.length + 1)) f _
    rw [show n + (xs.length + 1) = n + 1 + xs.length by omega]
    exact s2
def SK (A : Mm) : List Nat → Prop
  | [] => True
  | x :: V => A 167 V.length = kc x ∧ SK A V
def SM (B : Mm) : List Nat → Prop
  | [] => True
  | x :: V => B 232 V.length = mo x ∧ SM B V
theorem SK_cg {A A' : Mm} : ∀ {W : List Nat}, (∀ k, k < W.length → A' 167 k = A 167 k) → SK A W → SK A' W
  | [], _, _ => trivial
  | x :: V, e, ⟨h1, h2⟩ => ⟨by rw [e V.length (by rw [List.length_cons]; omega)]; exact h1, SK_cg (fun k hk => e k (by rw [List.length_cons]; omega)) h2⟩
theorem SM_cg {B B' : Mm} : ∀ {W : List Nat}, (∀ k, k < W.length → B' 232 k = B 232 k) → SM B W → SM B' W
  | [], _, _ => trivial
  | x :: V, e, ⟨h1, h2⟩ => ⟨by rw [e V.length (by rw [List.length_cons]; omega)]; exact h1, SM_cg (fun k hk => e k (by rw [List.length_cons]; omega)) h2⟩
theorem SK_app {A : Mm} : ∀ {X V : List Nat}, SK A (X ++ V) → SK A V
  | [], _, h => h
  | _ :: _, _, h => SK_app h.2
theorem SM_app {B : Mm} : ∀ {X V : List Nat}, SM B (X ++ V) → SM B V
  | [], _, h => h
  | _ :: _, _, h => SM_app h.2
theorem kc_lt {x t : Nat} (hx : x ≤ 3) (ht : t = 1 ∨ t = 2) : kc x < kc t ↔ ¬ t ≤ x := by
  have : ∀ x : Fin 4, ∀ t : Fin 3, 1 ≤ t.val → (kc x.val < kc t.val ↔ ¬ t.val ≤ x.val) := by decide
  exact this ⟨x, by omega⟩ ⟨t, by omega⟩ (by show 1 ≤ t; omega)
theorem kc_3 {x : Nat} (hx : x ≤ 3) : kc x = 20003 ↔ x = 3 := by
  have : ∀ x : Fin 4, kc x.val = 20003 ↔ x.val = 3 := by decide
  exact this ⟨x, by omega⟩
theorem mo_eq {x y : Nat} (hx : x ≤ 3) (hy : y ≤ 3) : mo x = mo y ↔ x = y := by
  have : ∀ x y : Fin 4, mo x.val = mo y.val ↔ x.val = y.val := by decide
  exact this ⟨x, by omega⟩ ⟨y, by omega⟩
theorem ok_mem : ∀ {W : List Nat}, okW W → ∀ x, x ∈ W → x ≤ 3
  | [], _, x, h => by cases h
  | y :: V, ⟨h1, h2, _⟩, x, h => by
    cases h with
    | head => exact h2
    | tail _ h => exact ok_mem h1 x h
/-- what waits is settled, by the reader -/
theorem settle_go {A : Mm} {W : List Nat} {t n : Nat} (ht : t = 1 ∨ t = 2) (hW : okW W) (hl : W.length ≤ 32) (hk : SK A W) (h7 : A 146 7 = nI W.length) (h8 : A 146 8 = nI (opn W)) (h1 : A 148 1 = nI n) (hn : n + nb W ≤ 400) :
    Go (fR_settle (kc t) A) (fun A' => A' 146 7 = nI (popK t W).length ∧ A' 146 8 = nI (opn (popK t W)) ∧ ∀ c k, ¬ (c = 146 ∧ (k = 7 ∨ k = 8)) → A' c k = emK A n (plK t W) c k) := by
  unfold fR_settle
  refine Go.bind (P := fun A' => A' 146 7 = nI (popK t W).length ∧ A' 146 8 = nI (opn (popK t W)) ∧ ∀ c k, ¬ (c = 146 ∧ (k = 7 ∨ k = 8)) → A' c k = emK A n (plK t W) c k) ?_ (fun e he => Go.some he)
  have e0 : A 146 7 - 1 = nI W.length + (-1) := by rw [h7]; exact Int32.sub_eq_add_neg ..
  rw [e0]
  refine go_lp (fun q s => ∃ X V A', W = X ++ V ∧ q = V.length ∧ s = (nI V.length + (-1), A') ∧ plK t W = X ++ plK t V ∧ popK t W = popK t V ∧ nb X = X.length ∧ A' 146 7 = nI V.length ∧ A' 146 8 = nI (opn V) ∧ ∀ c k, ¬ (c = 146 ∧ (k = 7 ∨ k = 8)) → A' c k = emK A n X c k) ?_ 1000000 W.length _ (by omega) ⟨[], W, A, rfl, rfl, rfl, rfl, rfl, rfl, h7, h8, fun _ _ _ => rfl⟩
  rintro q s ⟨X, V, A', e1, rfl, rfl, e2, e3, e4, e5, e6, fr⟩
  unfold fR_settle_b7
  dsimp only
  cases V with
  | nil =>
    refine Go.yes (by decide) ?_
    refine Go.some ?_
    rw [e2, e3]
    exact ⟨e5, e6, fun c k q => by rw [show X ++ plK t [] = X from List.append_nil X]; exact fr c k q⟩
  | cons x V =>
    have lV : V.length < 32 := by
      rw [e1, List.length_append, List.length_cons] at hl; omega
    have x3 : x ≤ 3 := ok_mem hW x (by rw [e1]; exact List.mem_append_right _ (List.mem_cons_self ..))
    have e7 : nI (x :: V).length + (-1) = nI V.length := by rw [List.length_cons, nI_dec (by omega), Nat.add_sub_cancel]
    have c1 : A' 167 V.length = kc x := by
      rw [fr 167 _ (by omega), emK_fr X A n 167 _ (by omega)]
      have := SK_app (X := X) (V := x :: V) (by rw [← e1]; exact hk)
      exact this.1
    have iv : inb (nI V.length) 32 := (inb_nI (by omega)).mpr lV
    rw [e7, jix_nI (show V.length < 2147483648 by omega)]
    refine Go.no (nI_nneg (by omega)) ?_
    refine Go.gd (iv) ?_
    by_cases l : t ≤ x
    · have nbx : n + X.length < 400 := by
        rw [e1, nb_app, nb_c, e4, if_neg (by omega)] at hn; omega
      have s148 : A' 148 1 = nI (n + X.length) := by rw [fr 148 1 (by omega)]; exact emK_148 X A n h1
      refine Go.no (by rw [c1, kc_lt x3 ht]; exact fun k => k l) ?_
      refine Go.gd (iv) ?_
      refine go_bind.mpr ?_
      rw [c1, step_eq _ s148 nbx]
      refine Go.some ?_
      refine Go.gd (iv) ?_
      have c2 : aEm A' (n + X.length) (kc x) 167 V.length = kc x := by unfold aEm; rw [mput_r (by omega), mput_r (by omega)]; exact c1
      have c8 : aEm A' (n + X.length) (kc x) 146 8 = nI (opn (x :: V)) := by unfold aEm; rw [mput_r (by omega), mput_r (by omega)]; exact e6
      have nx : W = (X ++ [x]) ++ V := by rw [e1, List.append_assoc]; rfl
      have pl : plK t W = (X ++ [x]) ++ plK t V := by
        rw [e2, List.append_assoc]
        show X ++ (if t ≤ x then x :: plK t V else []) = X ++ ([x] ++ plK t V)
        rw [if_pos l]; rfl
      have pp : popK t W = popK t V := by
        rw [e3]
        show (if t ≤ x then popK t V else x :: V) = popK t V
        rw [if_pos l]
      have nbX : nb (X ++ [x]) = (X ++ [x]).length := by
        rw [nb_app, e4, List.length_append]
        show X.length + (0 + (if x = 0 then 0 else 1)) = X.length + 1
        rw [if_neg (by omega)]
      have em : ∀ c k, ¬ (c = 146 ∧ (k = 7 ∨ k = 8)) → aEm A' (n + X.length) (kc x) c k = emK A n (X ++ [x]) c k := by
        intro c k q
        rw [emK_app]
        show aEm A' (n + X.length) (kc x) c k = aEm (emK A n X) (n + X.length) (kc x) c k
        unfold aEm
        by_cases w1 : c = 148 ∧ k = 1
        · rw [w1.1, w1.2, mput_same, mput_same]
        · rw [mput_q w1, mput_q w1]
          by_cases w2 : c = 153 ∧ k = n + X.length
          · rw [w2.1, w2.2, mput_same, mput_same]
          · rw [mput_q w2, mput_q w2]; exact fr c k q
      refine go_bind.mpr ?_
      by_cases z : x = 3
      · refine Go.yes (by rw [c2]; exact (kc_3 x3).mpr z) ?_
        refine Go.some ?_
        refine Go.some ?_
        refine ⟨V.length, by rw [List.length_cons]; omega, X ++ [x], V, _, nx, rfl, rfl, pl, pp, nbX, mput_same _ _ _ _, ?_, fun c k q => ?_⟩
        · rw [mput_s (by omega), mput_same, c8, opn_c, if_pos (Or.inr z), (lit_nI _ : (1 : Int32) = nI 1), nI_sub' (by omega), Nat.add_sub_cancel]
        · rw [mput_q (by omega), mput_q (by omega)]; exact em c k q
      · refine Go.no (by rw [c2]; exact fun k => z ((kc_3 x3).mp k)) ?_
        refine Go.some ?_
        refine Go.some ?_
        refine ⟨V.length, by rw [List.length_cons]; omega, X ++ [x], V, _, nx, rfl, rfl, pl, pp, nbX, mput_same _ _ _ _, ?_, fun c k q => ?_⟩
        · rw [mput_s (by omega), c8, opn_c, if_neg (by omega)]; rfl
        · rw [mput_q (by omega)]; exact em c k q
    · refine Go.yes (by rw [c1, kc_lt x3 ht]; exact l) ?_
      refine Go.some ?_
      have pl : plK t (x :: V) = [] := by show (if t ≤ x then x :: plK t V else []) = []; rw [if_neg l]
      have pp : popK t (x :: V) = x :: V := by show (if t ≤ x then popK t V else x :: V) = x :: V; rw [if_neg l]
      rw [e2, e3, pl, pp, List.append_nil]
      exact ⟨e5, e6, fr⟩
/-- and by the model -/
theorem settles_go {B : Mm} {W : List Nat} {t n : Nat} (ht : 1 ≤ t) (h3 : t ≤ 3) (hW : okW W) (hl : W.length ≤ 40) (hk : SM B W) (h7 : B 217 27 = nI W.length) (h8 : B 217 25 = nI (opn W)) (h1 : B 217 24 = nI n) (hn : n + nb W ≤ 400) :
    Go (fM_settles (mo t) B) (fun B' => B' 217 27 = nI (popE t W).length ∧ B' 217 25 = nI (opn (popE t W)) ∧ ∀ c k, ¬ (c = 217 ∧ (k = 25 ∨ k = 27)) → B' c k = emM B n (plE t W) c k) := by
  unfold fM_settles
  refine Go.bind (P := fun B' => B' 217 27 = nI (popE t W).length ∧ B' 217 25 = nI (opn (popE t W)) ∧ ∀ c k, ¬ (c = 217 ∧ (k = 25 ∨ k = 27)) → B' c k = emM B n (plE t W) c k) ?_ (fun e he => Go.some he)
  refine go_lp (fun q B' => ∃ X V, W = X ++ V ∧ q = V.length ∧ plE t W = X ++ plE t V ∧ popE t W = popE t V ∧ nb X = X.length ∧ B' 217 27 = nI V.length ∧ B' 217 25 = nI (opn V) ∧ ∀ c k, ¬ (c = 217 ∧ (k = 25 ∨ k = 27)) → B' c k = emM B n X c k) ?_ 1000000 W.length _ (by omega) ⟨[], W, rfl, rfl, rfl, rfl, rfl, h7, h8, fun _ _ _ => rfl⟩
  rintro q B' ⟨X, V, e1, rfl, e2, e3, e4, e5, e6, fr⟩
  unfold fM_settles_b0
  cases V with
  | nil =>
    refine Go.yes (by rw [e5]; decide) ?_
    refine Go.some ?_
    rw [e2, e3]
    exact ⟨e5, e6, fun c k q => by rw [show X ++ plE t [] = X from List.append_nil X]; exact fr c k q⟩
  | cons x V =>
    have lV : V.length < 40 := by
      rw [e1, List.length_append, List.length_cons] at hl; omega
    have x3 : x ≤ 3 := ok_mem hW x (by rw [e1]; exact List.mem_append_right _ (List.mem_cons_self ..))
    have e7 : B' 217 27 - 1 = nI V.length := by rw [e5, List.length_cons, (lit_nI _ : (1 : Int32) = nI 1), nI_sub' (by omega), Nat.add_sub_cancel]
    have c1 : B' 232 V.length = mo x := by
      rw [fr 232 _ (by omega), emM_fr X B n 232 _ (by omega)]
      have := SM_app (X := X) (V := x :: V) (by rw [← e1]; exact hk)
      exact this.1
    rw [e7, jix_nI (show V.length < 2147483648 by omega), c1]
    refine Go.no (by rw [e5, ← nI_zero, nI_le' (by rw [List.length_cons]; omega) (by omega), List.length_cons]; omega) ?_
    refine Go.gd ((inb_nI (by omega)).mpr lV) ?_
    by_cases l : x = t
    · subst l
      have nbx : n + X.length < 400 := by
        rw [e1, nb_app, nb_c, e4, if_neg (by omega)] at hn; omega
      have s24 : mput B' 217 27 (nI V.length) 217 24 = nI (n + X.length) := by rw [mput_s (by omega), fr 217 24 (by omega)]; exact emM_24 X B n h1
      refine Go.yes (rfl) ?_
      refine go_bind.mpr ?_
      rw [emit_eq _ _ s24 nbx]
      refine Go.some ?_
      have c8 : bEm (mput B' 217 27 (nI V.length)) (n + X.length) (mo x) 0 217 25 = nI (opn (x :: V)) := by unfold bEm; rw [mput_s (by omega), mput_r (by omega), mput_r (by omega), mput_s (by omega)]; exact e6
      have c7 : bEm (mput B' 217 27 (nI V.length)) (n + X.length) (mo x) 0 217 27 = nI V.length := by unfold bEm; rw [mput_s (by omega), mput_r (by omega), mput_r (by omega), mput_same]
      have nx : W = (X ++ [x]) ++ V := by rw [e1, List.append_assoc]; rfl
      have pl : plE x W = (X ++ [x]) ++ plE x V := by
        rw [e2, List.append_assoc]
        show X ++ (if x = x then x :: plE x V else []) = X ++ ([x] ++ plE x V)
        rw [if_pos rfl]; rfl
      have pp : popE x W = popE x V := by
        rw [e3]
        show (if x = x then popE x V else x :: V) = popE x V
        rw [if_pos rfl]
      have nbX : nb (X ++ [x]) = (X ++ [x]).length := by
        rw [nb_app, e4, List.length_append]
        show X.length + (0 + (if x = 0 then 0 else 1)) = X.length + 1
        rw [if_neg (by omega)]
      have em : ∀ c k, ¬ (c = 217 ∧ (k = 25 ∨ k = 27)) → bEm (mput B' 217 27 (nI V.length)) (n + X.length) (mo x) 0 c k = emM B n (X ++ [x]) c k := by
        intro c k q
        rw [emM_app]
        show bEm (mput B' 217 27 (nI V.length)) (n + X.length) (mo x) 0 c k = bEm (emM B n X) (n + X.length) (mo x) 0 c k
        unfold bEm
        by_cases w1 : c = 217 ∧ k = 24
        · rw [w1.1, w1.2, mput_same, mput_same]
        · rw [mput_q w1, mput_q w1]
          by_cases w2 : c = 231 ∧ k = 800 + (n + X.length)
          · rw [w2.1, w2.2, mput_same, mput_same]
          · rw [mput_q w2, mput_q w2]
            by_cases w3 : c = 230 ∧ k = 800 + (n + X.length)
            · rw [w3.1, w3.2, mput_same, mput_same]
            · rw [mput_q w3, mput_q w3, mput_q (by omega)]; exact fr c k q
      by_cases z : x = 3
      · refine Go.yes (by rw [z]; rfl) ?_
        refine Go.some ?_
        refine ⟨V.length, by rw [List.length_cons]; omega, X ++ [x], V, nx, rfl, pl, pp, nbX, by rw [mput_s (by omega)]; exact c7, ?_, fun c k q => ?_⟩
        · rw [mput_same, c8, opn_c, if_pos (Or.inr z), (lit_nI _ : (1 : Int32) = nI 1), nI_sub' (by omega), Nat.add_sub_cancel]
        · rw [mput_q (by omega)]; exact em c k q
      · refine Go.no (fun k => z ((mo_eq x3 (by omega)).mp (k.trans (rfl : (9 : Int32) = mo 3)))) ?_
        refine Go.some ?_
        refine ⟨V.length, by rw [List.length_cons]; omega, X ++ [x], V, nx, rfl, pl, pp, nbX, c7, ?_, em⟩
        rw [c8, opn_c, if_neg (by omega)]; rfl
    · refine Go.no (fun k => l ((mo_eq x3 h3).mp k)) ?_
      refine Go.some ?_
      have pl : plE t (x :: V) = [] := by show (if x = t then x :: plE t V else []) = []; rw [if_neg l]
      have pp : popE t (x :: V) = x :: V := by show (if x = t then popE t V else x :: V) = x :: V; rw [if_neg l]
      rw [e2, e3, pl, pp, List.append_nil]
      exact ⟨e5, e6, fr⟩
end PmCond
