section PmLaw2
theorem worked_sim {A B : Mm} {f h z : Nat} (hfh : f ≤ h) (hh : h ≤ 400) (hE : ∀ k, f ≤ k → k < h → Enc (A 129 k) (B 230 k) (B 231 k)) (hK : ∀ j, j < 11 → A 130 j = B 236 j) (ht : Trn (B 230) (B 231) f (h - f) [] [z]) :
    Go (fL_worked (nI f) (nI h) A) (fun p => Go (fM_runs 0 (nI f) (nI h) B) (fun q => p.1 = q.1 ∧ FB m131 A p.2 ∧ FB m237 B q.2)) := by
  have t0 : ∀ x : Int32, (400 * 0 : Int32) + x = x := fun x => by simp
  have L := go_lp2 (f := fun s : Int32 × Int32 × Mm => fL_worked_b5 (nI h) s.1 s.2.1 s.2.2) (g := fun s : Int32 × Int32 × Mm => fM_runs_b12 0 (nI h) s.1 s.2.1 s.2.2)
    (Q := fun e e' => ∃ A' B', e = (nI 0, A') ∧ e' = B' ∧ A' 131 0 = B' 237 0 ∧ FB m131 A A' ∧ FB m237 B B')
    (fun n s t => ∃ σ k A' B', s = (nI σ.length - 1, nI k, A') ∧ t = (nI σ.length, nI k, B') ∧ k + n = h ∧ f ≤ k ∧ σ.length ≤ 32 ∧ Trn (B 230) (B 231) k n σ [z] ∧ Stk A' B' σ ∧ FB m131 A A' ∧ FB m237 B B') ?_ 1000000 (h - f) (-1, nI f, A) (0, nI f, B) (by omega) ?_
  · obtain ⟨e, he, e', he', A', B', rfl, rfl, q1, q2, q3⟩ := L
    unfold fL_worked fM_runs
    rw [he, t0]
    refine go_bind.mpr ?_
    refine Go.some ?_
    refine Go.no (nI_nneg (by omega)) ?_
    refine Go.gd (show inb (nI 0) 32 by decide) ?_
    refine Go.some ?_
    refine go_bind.mpr ?_
    rw [he']
    refine Go.some ?_
    refine Go.some ?_
    exact ⟨q1, q2, q3⟩
  · intro n s t I
    obtain ⟨σ, k, A', B', rfl, rfl, i1, i2, i3, i4, i5, i6, i7⟩ := I
    cases n with
    | zero =>
      have i4 : σ = [z] := i4
      subst i4
      refine Go.yes (by rw [nI_le' (by omega) (by omega)]; omega) (Go.some ?_)
      refine Go.yes (by rw [t0, nI_le' (by omega) (by omega)]; omega) (Go.some ?_)
      exact ⟨A', B', congrArg (fun x => (x, A')) (wk_top 0), rfl, i5.1, i6, i7⟩
    | succ n =>
      obtain ⟨υ, u1, u2, u3⟩ := i4
      have a129 : A' 129 = A 129 := i6.row fun _ => rfl
      have a130 : A' 130 = A 130 := i6.row fun _ => rfl
      have b230 : B' 230 = B 230 := i7.row fun _ => rfl
      have b231 : B' 231 = B 231 := i7.row fun _ => rfl
      have b236 : B' 236 = B 236 := i7.row fun _ => rfl
      obtain ⟨j, v, v', w1, w2, w3⟩ := step_sim (A := A') (B := B') (h := h) (k := k) (σ := σ) (υ := υ) (by omega) hh i3 (by rw [a129, b230, b231]; exact hE k i2 (by omega)) (by rw [a130, b236]; exact hK) (by rw [b230, b231]; exact u1) u2 i5
      refine ⟨_, w1, _, w2, n, by omega, υ, k + 1, _, _, rfl, rfl, by omega, by omega, u2, u3, w3, fb_put i6 rfl, fb_put i7 rfl⟩
  · exact ⟨[], f, A, B, rfl, rfl, by omega, by omega, by simp, ht, trivial, fb_rfl _ _, fb_rfl _ _⟩
theorem held_bd (v : Int32) {mo : Int32} (h : 0 ≤ mo.toInt) : ∃ y : Nat, (y : Int) ≤ mo.toInt ∧ fK_held v 0 mo = nI y := by
  have z : Int32.toInt 0 = 0 := by decide
  have e := held_toInt v 0 mo
  rw [z] at e
  obtain ⟨y, h1, h2, -⟩ := i32_ofs (x := fK_held v 0 mo) (by omega)
  exact ⟨y, by omega, h1⟩
theorem tells_sim {A B : Mm} (hL : LwR A 123 (B 225 0) (B 226) (B 227) (B 228) (B 229) (B 230) (B 231)) (hK : ∀ j, j < 11 → A 130 j = B 236 j) {wd wo mo : Int32} (hm : wd = 0 ∧ mo = 1000 ∨ wd = 1 ∧ mo = 99 ∨ wd = 2 ∧ mo = 20) (hwo : fL_plainly wd A = wo) :
    Go (fL_tells wd A) (fun p => Go (fM_lawTells wd wo mo B) (fun q => p.1 = q.1 ∧ (∃ y : Nat, (y : Int) ≤ mo.toInt ∧ p.1 = nI y) ∧ FB m131 A p.2 ∧ FB m237 B q.2)) := by
  obtain ⟨l1, p, p1, p2, p3⟩ := hL
  have l1' : A 124 0 = nI p := l1.trans p2
  have L := go_for2 (f := fun s : Int32 × Mm => fL_tells_b8 wd (fL_plainly wd A) s.1 s.2) (g := fun s : Int32 × Mm => fM_lineOf_b2 wd s.1 s.2)
    (Q := fun y y' => (∃ i A' B', i < p ∧ y = .inl (nI i, A') ∧ y' = .inl (nI i, B') ∧ FB m131 A A' ∧ FB m237 B B') ∨ (∃ A' B', y = .inr A' ∧ y' = .inr B' ∧ FB m131 A A' ∧ FB m237 B B'))
    (fun i s t => ∃ A' B', s = (nI i, A') ∧ t = (nI i, B') ∧ FB m131 A A' ∧ FB m237 B B') p ?_ ?_ (i := 0) (s := (0, A)) (t := (0, B)) (by omega) ⟨A, B, rfl, rfl, fb_rfl _ _, fb_rfl _ _⟩ (n := 1000000) (by omega)
  · obtain ⟨e, he, e', he', q⟩ := L
    unfold fL_tells fM_lawTells fM_lineOf
    dsimp only
    rw [he]
    refine go_bind.mpr ?_
    refine Go.some ?_
    have fin : ∀ v (A' B' : Mm), FB m131 A A' → FB m237 B B' → Go (if wd = 0 then some (fK_held v 0 1000, A') else if wd = 1 then some (fK_held v 0 99, A') else some (fK_held v 0 20, A')) (fun p => Go (some (fM_held v 0 mo, B')) (fun q => p.1 = q.1 ∧ (∃ y : Nat, (y : Int) ≤ mo.toInt ∧ p.1 = nI y) ∧ FB m131 A p.2 ∧ FB m237 B q.2)) := by
      intro v A' B' f1 f2
      rcases hm with ⟨rfl, rfl⟩ | ⟨rfl, rfl⟩ | ⟨rfl, rfl⟩
      · refine Go.yes (by first | rfl | (simp; done)) ?_
        refine Go.some ?_
        refine Go.some ?_
        exact ⟨(held_eq (by decide)).symm, held_bd _ (by decide), f1, f2⟩
      · refine Go.no (by first | decide | (simp; done)) ?_
        refine Go.yes (by first | rfl | (simp; done)) ?_
        refine Go.some ?_
        refine Go.some ?_
        exact ⟨(held_eq (by decide)).symm, held_bd _ (by decide), f1, f2⟩
      · refine Go.no (by first | decide | (simp; done)) ?_
        refine Go.no (by first | decide | (simp; done)) ?_
        refine Go.some ?_
        refine Go.some ?_
        exact ⟨(held_eq (by decide)).symm, held_bd _ (by decide), f1, f2⟩
    rcases q with ⟨i, A', B', i1, rfl, rfl, f1, f2⟩ | ⟨A', B', rfl, rfl, f1, f2⟩
    · obtain ⟨f, g, h, k1, k2, k3, k4, k5, k6, k7, k8, k9, k10, k11, ⟨z, z1, z2⟩, k13⟩ := p3 i i1
      have a126 : A' 126 i = nI f := by rw [f1.row (c := 126) fun _ => rfl]; exact k5
      have a127 : A' 127 i = nI g := by rw [f1.row (c := 127) fun _ => rfl]; exact k7
      have b227 : B' 227 i = nI f := by rw [f2.row (c := 227) fun _ => rfl]; exact k6
      have b228 : B' 228 i = nI g := by rw [f2.row (c := 228) fun _ => rfl]; exact k8
      have ji : jix (nI i) = i := jix_nI (by omega)
      have W := worked_sim (A := A') (B := B') (f := f) (h := g) (z := z) k1 (by omega) (fun k c1 c2 => by
        rw [f1.row (c := 129) fun _ => rfl, f2.row (c := 230) fun _ => rfl, f2.row (c := 231) fun _ => rfl]; exact k11 k c1 (by omega)) (by
        rw [f1.row (c := 130) fun _ => rfl, f2.row (c := 236) fun _ => rfl]; exact hK) (by
        rw [f2.row (c := 230) fun _ => rfl, f2.row (c := 231) fun _ => rfl]; exact z2)
      obtain ⟨⟨v, A2⟩, w1, ⟨v', B2⟩, w2, w3, w4, w5⟩ := W
      have w3 : v = v' := w3
      subst w3
      dsimp only
      rw [ji, a126, a127]
      refine Go.gd (by rw [inb_nI (by omega)]; omega) ?_
      refine Go.gd (by rw [inb_nI (by omega)]; omega) ?_
      refine go_bind.mpr ?_
      rw [w1]
      refine Go.some ?_
      refine (fin v A2 B2 (f1.trans w4) (f2.trans w5)).mono fun pp q => ?_
      refine go_bind.mpr ?_
      refine go_bind.mpr ?_
      rw [he']
      refine Go.some ?_
      refine Go.some ?_
      refine Go.no (nI_neg1 (by omega)) ?_
      refine Go.gd (by rw [inb_nI (by omega)]; omega) ?_
      refine Go.gd (by rw [inb_nI (by omega)]; omega) ?_
      refine go_bind.mpr ?_
      dsimp only
      rw [ji, b227, b228, w2]
      refine Go.some ?_
      exact q
    · dsimp only
      rw [hwo]
      refine (fin wo A' B' f1 f2).mono fun pp q => ?_
      refine go_bind.mpr ?_
      refine go_bind.mpr ?_
      rw [he']
      refine Go.some ?_
      refine Go.some ?_
      refine Go.yes (by first | rfl | (simp; done)) ?_
      exact q
  · rintro s t ⟨A', B', rfl, rfl, f1, f2⟩
    have a : A' 124 0 = nI p := by rw [f1.row (c := 124) fun _ => rfl]; exact l1'
    have b : B' 225 0 = nI p := by rw [f2.row (c := 225) fun _ => rfl]; exact p2
    unfold fL_tells_b8 fM_lineOf_b2
    dsimp only
    simp only [a, b]
    refine Go.yes (i32_le.mpr (Int.le_refl _)) ?_
    refine Go.some ?_
    refine Go.yes (i32_le.mpr (Int.le_refl _)) ?_
    refine Go.some ?_
    exact Or.inr ⟨A', B', rfl, rfl, f1, f2⟩
  · rintro i s t hi ⟨A', B', rfl, rfl, f1, f2⟩
    obtain ⟨f, g, h, k1, k2, k3, k4, k5, k6, k7, k8, k9, k10, k11, k12, k13⟩ := p3 i hi
    have a : A' 124 0 = nI p := by rw [f1.row (c := 124) fun _ => rfl]; exact l1'
    have b : B' 225 0 = nI p := by rw [f2.row (c := 225) fun _ => rfl]; exact p2
    have a125 : A' 125 i = B 226 i := by rw [f1.row (c := 125) fun _ => rfl]; exact k4
    have a127 : A' 127 i = nI g := by rw [f1.row (c := 127) fun _ => rfl]; exact k7
    have a128 : A' 128 i = nI h := by rw [f1.row (c := 128) fun _ => rfl]; exact k9
    have b226 : B' 226 i = B 226 i := by rw [f2.row (c := 226) fun _ => rfl]
    have b228 : B' 228 i = nI g := by rw [f2.row (c := 228) fun _ => rfl]; exact k8
    have b229 : B' 229 i = nI h := by rw [f2.row (c := 229) fun _ => rfl]; exact k10
    have ji : jix (nI i) = i := jix_nI (by omega)
    have ii : inb (nI i) 16 := (inb_nI (by omega)).mpr (by omega)
    have i48 : inb (nI i) 48 := (inb_nI (by omega)).mpr (by omega)
    have le1 : ¬ nI p ≤ nI i := by rw [nI_le' (by omega) (by omega)]; omega
    unfold fL_tells_b8 fM_lineOf_b2 fL_tells_j92 fM_lineOf_j59
    dsimp only
    simp only [a, b, ji, a125, a127, a128, b226, b228, b229, nI_1]
    refine Go.no (le1) ?_
    refine Go.gd (ii) ?_
    refine Go.gd (ii) ?_
    refine Go.gd (ii) ?_
    by_cases hwd : B 226 i = wd
    rotate_left
    · refine Go.no (hwd) ?_
      refine Go.some ?_
      refine Go.no (le1) ?_
      refine Go.gd (i48) ?_
      refine Go.no (hwd) ?_
      refine Go.some ?_
      exact ⟨A', B', rfl, rfl, f1, f2⟩
    refine Go.yes (hwd) ?_
    by_cases hgh : g = h
    · subst hgh
      refine Go.no (by first | decide | (simp; done)) ?_
      refine Go.some ?_
      refine Go.no (le1) ?_
      refine Go.gd (i48) ?_
      refine Go.yes (hwd) ?_
      refine Go.gd (i48) ?_
      refine Go.gd (i48) ?_
      refine Go.yes (by first | rfl | (simp; done)) ?_
      refine Go.some ?_
      exact Or.inl ⟨i, A', B', hi, rfl, rfl, f1, f2⟩
    have hgh' : ¬ nI g = nI h := by rw [nI_eq' (by omega) (by omega)]; exact hgh
    rw [if_neg hgh']
    have W := worked_sim (A := A') (B := B') (f := g) (h := h) (z := 1) k2 (by omega) (fun k c1 c2 => by
      rw [f1.row (c := 129) fun _ => rfl, f2.row (c := 230) fun _ => rfl, f2.row (c := 231) fun _ => rfl]; exact k11 k (by omega) c2) (by
      rw [f1.row (c := 130) fun _ => rfl, f2.row (c := 236) fun _ => rfl]; exact hK) (by
      rw [f2.row (c := 230) fun _ => rfl, f2.row (c := 231) fun _ => rfl]; exact k13.resolve_left hgh)
    obtain ⟨⟨v, A2⟩, w1, ⟨v', B2⟩, w2, w3, w4, w5⟩ := W
    have w3 : v = v' := w3
    subst w3
    refine Go.yes (by first | rfl | (simp; done)) ?_
    refine Go.gd (ii) ?_
    refine Go.gd (ii) ?_
    refine go_bind.mpr ?_
    rw [w1]
    refine Go.some ?_
    by_cases v0 : v = 0
    · refine Go.yes (v0) ?_
      refine Go.some ?_
      refine Go.no (le1) ?_
      refine Go.gd (i48) ?_
      refine Go.yes (hwd) ?_
      refine Go.gd (i48) ?_
      refine Go.gd (i48) ?_
      refine Go.no (hgh') ?_
      refine Go.gd (i48) ?_
      refine Go.gd (i48) ?_
      refine go_bind.mpr ?_
      rw [w2]
      refine Go.some ?_
      refine Go.yes (v0) ?_
      refine Go.some ?_
      exact ⟨A2, B2, rfl, rfl, f1.trans w4, f2.trans w5⟩
    · refine Go.no (v0) ?_
      refine Go.some ?_
      refine Go.no (le1) ?_
      refine Go.gd (i48) ?_
      refine Go.yes (hwd) ?_
      refine Go.gd (i48) ?_
      refine Go.gd (i48) ?_
      refine Go.no (hgh') ?_
      refine Go.gd (i48) ?_
      refine Go.gd (i48) ?_
      refine go_bind.mpr ?_
      rw [w2]
      refine Go.some ?_
      refine Go.no (v0) ?_
      refine Go.some ?_
      exact Or.inl ⟨i, A2, B2, hi, rfl, rfl, f1.trans w4, f2.trans w5⟩
/-! what is known of a letter -/
def gcp (M : Mm) (a k b j : Nat) : Mm := mput M a k (M b j)
theorem gcp_r {M : Mm} {a k b j c : Nat} (h : c ≠ a) : gcp M a k b j c = M c := mput_r h
theorem gcp_s {M : Mm} {a k b j i : Nat} (h : i ≠ k) : gcp M a k b j a i = M a i := mput_s h
theorem gcp_same {M : Mm} {a k b j : Nat} : gcp M a k b j a k = M b j := mput_same _ _ _ _
theorem fb_gcp {S : Nat → Nat → Bool} {M0 M : Mm} {a k b j : Nat} (h : FB S M0 M) (ha : S a k = false) : FB S M0 (gcp M a k b j) := fb_put h ha
def askM (M : Mm) (w i d : Nat) : Mm := gcp (gcp (gcp (gcp (gcp (gcp (gcp (gcp (gcp (gcp (gcp M 130 0 (w + 10) i) 130 1 (w + 11) i) 130 2 (w + 12) i) 130 3 (w + 2) d) 130 4 (w + 3) d) 130 5 (w + 4) d) 130 6 w 5) 130 7 w 6) 130 8 w 9) 130 9 w 10) 130 10 w 11
def m130 (c _ : Nat) : Bool := !Nat.beq c 130
def m236 (c _ : Nat) : Bool := !Nat.beq c 236
theorem ask_eq (w : Nat) (x1 x2 : Int32) (M : Mm) : fW_ask w x1 x2 M = (if inb x2 24 then if inb x2 24 then if inb x2 24 then if inb x2 24 then if inb (M (w + 9) (jix x2)) 12 then if inb (M (w + 9) (jix x2)) 12 then if inb (M (w + 9) (jix x2)) 12 then
  Option.bind (fL_tells x1 (askM M w (jix x2) (jix (M (w + 9) (jix x2))))) (fun q => some (q.1, q.2)) else none else none else none else none else none else none else none) := rfl
theorem askM_fb (M : Mm) (w i d : Nat) : FB m130 M (askM M w i d) := fb_gcp (fb_gcp (fb_gcp (fb_gcp (fb_gcp (fb_gcp (fb_gcp (fb_gcp (fb_gcp (fb_gcp (fb_gcp (fb_rfl _ _) rfl) rfl) rfl) rfl) rfl) rfl) rfl) rfl) rfl) rfl) rfl
/-- the eleven numbers, from the model's side -/
def kvB (B : Mm) (d : Nat) (k m a : Int32) (j : Nat) : Int32 := if j = 0 then k else if j = 1 then m else if j = 2 then a else if j = 3 then B 218 (18 + d) else if j = 4 then B 221 d else if j = 5 then B 218 (30 + d) else if j = 6 then 99 - B 218 4 else if j = 7 then B 218 5 else if j = 8 then B 218 3 else if j = 9 then B 218 8 else B 218 0
def kvA (A : Mm) (w i d j : Nat) : Int32 := if j = 0 then A (w + 10) i else if j = 1 then A (w + 11) i else if j = 2 then A (w + 12) i else if j = 3 then A (w + 2) d else if j = 4 then A (w + 3) d else if j = 5 then A (w + 4) d else if j = 6 then A w 5 else if j = 7 then A w 6 else if j = 8 then A w 9 else if j = 9 then A w 10 else A w 11
theorem lt11 {P : Nat → Prop} (h0 : P 0) (h1 : P 1) (h2 : P 2) (h3 : P 3) (h4 : P 4) (h5 : P 5) (h6 : P 6) (h7 : P 7) (h8 : P 8) (h9 : P 9) (h10 : P 10) : ∀ j, j < 11 → P j := by
  intro j hj
  have : j = 0 ∨ j = 1 ∨ j = 2 ∨ j = 3 ∨ j = 4 ∨ j = 5 ∨ j = 6 ∨ j = 7 ∨ j = 8 ∨ j = 9 ∨ j = 10 := by omega
  rcases this with rfl | rfl | rfl | rfl | rfl | rfl | rfl | rfl | rfl | rfl | rfl <;> assumption
theorem askM_kv {M : Mm} {w i d : Nat} (hw : w + 13 < 130) : ∀ j, j < 11 → askM M w i d 130 j = kvA M w i d j := by
  unfold askM
  refine lt11 ?_ ?_ ?_ ?_ ?_ ?_ ?_ ?_ ?_ ?_ ?_ <;> (simp (disch := omega) only [gcp_s, gcp_same, gcp_r]; rfl)
def asksM (M : Mm) (d : Nat) (k m a : Int32) : Mm := gcp (gcp (gcp (gcp (mput (gcp (gcp (gcp (mput (mput (mput M 236 0 k) 236 1 m) 236 2 a) 236 3 218 (18 + d)) 236 4 221 d) 236 5 218 (30 + d)) 236 6 (99 - (gcp (gcp (gcp (mput (mput (mput M 236 0 k) 236 1 m) 236 2 a) 236 3 218 (18 + d)) 236 4 221 d) 236 5 218 (30 + d)) 218 4)) 236 7 218 5) 236 8 218 3) 236 9 218 8) 236 10 218 0
theorem asks_eq {B : Mm} {d : Nat} (hd : d < 12) (k m a : Int32) : fM_asks (nI d) k m a B = some (asksM B d k m a) := by
  have e18 : (18 : Int32) + nI d = nI (18 + d) := nI_add 18 d
  have e30 : (30 : Int32) + nI d = nI (30 + d) := nI_add 30 d
  have j18 : jix ((18 : Int32) + nI d) = 18 + d := by rw [e18, jix_nI (by omega)]
  have j30 : jix ((30 : Int32) + nI d) = 30 + d := by rw [e30, jix_nI (by omega)]
  have jd : jix (nI d) = d := jix_nI (by omega)
  unfold fM_asks
  rw [if_pos (by rw [e18, inb_nI (by omega)]; omega), if_pos (by rw [inb_nI (by omega)]; exact hd), if_pos (by rw [e30, inb_nI (by omega)]; omega), j18, j30, jd]
  rfl
theorem asksM_fb (M : Mm) (d : Nat) (k m a : Int32) : FB m236 M (asksM M d k m a) := fb_gcp (fb_gcp (fb_gcp (fb_gcp (fb_put (fb_gcp (fb_gcp (fb_gcp (fb_put (fb_put (fb_put (fb_rfl _ _) rfl) rfl) rfl) rfl) rfl) rfl) rfl) rfl) rfl) rfl) rfl
theorem asksM_kv {M : Mm} {d : Nat} {k m a : Int32} : ∀ j, j < 11 → asksM M d k m a 236 j = kvB M d k m a j := by
  unfold asksM
  refine lt11 ?_ ?_ ?_ ?_ ?_ ?_ ?_ ?_ ?_ ?_ ?_ <;> (simp (disch := omega) only [gcp_s, gcp_same, gcp_r, mput_s, mput_same, mput_r]; rfl)
end PmLaw2
