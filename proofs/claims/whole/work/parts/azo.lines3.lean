section PmLines3
theorem FLT.putB {A B : Mm} {c j : Nat} {w : Int32} (h : FLT A B) (hc : c ≠ 217) : FLT A (mput B c j w) := by
  unfold FLT
  rw [mput_r (fun q => hc q.symm)]; exact h
theorem FLT.putA {A B : Mm} {c j : Nat} {w : Int32} (h : FLT A B) (hc : c ≠ 146) : FLT (mput A c j w) B := by
  unfold FLT
  rw [mput_r (fun q => hc q.symm)]; exact h
theorem kind_go {A B : Mm} {b : Nat → Nat} {L i : Nat} (hL : L ≤ 400) (ps : PS A B b L i) : (∃ k, k < 7 ∧ i < cs b L ∧ fR_kindWord A = some (nI k, mput A 146 4 (nI (i + 1))) ∧ B 217 13 = 2 ∧ fM_isIn (B 217 14) 22 28 = 1 ∧ B 217 14 - 22 = nI k) ∨ (fR_kindWord A = some (0, bA A 1 (B 217 12)) ∧ (B 217 13 = 2 → fM_isIn (B 217 14) 22 28 = 0)) := by
  have tr := (ps.tok hL).1
  have go : ∀ s : Int32, A 163 i = s → fK_isKind (s - 276) = some 0 → fR_kindWord A = some (0, bA A 1 (B 217 12)) := fun s hs hk => by
    refine Go.eq ?_
    unfold fR_kindWord
    rw [sort_ok hL ps, hs, blame_ok 1 hL ps]
    refine go_bind.mpr ?_
    refine Go.some ?_
    refine go_bind.mpr ?_
    rw [hk]
    refine Go.some ?_
    refine Go.yes (by first | rfl | (simp; done)) ?_
    refine go_bind.mpr ?_
    refine Go.some ?_
    refine Go.some ?_
    rfl
  rcases tr with ⟨q1, q2⟩ | ⟨q1, q2⟩ | ⟨v, v1, q1, q3, q2, q4⟩ | ⟨k, k1, q1, q2, q3⟩ | ⟨d, d1, q1, q2, q3⟩
  · right; exact ⟨go _ q1 (by decide), fun q => by rw [q2] at q; exact absurd q (by decide)⟩
  · right; exact ⟨go _ q1 (by decide), fun q => by rw [q2] at q; exact absurd q (by decide)⟩
  · right; exact ⟨go _ q1 (by decide), fun q => by rw [q2] at q; exact absurd q (by decide)⟩
  · have : ∀ k : Fin 29, (20 ≤ k.val ∧ k.val ≤ 26 ∧ fK_isKind (nI (256 + k.val) - 276) = some 1 ∧ fM_isIn (nI (wq k.val)) 22 28 = 1 ∧ nI (wq k.val) - 22 = nI (k.val - 20) ∧ nI (256 + k.val) - 276 = nI (k.val - 20)) ∨ (fK_isKind (nI (256 + k.val) - 276) = some 0 ∧ fM_isIn (nI (wq k.val)) 22 28 = 0) := by decide +kernel
    rcases this ⟨k, k1⟩ with ⟨w1, w2, w3, w4, w5, w6⟩ | ⟨w1, w2⟩
    · dsimp only at w1 w2 w3 w4 w5 w6
      left
      refine ⟨k - 20, by omega, not_end hL ps (by rw [q1, (lit_nI _ : (2 : Int32) = nI 2)]; intro z; rw [nI_eq' (by omega) (by omega)] at z; omega), ?_, q2, by rw [q3]; exact w4, by rw [q3]; exact w5⟩
      refine Go.eq ?_
      unfold fR_kindWord
      have w3' : fK_isKind (nI (k - 20)) = some 1 := by rw [← w6]; exact w3
      rw [sort_ok hL ps, q1, ps.2.2.2.1, nI_1]
      refine go_bind.mpr ?_
      refine Go.some ?_
      dsimp only
      rw [w6, w3']
      refine go_bind.mpr ?_
      refine Go.some ?_
      refine Go.no (by first | decide | (simp; done)) ?_
      refine Go.some ?_
      rfl
    · dsimp only at w1 w2
      right
      exact ⟨go _ q1 w1, fun _ => by rw [q3]; exact w2⟩
  · right
    have := isSg_lt d1
    refine ⟨go _ q1 ?_, fun q => by rw [q2] at q; exact absurd q (by decide)⟩
    have : ∀ d : Fin 63, fK_isKind (nI d.val - 276) = some 0 := by decide +kernel
    exact this ⟨d, by omega⟩
theorem kind_bad {A : Mm} (h : ¬ A 146 1 = 0) : fR_kindWord A = some (0, A) := by
  refine Go.eq ?_
  unfold fR_kindWord
  have w : fK_isKind (0 - 276) = some 0 := by decide
  rw [sort_bad h, blame_bad 1 h]
  refine go_bind.mpr ?_
  refine Go.some ?_
  refine go_bind.mpr ?_
  rw [w]
  refine Go.some ?_
  refine Go.yes (by first | rfl | (simp; done)) ?_
  refine go_bind.mpr ?_
  refine Go.some ?_
  refine Go.some ?_
  rfl
def poR (A0 B0 : Mm) (b : Nat → Nat) (L nd k : Nat) (A B : Mm) : Prop := (∃ i, PS A B b L i) ∧ A 146 5 = nI nd ∧ B 217 6 = nI nd ∧ (∀ j, j < k → A 156 j = B 233 (64 + 4 * j) ∧ A 157 j = B 233 (65 + 4 * j) ∧ A 158 j = B 233 (66 + 4 * j) ∧ A 159 j = B 233 (67 + 4 * j) ∧ Lok (B 233 (65 + 4 * j)) (B 233 (66 + 4 * j)) (B 233 (67 + 4 * j))) ∧ A 147 1 = nI k ∧ gF A0 A ∧ hF B0 B
def pt4 (k : Nat) (M : Mm) : Option Mm := Option.bind (fR_need 59 M) fun Mz22 => some (mput Mz22 147 1 (nI k + 1))
def pt3 (k : Nat) (M : Mm) : Option Mm := Option.bind (fR_number 1 99 M) fun q => if inb (nI k) 16 then pt4 k (mput q.2 159 (jix (nI k)) q.1) else none
def pt2 (k : Nat) (M : Mm) : Option Mm := Option.bind (fR_kindWord M) fun q => if inb (nI k) 16 then pt3 k (mput q.2 158 (jix (nI k)) q.1) else none
def pt1 (k : Nat) (M : Mm) : Option Mm := Option.bind (fR_need 275 M) fun M8 => Option.bind (fR_number 0 ((M8 146 5) - 1) M8) fun q => if inb (nI k) 16 then pt2 k (mput q.2 157 (jix (nI k)) q.1) else none
/-- a faulted reader's end of a line -/
def bdP (A A' : Mm) : Prop := A' 146 1 = A 146 1 ∧ A' 146 2 = A 146 2 ∧ gF A A'
theorem bdP.flt {A A' B : Mm} (h : bdP A A') (f : FLT A B) : FLT A' B := ⟨by rw [h.1]; exact f.1, by rw [h.1]; exact f.2.1, by rw [h.2.1]; exact f.2.2⟩
theorem bdP.put {A A' : Mm} {a k : Nat} {v : Int32} (h : bdP (mput A a k v) A') (ha : 147 ≤ a ∧ a ≤ 161) : bdP A A' := ⟨by rw [h.1, mput_r (by omega)], by rw [h.2.1, mput_r (by omega)], ((gF.rfl' A).put (by omega)).trans h.2.2⟩
theorem pt4_bad {A : Mm} {k : Nat} (h : ¬ A 146 1 = 0) : Go (pt4 k A) (fun A' => bdP A A') := by
  unfold pt4
  rw [need_bad 59 (by decide) h]
  refine go_bind.mpr ?_
  refine Go.some ?_
  refine Go.some ?_
  exact ⟨by rw [mput_r (by omega)], by rw [mput_r (by omega)], (gF.rfl' A).put (by omega)⟩
theorem pt3_bad {A : Mm} {k : Nat} (hk : k < 16) (h : ¬ A 146 1 = 0) : Go (pt3 k A) (fun A' => bdP A A') := by
  unfold pt3
  rw [num_bad _ _ h]
  refine go_bind.mpr ?_
  refine Go.some ?_
  refine Go.gd ((inb_nI (by omega)).mpr hk) ?_
  exact (pt4_bad (A := mput A 159 (jix (nI k)) 0) (by rw [mput_r (by omega)]; exact h)).mono fun A' q => q.put (by omega)
theorem pt2_bad {A : Mm} {k : Nat} (hk : k < 16) (h : ¬ A 146 1 = 0) : Go (pt2 k A) (fun A' => bdP A A') := by
  unfold pt2
  rw [kind_bad h]
  refine go_bind.mpr ?_
  refine Go.some ?_
  refine Go.gd ((inb_nI (by omega)).mpr hk) ?_
  exact (pt3_bad (A := mput A 158 (jix (nI k)) 0) hk (by rw [mput_r (by omega)]; exact h)).mono fun A' q => q.put (by omega)
theorem pt1_bad {A : Mm} {k : Nat} (hk : k < 16) (h : ¬ A 146 1 = 0) : Go (pt1 k A) (fun A' => bdP A A') := by
  unfold pt1
  rw [need_bad 275 (by decide) h]
  refine go_bind.mpr ?_
  refine Go.some ?_
  refine go_bind.mpr ?_
  rw [num_bad _ _ h]
  refine Go.some ?_
  refine Go.gd ((inb_nI (by omega)).mpr hk) ?_
  exact (pt2_bad (A := mput A 157 (jix (nI k)) 0) hk (by rw [mput_r (by omega)]; exact h)).mono fun A' q => q.put (by omega)
theorem within_99 {v : Nat} (hv : v < 10000) (h : fK_isWithin (nI v) 1 99 = 1) : 1 ≤ v ∧ v ≤ 99 := by
  rcases within_cases (nI v) 1 99 with ⟨-, w1, w2⟩ | ⟨w, -⟩
  · rw [nI_toInt' (by omega)] at w1 w2
    have w1 : (1 : Int) ≤ v := w1
    have w2 : (v : Int) ≤ 99 := w2
    omega
  · rw [w] at h; exact absurd h (by decide)
theorem need_5 {A B : Mm} {b : Nat → Nat} {L i : Nat} (c : Int32) (hL : L ≤ 400) (ps : PS A B b L i) : Go (fR_need c A) (fun M => M 146 5 = A 146 5) := by
  unfold fR_need
  rw [sort_ok hL ps, blame_ok 1 hL ps]
  refine go_bind.mpr ?_
  refine Go.some ?_
  refine Go.ite (fun _ => Go.some ?_) (fun _ => ?_)
  · rw [mput_s (by omega)]
  · refine go_bind.mpr ?_
    refine Go.some ?_
    refine Go.some ?_
    rw [mput_s (by omega), mput_s (by omega)]
theorem postLine_go {A B : Mm} {b : Nat → Nat} {L i nd k : Nat} (hL : L ≤ 400) (hd : nd ≤ 12) (hk : k < 16) (ps : PS A B b L i) (h5 : A 146 5 = nI nd) (h6 : B 217 6 = nI nd) :
    Go (fR_postLine (nI k) A) (fun A' => Go (fM_readPostLine (nI (64 + 4 * k)) B) (fun r => gF A A' ∧ hF B r.2 ∧ ((r.1 ≠ -1 ∧ (∃ i', PS A' r.2 b L i') ∧ A' 146 5 = nI nd ∧ r.2 217 6 = nI nd ∧ (∀ j, j ≠ k → A' 156 j = A 156 j ∧ A' 157 j = A 157 j ∧ A' 158 j = A 158 j ∧ A' 159 j = A 159 j) ∧ (∀ j, ¬ (64 + 4 * k ≤ j ∧ j ≤ 67 + 4 * k) → r.2 233 j = B 233 j) ∧ A' 156 k = r.2 233 (64 + 4 * k) ∧ A' 157 k = r.2 233 (65 + 4 * k) ∧ A' 158 k = r.2 233 (66 + 4 * k) ∧ A' 159 k = r.2 233 (67 + 4 * k) ∧ Lok (r.2 233 (65 + 4 * k)) (r.2 233 (66 + 4 * k)) (r.2 233 (67 + 4 * k)) ∧ A' 147 1 = nI (k + 1)) ∨ (r.1 = -1 ∧ FLT A' r.2)))) := by
  have jk : jix (nI k) = k := jix_nI (by omega)
  have i16 : inb (nI k) 16 := (inb_nI (by omega)).mpr hk
  have cl : fR_postLine (nI k) A = Option.bind (Option.bind (fR_need (nI (256 + 18)) A) fun M => fR_number 0 999 M) fun q => if inb (nI k) 16 then pt1 k (mput q.2 156 (jix (nI k)) q.1) else none := by
    rw [Option.bind_assoc]; rfl
  rw [cl]
  obtain ⟨p, pe, r, re, n1, o1, h1⟩ := tol_go (w := 18) 0 999 (by omega) hL ps
  have re : fM_readTold 18 0 999 B = some r := re
  unfold fM_readPostLine
  have ix : ∀ d, nI (64 + 4 * k) + nI d = nI (64 + d + 4 * k) := fun d => by rw [nI_add]; exact congrArg nI (by omega)
  have j0 : jix (nI (64 + 4 * k)) = 64 + 4 * k := jix_nI (by omega)
  have b0 : inb (nI (64 + 4 * k)) 128 := (inb_nI (by omega)).mpr (by omega)
  have x1 : nI (64 + 4 * k) + 1 = nI (65 + 4 * k) := ix 1
  have x2 : nI (64 + 4 * k) + 2 = nI (66 + 4 * k) := ix 2
  have x3 : nI (64 + 4 * k) + 3 = nI (67 + 4 * k) := ix 3
  have j1 : jix (nI (65 + 4 * k)) = 65 + 4 * k := jix_nI (by omega)
  have j2 : jix (nI (66 + 4 * k)) = 66 + 4 * k := jix_nI (by omega)
  have j3 : jix (nI (67 + 4 * k)) = 67 + 4 * k := jix_nI (by omega)
  have b1 : inb (nI (65 + 4 * k)) 128 := (inb_nI (by omega)).mpr (by omega)
  have b2 : inb (nI (66 + 4 * k)) 128 := (inb_nI (by omega)).mpr (by omega)
  have b3 : inb (nI (67 + 4 * k)) 128 := (inb_nI (by omega)).mpr (by omega)
  simp only [j0, x1, x2, x3, j1, j2, j3, jk]
  refine go_bind.mpr ?_
  refine ⟨p, pe, ?_⟩
  refine Go.gd (i16) ?_
  rcases h1 with ⟨v, v1, p1, r1, w, ps1⟩ | ⟨p1, r1, fl⟩
  rotate_left
  · refine (pt1_bad (A := mput p.2 156 k p.1) hk (by rw [mput_r (by omega)]; exact fl.1)).mono fun A' q => ?_
    have q' := q.put (by omega)
    refine go_bind.mpr ?_
    refine ⟨r, re, ?_⟩
    refine Go.gd (b0) ?_
    refine Go.gd (b0) ?_
    refine Go.yes (by rw [mput_same, r1]) ?_
    refine Go.some ?_
    refine ⟨n1.g.trans q'.2.2, o1.h.put (by omega), Or.inr ⟨rfl, ?_⟩⟩
    exact (q'.flt fl).putB (by omega)
  -- the second
  have psA := ps1.put (a := 156) (k := k) (c := 233) (j := 64 + 4 * k) (v := p.1) (w := r.1) (by omega) (by omega)
  have g5 : mput p.2 156 k p.1 146 5 = nI nd := by rw [mput_r (by omega), n1 146 5 (by omega)]; exact h5
  have g6 : mput r.2 233 (64 + 4 * k) r.1 217 6 = nI nd := by rw [mput_r (by omega), o1 217 6 (by omega)]; exact h6
  obtain ⟨p2, p2e, r2, r2e, n2, o2, h2⟩ := tol_go (w := 19) 0 (nI nd - 1) (by omega) hL psA
  have r2e : fM_readTold 19 0 (nI nd - 1) (mput r.2 233 (64 + 4 * k) r.1) = some r2 := r2e
  have e1 : pt1 k (mput p.2 156 k p.1) = if inb (nI k) 16 then pt2 k (mput p2.2 157 (jix (nI k)) p2.1) else none := by
    obtain ⟨M, Me, M5⟩ := need_5 275 hL psA
    have t : Option.bind (fR_need (nI (256 + 19)) (mput p.2 156 k p.1)) (fun M => fR_number 0 (nI nd - 1) M) = some p2 := p2e
    have Me' : fR_need (nI (256 + 19)) (mput p.2 156 k p.1) = some M := Me
    rw [Me'] at t
    have t : fR_number 0 (nI nd - 1) M = some p2 := t
    unfold pt1
    rw [Me]
    show Option.bind (fR_number 0 (M 146 5 - 1) M) _ = _
    rw [M5, g5, t]
    rfl
  rw [e1, jk]
  have fa2 : gF A p2.2 := (n1.g.put (by omega)).trans n2.g
  have fb2 : hF B r2.2 := (o1.h.put (by omega)).trans o2.h
  refine Go.gd (i16) ?_
  rcases h2 with ⟨v2, v21, p21, r21, w2, ps2⟩ | ⟨p21, r21, fl⟩
  rotate_left
  · refine (pt2_bad (A := mput p2.2 157 k p2.1) hk (by rw [mput_r (by omega)]; exact fl.1)).mono fun A' q => ?_
    have q' := q.put (by omega)
    refine go_bind.mpr ?_
    refine ⟨r, re, ?_⟩
    refine Go.gd (b0) ?_
    refine Go.gd (b0) ?_
    refine Go.no (by rw [mput_same, r1]; exact nI_neg1 (by omega)) ?_
    refine go_bind.mpr ?_
    rw [g6]
    refine ⟨r2, r2e, ?_⟩
    refine Go.gd (b1) ?_
    refine Go.gd (b1) ?_
    refine Go.yes (by rw [mput_same, r21]) ?_
    refine Go.some ?_
    refine ⟨fa2.trans q'.2.2, fb2.put (by omega), Or.inr ⟨rfl, ?_⟩⟩
    exact (q'.flt fl).putB (by omega)
  have d2 := door_lt v21 hd w2
  have psB := ps2.put (a := 157) (k := k) (c := 233) (j := 65 + 4 * k) (v := p2.1) (w := r2.1) (by omega) (by omega)
  -- the kind
  unfold pt2
  rcases kind_go hL psB with ⟨kk, kk7, iN, ke, t2, ti, tv⟩ | ⟨ke, tn⟩
  rotate_left
  · rw [ke]
    have fl : FLT (bA (mput p2.2 157 k p2.1) 1 (mput r2.2 233 (65 + 4 * k) r2.1 217 12)) (fM_errs 1 (mput r2.2 233 (65 + 4 * k) r2.1)).2 := flt_bA (by decide)
    refine go_bind.mpr ?_
    refine Go.some ?_
    refine Go.gd (i16) ?_
    refine (pt3_bad (A := mput (bA (mput p2.2 157 k p2.1) 1 (mput r2.2 233 (65 + 4 * k) r2.1 217 12)) 158 (jix (nI k)) 0) hk (by rw [mput_r (by omega)]; exact fl.1)).mono fun A' q => ?_
    have q' := q.put (by omega)
    refine go_bind.mpr ?_
    refine ⟨r, re, ?_⟩
    refine Go.gd (b0) ?_
    refine Go.gd (b0) ?_
    refine Go.no (by rw [mput_same, r1]; exact nI_neg1 (by omega)) ?_
    refine go_bind.mpr ?_
    rw [g6]
    refine ⟨r2, r2e, ?_⟩
    refine Go.gd (b1) ?_
    refine Go.gd (b1) ?_
    refine Go.no (by rw [mput_same, r21]; exact nI_neg1 (by omega)) ?_
    have fin : gF A A' ∧ hF B (fM_errs 1 (mput r2.2 233 (65 + 4 * k) r2.1)).2 ∧ FLT A' (fM_errs 1 (mput r2.2 233 (65 + 4 * k) r2.1)).2 := ⟨((fa2.put (by omega)).trans (eF_bA _ _ _).c.g).trans q'.2.2, (fb2.put (by omega)).trans (hF_errs _ 1), q'.flt fl⟩
    refine Go.ite (fun t => ?_) (fun _ => Go.some ⟨fin.1, fin.2.1, Or.inr ⟨rfl, fin.2.2⟩⟩)
    refine Go.yes (tn t) ?_
    refine Go.some ?_
    exact ⟨fin.1, fin.2.1, Or.inr ⟨rfl, fin.2.2⟩⟩
  have psC0 : PS (mput p2.2 157 k p2.1) (mput (mput r2.2 233 (65 + 4 * k) r2.1) 233 (66 + 4 * k) (nI kk)) b L (i + 2 + 2) := psB.fr (fun _ _ _ _ => rfl) rfl rfl (fun m p q => by rw [mput_r (by omega)]) (mput_r (by omega)) (mput_r (by omega))
  obtain ⟨B3, B3e, ps3, fr3⟩ := psC0.adv hL iN
  have psC := ps3.putA (a := 158) (k := k) (v := nI kk) (by omega)
  -- how much
  obtain ⟨p4, p4e, r4, r4e, n4, o4, h4⟩ := num_go 1 99 hL psC
  have fa4 : gF A p4.2 := (((fa2.put (by omega)).put (by omega)).put (by omega)).trans n4.g
  have fb4 : hF B r4.2 := (((fb2.put (by omega)).put (by omega)).trans fr3.h).trans o4.h
  rw [ke]
  refine go_bind.mpr ?_
  refine Go.some ?_
  refine Go.gd (i16) ?_
  unfold pt3
  rw [jk]
  refine go_bind.mpr ?_
  refine ⟨p4, p4e, ?_⟩
  refine Go.gd (i16) ?_
  have mod : ∀ {Q : Int32 × Mm → Prop}, Go (if inb (nI (67 + 4 * k)) 128 then (if inb (nI (67 + 4 * k)) 128 then (if mput r4.2 233 (67 + 4 * k) r4.1 233 (67 + 4 * k) = -1 then some (-1, mput r4.2 233 (67 + 4 * k) r4.1) else Option.bind (fM_readMark 59 (mput r4.2 233 (67 + 4 * k) r4.1)) fun qz23 => some (qz23.1, qz23.2)) else none) else none) Q → Go (Option.bind (fM_readTold 18 0 999 B) fun qz2 => if inb (nI (64 + 4 * k)) 128 then (if inb (nI (64 + 4 * k)) 128 then (if mput qz2.2 233 (64 + 4 * k) qz2.1 233 (64 + 4 * k) = -1 then some (-1, mput qz2.2 233 (64 + 4 * k) qz2.1) else Option.bind (fM_readTold 19 0 (mput qz2.2 233 (64 + 4 * k) qz2.1 217 6 - 1) (mput qz2.2 233 (64 + 4 * k) qz2.1)) fun qz7 => if inb (nI (65 + 4 * k)) 128 then (if inb (nI (65 + 4 * k)) 128 then (if mput qz7.2 233 (65 + 4 * k) qz7.1 233 (65 + 4 * k) = -1 then some (-1, mput qz7.2 233 (65 + 4 * k) qz7.1) else if mput qz7.2 233 (65 + 4 * k) qz7.1 217 13 = 2 then (if fM_isIn (mput qz7.2 233 (65 + 4 * k) qz7.1 217 14) 22 28 = 0 then some ((fM_errs 1 (mput qz7.2 233 (65 + 4 * k) qz7.1)).1, (fM_errs 1 (mput qz7.2 233 (65 + 4 * k) qz7.1)).2) else if inb (nI (66 + 4 * k)) 128 then Option.bind (fM_reads (mput (mput qz7.2 233 (65 + 4 * k) qz7.1) 233 (66 + 4 * k) (mput qz7.2 233 (65 + 4 * k) qz7.1 217 14 - 22))) fun Mz16 => Option.bind (fM_readNumber 1 99 Mz16) fun qz18 => if inb (nI (67 + 4 * k)) 128 then (if inb (nI (67 + 4 * k)) 128 then (if mput qz18.2 233 (67 + 4 * k) qz18.1 233 (67 + 4 * k) = -1 then some (-1, mput qz18.2 233 (67 + 4 * k) qz18.1) else Option.bind (fM_readMark 59 (mput qz18.2 233 (67 + 4 * k) qz18.1)) fun qz23 => some (qz23.1, qz23.2)) else none) else none else none) else some ((fM_errs 1 (mput qz7.2 233 (65 + 4 * k) qz7.1)).1, (fM_errs 1 (mput qz7.2 233 (65 + 4 * k) qz7.1)).2)) else none) else none) else none) else none) Q := by
    intro Q hQ
    refine go_bind.mpr ?_
    refine ⟨r, re, ?_⟩
    refine Go.gd (b0) ?_
    refine Go.gd (b0) ?_
    refine Go.no (by rw [mput_same, r1]; exact nI_neg1 (by omega)) ?_
    refine go_bind.mpr ?_
    rw [g6]
    refine ⟨r2, r2e, ?_⟩
    refine Go.gd (b1) ?_
    refine Go.gd (b1) ?_
    refine Go.no (by rw [mput_same, r21]; exact nI_neg1 (by omega)) ?_
    refine Go.yes (t2) ?_
    refine Go.no (by rw [ti]; decide) ?_
    refine Go.gd (b2) ?_
    refine go_bind.mpr ?_
    rw [tv]
    refine ⟨B3, B3e, ?_⟩
    refine go_bind.mpr ?_
    exact ⟨r4, r4e, hQ⟩
  rcases h4 with ⟨v4, v41, p41, r41, w4, ps4⟩ | ⟨p41, r41, fl⟩
  rotate_left
  · refine (pt4_bad (A := mput p4.2 159 k p4.1) (by rw [mput_r (by omega)]; exact fl.1)).mono fun A' q => ?_
    have q' := q.put (by omega)
    refine mod ?_
    refine Go.gd (b3) ?_
    refine Go.gd (b3) ?_
    refine Go.yes (by rw [mput_same, r41]) ?_
    refine Go.some ?_
    refine ⟨fa4.trans q'.2.2, fb4.put (by omega), Or.inr ⟨rfl, ?_⟩⟩
    exact (q'.flt fl).putB (by omega)
  have m4 := within_99 v41 w4
  have psD := ps4.put (a := 159) (k := k) (c := 233) (j := 67 + 4 * k) (v := p4.1) (w := r4.1) (by omega) (by omega)
  obtain ⟨A5, A5e, r5, r5e, n5, o5, h5'⟩ := mark_go hL psD
  unfold pt4
  refine go_bind.mpr ?_
  refine ⟨A5, A5e, ?_⟩
  refine Go.some ?_
  refine mod ?_
  refine Go.gd (b3) ?_
  refine Go.gd (b3) ?_
  refine Go.no (by rw [mput_same, r41]; exact nI_neg1 (by omega)) ?_
  refine go_bind.mpr ?_
  refine ⟨r5, r5e, ?_⟩
  refine Go.some ?_
  have fa5 : gF A (mput A5 147 1 (nI k + 1)) := ((fa4.put (by omega)).trans n5.g).put (by omega)
  have fb5 : hF B r5.2 := (fb4.put (by omega)).trans o5.h
  refine ⟨fa5, fb5, ?_⟩
  rcases h5' with ⟨z0, ps5⟩ | ⟨z0, fl⟩
  rotate_left
  · exact Or.inr ⟨z0, fl.putA (by omega)⟩
  left
  -- what the cells hold
  have A5c : ∀ c j, ¬ (c = 146 ∧ (j = 1 ∨ j = 2 ∨ j = 4)) → ¬ (c = 147 ∧ j = 1) → mput A5 147 1 (nI k + 1) c j = mput (mput (mput (mput A 156 k (nI v)) 157 k (nI v2)) 158 k (nI kk)) 159 k (nI v4) c j := fun c j q w => by
    rw [mput_q w, n5 c j q, p41]
    by_cases z4 : c = 159 ∧ j = k
    · rw [z4.1, z4.2, mput_same, mput_same]
    · rw [mput_q z4, mput_q z4, n4 c j q]
      by_cases z3 : c = 158 ∧ j = k
      · rw [z3.1, z3.2, mput_same, mput_same]
      · rw [mput_q z3, mput_q z3, mput_q (by omega)]
        by_cases z2 : c = 157 ∧ j = k
        · rw [z2.1, z2.2, mput_same, mput_same, p21]
        · rw [mput_q z2, mput_q z2, n2 c j q]
          by_cases z1 : c = 156 ∧ j = k
          · rw [z1.1, z1.2, mput_same, mput_same, p1]
          · rw [mput_q z1, mput_q z1, n1 c j q]
  have B5c : ∀ j, r5.2 233 j = mput (mput (mput (mput B 233 (64 + 4 * k) (nI v)) 233 (65 + 4 * k) (nI v2)) 233 (66 + 4 * k) (nI kk)) 233 (67 + 4 * k) (nI v4) 233 j := fun j => by
    rw [o5 233 j (by omega), r41]
    by_cases z4 : j = 67 + 4 * k
    · rw [z4, mput_same, mput_same]
    · rw [mput_s z4, mput_s z4, o4 233 j (by omega), fr3 233 j (by omega)]
      by_cases z3 : j = 66 + 4 * k
      · rw [z3, mput_same, mput_same]
      · rw [mput_s z3, mput_s z3]
        by_cases z2 : j = 65 + 4 * k
        · rw [z2, mput_same, mput_same, r21]
        · rw [mput_s z2, mput_s z2, o2 233 j (by omega)]
          by_cases z1 : j = 64 + 4 * k
          · rw [z1, mput_same, mput_same, r1]
          · rw [mput_s z1, mput_s z1, o1 233 j (by omega)]
  refine ⟨by rw [z0]; decide, ⟨_, ps5.putA (by omega)⟩, ?_, ?_, fun j hj => ⟨?_, ?_, ?_, ?_⟩, fun j hj => ?_, ?_, ?_, ?_, ?_, ?_, by rw [mput_same, nI_1]⟩
  · rw [A5c 146 5 (by omega) (by omega), mput_r (by omega), mput_r (by omega), mput_r (by omega), mput_r (by omega)]; exact h5
  · rw [o5 217 6 (by omega), mput_r (by omega), o4 217 6 (by omega), fr3 217 6 (by omega), mput_r (by omega), mput_r (by omega), o2 217 6 (by omega)]; exact g6
  · rw [A5c _ _ (by omega) (by omega), mput_q (by omega), mput_q (by omega), mput_q (by omega), mput_q (by omega)]
  · rw [A5c _ _ (by omega) (by omega), mput_q (by omega), mput_q (by omega), mput_q (by omega), mput_q (by omega)]
  · rw [A5c _ _ (by omega) (by omega), mput_q (by omega), mput_q (by omega), mput_q (by omega), mput_q (by omega)]
  · rw [A5c _ _ (by omega) (by omega), mput_q (by omega), mput_q (by omega), mput_q (by omega), mput_q (by omega)]
  · rw [B5c, mput_s (by omega), mput_s (by omega), mput_s (by omega), mput_s (by omega)]
  · rw [A5c 156 k (by omega) (by omega), B5c, mput_r (by omega), mput_r (by omega), mput_r (by omega), mput_same, mput_s (by omega), mput_s (by omega), mput_s (by omega), mput_same]
  · rw [A5c 157 k (by omega) (by omega), B5c, mput_r (by omega), mput_r (by omega), mput_same, mput_s (by omega), mput_s (by omega), mput_same]
  · rw [A5c 158 k (by omega) (by omega), B5c, mput_r (by omega), mput_same, mput_s (by omega), mput_same]
  · rw [A5c 159 k (by omega) (by omega), B5c, mput_same, mput_same]
  · rw [B5c, B5c, B5c, mput_s (show 65 + 4 * k ≠ 67 + 4 * k by omega), mput_s (show 65 + 4 * k ≠ 66 + 4 * k by omega), mput_same, mput_s (show 66 + 4 * k ≠ 67 + 4 * k by omega), mput_same, mput_same]
    exact ⟨⟨v2, by omega, rfl⟩, ⟨kk, kk7, rfl⟩, v4, m4.1, m4.2, rfl⟩
end PmLines3
