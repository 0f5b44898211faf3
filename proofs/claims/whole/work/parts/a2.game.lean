section PmSmall3
/-! game -/
theorem xor_z {x y : Int32} : x ^^^ y = 0 ↔ y = x := by
  constructor
  · intro h
    have : x ^^^ y ^^^ y = 0 ^^^ y := by rw [h]
    rw [Int32.xor_assoc, Int32.xor_self, Int32.xor_zero, Int32.zero_xor] at this
    exact this.symm
  · rintro rfl
    exact Int32.xor_self
def gX (P : Nat → Int32) : Nat → Int32
  | 0 => 0
  | d + 1 => gX P d ^^^ jrem (P d) 3
theorem sim_game {A B : Mm} (x : Int32) (h : RR A B) : Sim A B (fK_game x A) (fM_game x B) := by
  have h0 := h
  obtain ⟨⟨n, ⟨⟨m, r, hh, ⟨n1, n2, n3⟩, ⟨b1, b2, b3, b4, b5⟩, -⟩, hd, -⟩, -⟩, -⟩ := h0
  have n2' : A 2 0 = nI n := n2
  have b2' : A 8 0 = nI m := b2
  have m1 : mput B 217 0 0 217 6 = nI n := hd
  have m3 : mput B 217 0 0 218 10 = nI m := b3
  obtain ⟨P, hP⟩ : ∃ P : Nat → Nat, P = fun d => cnt (fun i => B 218 (55 + 5 * i)) (nI d) m := ⟨_, rfl⟩
  have P24 : ∀ d, P d ≤ 24 := fun d => by rw [hP]; exact Nat.le_trans (cnt_le _ _ _) b1
  have cA : ∀ (M : Mm) (d : Nat), M 8 = A 8 → M 10 = A 10 → fB_countFor 8 (nI d) M = some (nI (P d)) := fun M d e1 e2 => by
    rw [countFor_eq (nI d) b1 (by rw [e1]; exact b2'), e2, hP]
    congr 2
    exact cnt_congr fun i hi => (b5 i hi).2.1
  have cB : ∀ d : Nat, fM_lettersFor (nI d) (mput B 217 0 0) = some (nI (P d)) := fun d => by
    rw [lettersFor_eq (nI d) b1 m3, hP, mput_r (by omega)]
  unfold Sim fK_game fM_game
  simp only [isIn_eq]
  rcases within_nI1 x (a := 0) (b := 1) (by omega) (by omega) with ⟨p, t, -, t1, rfl⟩ | ⟨p, -⟩
  rotate_left
  · have p : fK_isWithin x 0 1 = 0 := p
    refine Go.yes (p) ?_
    refine Go.some ?_
    refine Go.yes (p) ?_
    refine Go.some ?_
    exact ⟨rfl, fin_0 h⟩
  have p : fK_isWithin (nI t) 0 1 = 1 := p
  have L1 : Go (lp 1000000 (fun s => fY_goodMove_b5 (if nI t = 1 then (1 : Int32) else 0) s.1 s.2.1 s.2.2) (0, 0, A)) (fun y => ∃ A', y = (gX (fun d => nI (P d)) n, A') ∧ (∀ c, c ≠ 176 → A' c = A c) ∧ ∀ d, d < n → A' 176 d = nI (P d)) := by
    refine go_for (fun i s => ∃ A', s = (gX (fun d => nI (P d)) i, nI i, A') ∧ (∀ c, c ≠ 176 → A' c = A c) ∧ ∀ d, d < i → A' 176 d = nI (P d)) n ?_ ?_ (i := 0) (by omega) ⟨A, rfl, fun _ _ => rfl, fun d hd => by omega⟩ (by omega)
    · rintro s ⟨A', rfl, f1, f2⟩
      unfold fY_goodMove_b5
      have a2 : A' 2 0 = nI n := by rw [f1 2 (by omega)]; exact n2'
      dsimp only
      simp only [a2]
      refine Go.yes (i32_le.mpr (Int.le_refl _)) ?_
      refine Go.some ?_
      exact ⟨A', rfl, f1, f2⟩
    · rintro i s hi ⟨A', rfl, f1, f2⟩
      unfold fY_goodMove_b5
      have ji : jix (nI i) = i := jix_nI (by omega)
      have a2 : A' 2 0 = nI n := by rw [f1 2 (by omega)]; exact n2'
      dsimp only
      simp only [a2, cA A' i (f1 8 (by omega)) (f1 10 (by omega))]
      refine Go.no (by rw [nI_le' (by omega) (by omega)]; omega) ?_
      refine go_bind.mpr ?_
      refine Go.some ?_
      refine Go.gd ((inb_nI (by omega)).mpr (by omega)) ?_
      refine Go.gd ((inb_nI (by omega)).mpr (by omega)) ?_
      refine Go.some ?_
      rw [ji, mput_same, nI_1]
      refine ⟨_, rfl, fun c hc => by rw [mput_r hc]; exact f1 c hc, fun d hd => ?_⟩
      by_cases e : d = i
      · subst e; rw [mput_same]
      · rw [mput_s e]; exact f2 d (by omega)
  obtain ⟨y1, l1, A1, rfl, f1, f2⟩ := L1
  have L2 : Go (lp 1000000 (fun s => fM_game_b21 (nI t) (mput B 217 0 0) s.1 s.2) (0, 0)) (fun y => y = gX (fun d => nI (P d)) n) := by
    refine go_for (fun i s => s = (gX (fun d => nI (P d)) i, nI i)) n ?_ ?_ (i := 0) (by omega) rfl (by omega)
    · rintro s rfl
      unfold fM_game_b21
      dsimp only
      rw [m1]
      refine Go.yes (i32_le.mpr (Int.le_refl _)) ?_
      refine Go.some ?_
      rfl
    · rintro i s hi rfl
      unfold fM_game_b21
      dsimp only
      rw [m1, cB i]
      refine Go.no (by rw [nI_le' (by omega) (by omega)]; omega) ?_
      refine go_bind.mpr ?_
      refine Go.some ?_
      refine Go.some ?_
      rw [nI_1]; rfl
  have l2 := Go.eq L2
  generalize gX (fun d => nI (P d)) n = X at *
  have inner : ∀ i, i < n → Go (lp 1000000 (fun s => fY_goodMove_b69 (if nI t = 1 then (1 : Int32) else 0) X (nI i) A1 s) 1) (fun y => Go (lp 1000000 (fun s => fM_game_b73 (nI t) X (nI i) (nI (P i)) (X ^^^ jrem (nI (P i)) 3) (mput B 217 0 0) s) 1) (fun y' => y = y')) := by
    intro i hi
    have ji : jix (nI i) = i := jix_nI (by omega)
    have ii : inb (nI i) 12 := (inb_nI (by omega)).mpr (by omega)
    have p24 := P24 i
    have mn : jmin 2 (nI (P i)) = nI (min 2 (P i)) := by rw [lit_nI, jmin_nI (by omega) (by omega)]
    have mn2 : fM_lesser (nI (P i)) 2 = nI (min 2 (P i)) := by rw [← jmin_eq, jmin_comm]; exact mn
    refine go_for2 (J := fun k s t => s = nI k ∧ t = nI k) (e := min 2 (P i) + 1) ?_ ?_ (i := 1) (by omega) ⟨rfl, rfl⟩ (by omega)
    · rintro s t ⟨rfl, rfl⟩
      unfold fY_goodMove_b69 fM_game_b73
      rw [ji, f2 i hi, mn, mn2]
      refine Go.gd (ii) ?_
      refine Go.yes (by rw [nI_lt' (by omega) (by omega)]; omega) ?_
      refine Go.some ?_
      refine Go.yes (by rw [nI_lt' (by omega) (by omega)]; omega) ?_
      refine Go.some ?_
      rfl
    · rintro k s t hk ⟨rfl, rfl⟩
      unfold fY_goodMove_b69 fM_game_b73
      rw [ji, f2 i hi, mn, mn2, nI_1]
      refine Go.gd (ii) ?_
      refine Go.no (by rw [nI_lt' (by omega) (by omega)]; omega) ?_
      refine Go.gd (ii) ?_
      refine Go.gd (ii) ?_
      by_cases c : jrem (nI (P i) - nI k) 3 = X ^^^ jrem (nI (P i)) 3
      · refine Go.yes (xor_z.mpr c) ?_
        refine Go.some ?_
        refine Go.no (by rw [nI_lt' (by omega) (by omega)]; omega) ?_
        refine Go.yes (c) ?_
        refine Go.some ?_
        rfl
      · refine Go.no (fun z => c (xor_z.mp z)) ?_
        refine Go.some ?_
        refine Go.no (by rw [nI_lt' (by omega) (by omega)]; omega) ?_
        refine Go.no (c) ?_
        refine Go.some ?_
        exact ⟨rfl, rfl⟩
  have L3 := go_for2 (f := fun s : Int32 => fY_goodMove_b54 (if nI t = 1 then (1 : Int32) else 0) X A1 s) (g := fun s : Int32 => fM_game_b47 (nI t) X (mput B 217 0 0) s)
    (Q := fun y y' => y = y') (fun i s t => s = nI i ∧ t = nI i) n ?_ ?_ (i := 0) (s := 0) (t := 0) (by omega) ⟨rfl, rfl⟩ (n := 1000000) (by omega)
  · obtain ⟨y, z1, y', z2, rfl⟩ := L3
    have fr : RR A1 (mput B 217 0 0) ∧ KF A A1 ∧ MF B (mput B 217 0 0) ∧ CNs B (mput B 217 0 0) := fin_r h (fun c k q => by
      by_cases e : c = 176
      · subst e; cases q
      · rw [f1 c e]) (fb_put (fb_rfl _ _) rfl)
    unfold fY_goodMove
    refine Go.no (by rw [p]; decide) ?_
    refine go_bind.mpr ?_
    rw [l1]
    refine go_bind.mpr ?_
    refine Go.some ?_
    dsimp only
    rw [z1]
    have ht : t = 0 ∨ t = 1 := by omega
    cases y with
    | inl y =>
      rcases ht with rfl | rfl
      · refine go_bind.mpr ?_
        refine Go.some ?_
        refine Go.yes (by first | rfl | (simp; done)) ?_
        refine Go.some ?_
        refine Go.some ?_
        refine Go.no (by rw [p]; decide) ?_
        refine go_bind.mpr ?_
        rw [l2]
        refine Go.some ?_
        refine go_bind.mpr ?_
        rw [z2]
        refine Go.some ?_
        refine Go.yes (by first | rfl | (simp; done)) ?_
        refine Go.some ?_
        exact ⟨rfl, fr⟩
      · refine go_bind.mpr ?_
        refine Go.some ?_
        refine Go.no (by first | decide | (simp; done)) ?_
        refine Go.some ?_
        refine Go.some ?_
        refine Go.no (by rw [p]; decide) ?_
        refine go_bind.mpr ?_
        rw [l2]
        refine Go.some ?_
        refine go_bind.mpr ?_
        rw [z2]
        refine Go.some ?_
        refine Go.no (by first | decide | (simp; done)) ?_
        refine Go.some ?_
        exact ⟨rfl, fr⟩
    | inr y =>
      refine go_bind.mpr ?_
      refine Go.some ?_
      refine Go.some ?_
      refine Go.some ?_
      refine Go.no (by rw [p]; decide) ?_
      refine go_bind.mpr ?_
      rw [l2]
      refine Go.some ?_
      refine go_bind.mpr ?_
      rw [z2]
      refine Go.some ?_
      refine Go.some ?_
      exact ⟨rfl, fr⟩
  · rintro s t ⟨rfl, rfl⟩
    unfold fY_goodMove_b54 fM_game_b47
    rw [f1 2 (by omega), n2', m1]
    refine Go.yes (i32_le.mpr (Int.le_refl _)) ?_
    refine Go.some ?_
    refine Go.yes (i32_le.mpr (Int.le_refl _)) ?_
    refine Go.some ?_
    rfl
  · rintro i s t' hi ⟨rfl, rfl⟩
    unfold fY_goodMove_b54 fM_game_b47
    obtain ⟨y, z1, y', z2, rfl⟩ := inner i hi
    rw [f1 2 (by omega), n2', m1, cB i]
    refine Go.no (by rw [nI_le' (by omega) (by omega)]; omega) ?_
    refine go_bind.mpr ?_
    rw [z1]
    refine Go.some ?_
    cases y with
    | inl y =>
      refine Go.some ?_
      refine Go.no (by rw [nI_le' (by omega) (by omega)]; omega) ?_
      refine go_bind.mpr ?_
      refine Go.some ?_
      refine go_bind.mpr ?_
      rw [z2]
      refine Go.some ?_
      refine Go.some ?_
      rfl
    | inr y =>
      refine Go.some ?_
      refine Go.no (by rw [nI_le' (by omega) (by omega)]; omega) ?_
      refine go_bind.mpr ?_
      refine Go.some ?_
      refine go_bind.mpr ?_
      rw [z2]
      refine Go.some ?_
      refine Go.some ?_
      exact ⟨by rw [nI_1], by rw [nI_1]⟩
end PmSmall3
