section PmGive
theorem take_oth {A : Mm} {w i d κ : Nat} {g : Int32} (hi : i < 24) (hd : d < 12) (hκ : κ < 7) (k1 : κ ≠ 1) (ek : A (w + 10) i = nI κ) (ed : A (w + 9) i = nI d) :
    fW_take w (nI i) g A = some (g, mput (mput A (w + 13) κ (A (w + 13) κ + g)) (w + 5) d (A (w + 5) d + 1)) := by
  apply Go.eq
  unfold fW_take
  have ji : jix (nI i) = i := jix_nI (by omega)
  have jk : jix (nI κ) = κ := jix_nI (by omega)
  have jd : jix (nI d) = d := jix_nI (by omega)
  have ii : inb (nI i) 24 := (inb_nI (by omega)).mpr hi
  have id : inb (nI d) 12 := (inb_nI (by omega)).mpr hd
  have ik : inb (nI κ) 7 := (inb_nI (by omega)).mpr hκ
  simp only [ji, ek, ed, jk, jd]
  refine Go.gd (ii) ?_
  refine Go.gd (ii) ?_
  refine go_bind.mpr ?_
  refine Go.no (show ¬ nI κ = nI 1 by rw [nI_eq' (by omega) (by omega)]; exact k1) ?_
  refine Go.some ?_
  refine Go.gd (ik) ?_
  refine Go.gd (ik) ?_
  refine Go.gd (id) ?_
  refine Go.gd (id) ?_
  refine Go.some ?_
  rw [mput_r (show w + 5 ≠ w + 13 by omega)]
theorem take_bill {A : Mm} {w i d : Nat} {g : Int32} (hi : i < 24) (hd : d < 12) (ek : A (w + 10) i = nI 1) (ed : A (w + 9) i = nI d) :
    fW_take w (nI i) g A = some (jmin g (A (w + 4) d), mput (mput (mput A (w + 4) d (A (w + 4) d - jmin g (A (w + 4) d))) (w + 13) 1 (A (w + 13) 1 + jmin g (A (w + 4) d))) (w + 5) d (A (w + 5) d + 1)) := by
  apply Go.eq
  unfold fW_take
  have ji : jix (nI i) = i := jix_nI (by omega)
  have jd : jix (nI d) = d := jix_nI (by omega)
  have j1 : jix (nI 1) = 1 := rfl
  have ii : inb (nI i) 24 := (inb_nI (by omega)).mpr hi
  have id : inb (nI d) 12 := (inb_nI (by omega)).mpr hd
  have ik : inb (nI 1) 7 := by decide
  simp only [ji, ek, ed, jd, j1]
  refine Go.gd (ii) ?_
  refine Go.gd (ii) ?_
  refine go_bind.mpr ?_
  refine Go.yes (by first | rfl | (simp; done)) ?_
  refine Go.gd (id) ?_
  refine Go.gd (id) ?_
  refine Go.gd (id) ?_
  refine Go.some ?_
  refine Go.gd (ik) ?_
  refine Go.gd (ik) ?_
  refine Go.gd (id) ?_
  refine Go.gd (id) ?_
  refine Go.some ?_
  dsimp only
  rw [mput_r (show w + 5 ≠ w + 13 by omega), mput_r (show w + 13 ≠ w + 4 by omega), mput_r (show w + 5 ≠ w + 4 by omega)]
/-- the three parts of feel -/
def fl1 (A : Mm) (w d κ : Nat) : Mm := mput A (w + 2) d (fK_held (A (w + 2) d + fC0 κ) (-9) 9)
def fl2 (A : Mm) (w κ : Nat) (t : Int32) : Mm := if κ = 3 then mput A w 5 (jmax 0 (A w 5 - t)) else A
def fl3 (A : Mm) (w κ : Nat) (t : Int32) : Mm := if κ = 4 then mput A w 6 (jmax 0 (A w 6 - t)) else A
def fl4 (A : Mm) (w κ μ : Nat) : Mm := if κ = 0 ∧ 50 ≤ μ then mput (mput A w 7 (A w 7 + 1)) w 5 (jmin 99 (A w 5 + 5)) else A
theorem feel_eq {A : Mm} {w i d κ μ : Nat} {t : Int32} (hi : i < 24) (hd : d < 12) (hκ : κ < 7) (hμ : μ ≤ 99) (ek : A (w + 10) i = nI κ) (ed : A (w + 9) i = nI d) (em : A (w + 11) i = nI μ) :
    fW_feel w (nI i) t A = some (fl4 (fl3 (fl2 (fl1 A w d κ) w κ t) w κ t) w κ μ) := by
  apply Go.eq
  unfold fW_feel
  have ji : jix (nI i) = i := jix_nI (by omega)
  have jk : jix (nI κ) = κ := jix_nI (by omega)
  have jd : jix (nI d) = d := jix_nI (by omega)
  have ii : inb (nI i) 24 := (inb_nI (by omega)).mpr hi
  have id : inb (nI d) 12 := (inb_nI (by omega)).mpr hd
  have ik : inb (nI κ) 7 := (inb_nI (by omega)).mpr hκ
  have nk : ∀ c : Nat, c < 100 → (nI κ = nI c ↔ κ = c) := fun c hc => nI_eq' (by omega) (by omega)
  simp only [ji, ek, ed, jk, jd]
  refine Go.gd (ii) ?_
  refine Go.gd (ii) ?_
  refine Go.gd (id) ?_
  refine Go.gd (ik) ?_
  refine Go.gd (id) ?_
  have hm1 : ∀ M : Mm, M (w + 11) = A (w + 11) → M (w + 11) i = nI μ := fun M e => by rw [e]; exact em
  have tail : ∀ M : Mm, M (w + 11) = A (w + 11) → Go (if nI κ = 0 then if inb (nI i) 24 then if M (w + 11) i < 50 then some M else some (mput (mput M w 7 (M w 7 + 1)) w 5 (jmin 99 (mput M w 7 (M w 7 + 1) w 5 + 5))) else none else some M) (fun b => b = fl4 M w κ μ) := by
    intro M e
    unfold fl4
    by_cases k0 : κ = 0
    · refine Go.yes ((nk 0 (by omega)).mpr k0) ?_
      refine Go.gd (ii) ?_
      by_cases m50 : μ < 50
      · refine Go.yes (by rw [hm1 M e, lit_nI, nI_lt' (by omega) (by omega)]; exact m50) ?_
        refine Go.some ?_
        rw [if_neg (by omega)]
      · refine Go.no (by rw [hm1 M e, lit_nI, nI_lt' (by omega) (by omega)]; exact m50) ?_
        refine Go.some ?_
        rw [if_pos ⟨k0, by omega⟩, mput_s (by omega)]
    · refine Go.no (fun q => k0 ((nk 0 (by omega)).mp q)) ?_
      refine Go.some ?_
      rw [if_neg (by omega)]
  have e1 : fl1 A w d κ (w + 11) = A (w + 11) := mput_r (by omega)
  have e2 : fl2 (fl1 A w d κ) w κ t (w + 11) = A (w + 11) := by
    unfold fl2
    split
    · rw [mput_r (by omega), e1]
    · exact e1
  have e3 : fl3 (fl2 (fl1 A w d κ) w κ t) w κ t (w + 11) = A (w + 11) := by
    unfold fl3
    split
    · rw [mput_r (by omega), e2]
    · exact e2
  have t3 := tail _ e3
  refine Go.bind (P := fun M => M = fl2 (fl1 A w d κ) w κ t) ?_ ?_
  · by_cases k3 : κ = 3
    · refine Go.yes ((nk 3 (by omega)).mpr k3) ?_
      refine Go.some ?_
      unfold fl2
      rw [if_pos k3]; rfl
    · refine Go.no (fun q => k3 ((nk 3 (by omega)).mp q)) ?_
      refine Go.some ?_
      unfold fl2
      rw [if_neg k3]; rfl
  · rintro M rfl
    refine Go.bind (P := fun M => M = fl3 (fl2 (fl1 A w d κ) w κ t) w κ t) ?_ ?_
    · by_cases k4 : κ = 4
      · refine Go.yes ((nk 4 (by omega)).mpr k4) ?_
        refine Go.some ?_
        unfold fl3
        rw [if_pos k4]
      · refine Go.no (fun q => k4 ((nk 4 (by omega)).mp q)) ?_
        refine Go.some ?_
        unfold fl3
        rw [if_neg k4]
    · rintro M rfl
      exact t3
/-! the model's side, in the same parts -/
theorem looks_eq {B : Mm} {d : Nat} (hd : d < 12) (δ : Int32) : fM_looks (nI d) δ B = some (mput B 218 (18 + d) (fK_held (B 218 (18 + d) + δ) (-9) 9)) := by
  apply Go.eq
  unfold fM_looks
  have e18 : (18 : Int32) + nI d = nI (18 + d) := nI_add 18 d
  have j18 : jix (nI (18 + d)) = 18 + d := jix_nI (by omega)
  have i18 : inb (nI (18 + d)) 174 := (inb_nI (by omega)).mpr (by omega)
  simp only [e18, j18]
  refine Go.gd (i18) ?_
  refine Go.gd (i18) ?_
  refine Go.some ?_
  rw [held_eq (by decide)]
def gl1 (B : Mm) (d κ : Nat) : Mm := if κ = 4 ∨ κ = 5 then B else mput B 218 (18 + d) (fK_held (B 218 (18 + d) + fC0 κ) (-9) 9)
def gl2 (B : Mm) (κ : Nat) (t : Int32) : Mm := if κ = 3 then mput B 218 4 (99 - fM_held (99 - B 218 4 - t) 0 99) else B
def gl3 (B : Mm) (κ : Nat) (t : Int32) : Mm := if κ = 4 then mput B 218 5 (jmax 0 (B 218 5 - t)) else B
def gl4 (B : Mm) (κ μ : Nat) : Mm := if κ = 0 ∧ 50 ≤ μ then mput (mput B 218 6 (B 218 6 + 1)) 218 4 (99 - fM_held (99 - B 218 4 + 5) 0 99) else B
theorem changes_eq {B : Mm} {d κ : Nat} {t : Int32} (hd : d < 12) (hκ : κ < 7) : fM_changes (nI d) (nI κ) t B = some (gl3 (gl2 (gl1 B d κ) κ t) κ t) := by
  apply Go.eq
  unfold fM_changes
  simp only [looks_eq hd]
  have hc : κ = 0 ∨ κ = 1 ∨ κ = 2 ∨ κ = 3 ∨ κ = 4 ∨ κ = 5 ∨ κ = 6 := by omega
  rcases hc with rfl | rfl | rfl | rfl | rfl | rfl | rfl
  · refine go_bind.mpr ?_
    refine Go.yes (by first | rfl | (simp; done)) ?_
    refine go_bind.mpr ?_
    refine Go.some ?_
    refine Go.some ?_
    refine go_bind.mpr ?_
    refine Go.no (by first | decide | (simp; done)) ?_
    refine Go.some ?_
    refine go_bind.mpr ?_
    refine Go.no (by first | decide | (simp; done)) ?_
    refine Go.some ?_
    refine go_bind.mpr ?_
    refine Go.no (by first | decide | (simp; done)) ?_
    refine Go.some ?_
    refine Go.no (by first | decide | (simp; done)) ?_
    refine Go.some ?_
    rfl
  · refine go_bind.mpr ?_
    refine Go.no (by first | decide | (simp; done)) ?_
    refine Go.yes (by first | rfl | (simp; done)) ?_
    refine go_bind.mpr ?_
    refine Go.some ?_
    refine Go.some ?_
    refine go_bind.mpr ?_
    refine Go.no (by first | decide | (simp; done)) ?_
    refine Go.some ?_
    refine go_bind.mpr ?_
    refine Go.no (by first | decide | (simp; done)) ?_
    refine Go.some ?_
    refine go_bind.mpr ?_
    refine Go.no (by first | decide | (simp; done)) ?_
    refine Go.some ?_
    refine Go.no (by first | decide | (simp; done)) ?_
    refine Go.some ?_
    rfl
  · refine go_bind.mpr ?_
    refine Go.no (by first | decide | (simp; done)) ?_
    refine Go.no (by first | decide | (simp; done)) ?_
    refine Go.no (by first | decide | (simp; done)) ?_
    refine Go.some ?_
    refine go_bind.mpr ?_
    refine Go.yes (by first | rfl | (simp; done)) ?_
    refine go_bind.mpr ?_
    refine Go.some ?_
    refine Go.some ?_
    refine go_bind.mpr ?_
    refine Go.no (by first | decide | (simp; done)) ?_
    refine Go.some ?_
    refine go_bind.mpr ?_
    refine Go.no (by first | decide | (simp; done)) ?_
    refine Go.some ?_
    refine Go.no (by first | decide | (simp; done)) ?_
    refine Go.some ?_
    rfl
  · refine go_bind.mpr ?_
    refine Go.no (by first | decide | (simp; done)) ?_
    refine Go.no (by first | decide | (simp; done)) ?_
    refine Go.yes (by first | rfl | (simp; done)) ?_
    refine go_bind.mpr ?_
    refine Go.some ?_
    refine Go.some ?_
    refine go_bind.mpr ?_
    refine Go.no (by first | decide | (simp; done)) ?_
    refine Go.some ?_
    refine go_bind.mpr ?_
    refine Go.no (by first | decide | (simp; done)) ?_
    refine Go.some ?_
    refine go_bind.mpr ?_
    refine Go.yes (by first | rfl | (simp; done)) ?_
    refine Go.some ?_
    refine Go.no (by first | decide | (simp; done)) ?_
    refine Go.some ?_
    rfl
  · refine go_bind.mpr ?_
    refine Go.no (by first | decide | (simp; done)) ?_
    refine Go.no (by first | decide | (simp; done)) ?_
    refine Go.no (by first | decide | (simp; done)) ?_
    refine Go.some ?_
    refine go_bind.mpr ?_
    refine Go.no (by first | decide | (simp; done)) ?_
    refine Go.some ?_
    refine go_bind.mpr ?_
    refine Go.no (by first | decide | (simp; done)) ?_
    refine Go.some ?_
    refine go_bind.mpr ?_
    refine Go.no (by first | decide | (simp; done)) ?_
    refine Go.some ?_
    refine Go.yes (by first | rfl | (simp; done)) ?_
    refine Go.some ?_
    rw [← jmax_eq]; rfl
  · refine go_bind.mpr ?_
    refine Go.no (by first | decide | (simp; done)) ?_
    refine Go.no (by first | decide | (simp; done)) ?_
    refine Go.no (by first | decide | (simp; done)) ?_
    refine Go.some ?_
    refine go_bind.mpr ?_
    refine Go.no (by first | decide | (simp; done)) ?_
    refine Go.some ?_
    refine go_bind.mpr ?_
    refine Go.no (by first | decide | (simp; done)) ?_
    refine Go.some ?_
    refine go_bind.mpr ?_
    refine Go.no (by first | decide | (simp; done)) ?_
    refine Go.some ?_
    refine Go.no (by first | decide | (simp; done)) ?_
    refine Go.some ?_
    rfl
  · refine go_bind.mpr ?_
    refine Go.no (by first | decide | (simp; done)) ?_
    refine Go.no (by first | decide | (simp; done)) ?_
    refine Go.no (by first | decide | (simp; done)) ?_
    refine Go.some ?_
    refine go_bind.mpr ?_
    refine Go.no (by first | decide | (simp; done)) ?_
    refine Go.some ?_
    refine go_bind.mpr ?_
    refine Go.yes (by first | rfl | (simp; done)) ?_
    refine go_bind.mpr ?_
    refine Go.some ?_
    refine Go.some ?_
    refine go_bind.mpr ?_
    refine Go.no (by first | decide | (simp; done)) ?_
    refine Go.some ?_
    refine Go.no (by first | decide | (simp; done)) ?_
    refine Go.some ?_
    rfl
def gl0 (B : Mm) (d κ : Nat) (t : Int32) : Mm := if κ = 1 then mput (mput B 218 (11 + κ) (B 218 (11 + κ) + t)) 218 (30 + d) (B 218 (30 + d) - t) else mput B 218 (11 + κ) (B 218 (11 + κ) + t)
def gl5 (B : Mm) (d : Nat) : Mm := mput B 218 (42 + d) (B 218 (42 + d) + 1)
theorem given_eq {B : Mm} {d κ μ : Nat} {t : Int32} (hd : d < 12) (hκ : κ < 7) (hμ : μ ≤ 99) : fM_isGiven (nI d) (nI κ) (nI μ) t B = some (gl5 (gl4 (gl3 (gl2 (gl1 (gl0 B d κ t) d κ) κ t) κ t) κ μ) d) := by
  apply Go.eq
  unfold fM_isGiven
  have e11 : (11 : Int32) + nI κ = nI (11 + κ) := nI_add 11 κ
  have e30 : (30 : Int32) + nI d = nI (30 + d) := nI_add 30 d
  have e42 : (42 : Int32) + nI d = nI (42 + d) := nI_add 42 d
  have j11 : jix (nI (11 + κ)) = 11 + κ := jix_nI (by omega)
  have j30 : jix (nI (30 + d)) = 30 + d := jix_nI (by omega)
  have j42 : jix (nI (42 + d)) = 42 + d := jix_nI (by omega)
  have i11 : inb (nI (11 + κ)) 174 := (inb_nI (by omega)).mpr (by omega)
  have i30 : inb (nI (30 + d)) 174 := (inb_nI (by omega)).mpr (by omega)
  have i42 : inb (nI (42 + d)) 174 := (inb_nI (by omega)).mpr (by omega)
  have nk : ∀ c : Nat, c < 100 → (nI κ = nI c ↔ κ = c) := fun c hc => nI_eq' (by omega) (by omega)
  simp only [e11, e30, e42, j11, j30, j42]
  refine Go.gd (i11) ?_
  refine Go.gd (i11) ?_
  refine Go.bind (P := fun M => M = gl0 B d κ t) ?_ ?_
  · unfold gl0
    by_cases k1 : κ = 1
    · refine Go.yes ((nk 1 (by omega)).mpr k1) ?_
      refine Go.gd (i30) ?_
      refine Go.gd (i30) ?_
      refine Go.some ?_
      rw [if_pos k1, mput_s (show 30 + d ≠ 11 + κ by omega)]
    · refine Go.no (fun q => k1 ((nk 1 (by omega)).mp q)) ?_
      refine Go.some ?_
      rw [if_neg k1]
  · rintro M rfl
    rw [changes_eq hd hκ]
    refine go_bind.mpr ?_
    refine Go.some ?_
    refine Go.bind (P := fun M => M = gl4 (gl3 (gl2 (gl1 (gl0 B d κ t) d κ) κ t) κ t) κ μ) ?_ ?_
    · unfold gl4
      by_cases k0 : κ = 0
      · refine Go.yes ((nk 0 (by omega)).mpr k0) ?_
        by_cases m50 : μ < 50
        · refine Go.yes (by rw [lit_nI, nI_lt' (by omega) (by omega)]; exact m50) ?_
          refine Go.some ?_
          rw [if_neg (by omega)]
        · refine Go.no (by rw [lit_nI, nI_lt' (by omega) (by omega)]; exact m50) ?_
          refine Go.some ?_
          rw [if_pos ⟨k0, by omega⟩]
          unfold fM_hasHealth fM_health
          rw [mput_s (by omega)]
      · refine Go.no (fun q => k0 ((nk 0 (by omega)).mp q)) ?_
        refine Go.some ?_
        rw [if_neg (by omega)]
    · rintro M rfl
      refine Go.gd (i42) ?_
      refine Go.gd (i42) ?_
      refine Go.some ?_
      rfl
end PmGive
