section PmTold
/-- all but the told, all but the world, all but the tape -/
def aNE (c k : Nat) : Bool := aW c k || aP c k || aX c k || aT c k || aF c k || aI c k || aM c k || mK c k
def bNE (c k : Nat) : Bool := bW c k || bP c k || bX c k || bT c k || bF c k || bI c k || bM c k || mM c k
def aNW (c k : Nat) : Bool := aX c k || aE c k || aT c k || aF c k || aI c k || aM c k || mK c k
def bNW (c k : Nat) : Bool := bX c k || bE c k || bT c k || bF c k || bI c k || bM c k || mM c k
def aNT (c k : Nat) : Bool := aW c k || aP c k || aX c k || aE c k || aF c k || aI c k || aM c k || mK c k
def bNT (c k : Nat) : Bool := bW c k || bP c k || bX c k || bE c k || bF c k || bI c k || bM c k || mM c k
theorem fin_r {A A' B B' : Mm} (h : RR A B) (a : FB aR A A') (b : FB bR B B') : RR A' B' ∧ KF A A' ∧ MF B B' ∧ CNs B B' :=
  ⟨RR_congr a b h, a.sub fun c k q => by simp [aR, q], b.sub fun c k q => by simp [bR, q], CNs_of (b 218 9 rfl) (b.row fun _ => rfl) (b 251 9 rfl)⟩
theorem fin_e {A A' B B' : Mm} (h : RR A B) (hE : RE A' B') (a : FB aNE A A') (b : FB bNE B B') : RR A' B' ∧ KF A A' ∧ MF B B' ∧ CNs B B' := by
  obtain ⟨⟨n, h1, h2⟩, h3, h4, h5, h6, h7, h8⟩ := h
  exact ⟨⟨⟨n, RW_congr (a.sub fun c k q => by simp [aNE, q]) (b.sub fun c k q => by simp [bNE, q]) h1, RP_congr (a.sub fun c k q => by simp [aNE, q]) (b.sub fun c k q => by simp [bNE, q]) h2⟩,
    RX_congr (a.sub fun c k q => by simp [aNE, q]) (b.sub fun c k q => by simp [bNE, q]) h3, hE,
    RT_congr (a.sub fun c k q => by simp [aNE, q]) (b.sub fun c k q => by simp [bNE, q]) h5, RF_congr (a.sub fun c k q => by simp [aNE, q]) (b.sub fun c k q => by simp [bNE, q]) h6,
    RI_congr (a.sub fun c k q => by simp [aNE, q]) (b.sub fun c k q => by simp [bNE, q]) h7, RM_congr (a.sub fun c k q => by simp [aNE, q]) (b.sub fun c k q => by simp [bNE, q]) h8⟩,
    a.sub fun c k q => by simp [aNE, q], b.sub fun c k q => by simp [bNE, q], CNs_of (b 218 9 rfl) (b.row fun _ => rfl) (b 251 9 rfl)⟩
theorem fin_w {A A' B B' : Mm} (h : RR A B) (hW : ∃ n, RW A' B' n ∧ RP A' B' n) (a : FB aNW A A') (b : FB bNW B B') (hc : CNs B B') : RR A' B' ∧ KF A A' ∧ MF B B' ∧ CNs B B' := by
  obtain ⟨-, h3, h4, h5, h6, h7, h8⟩ := h
  exact ⟨⟨hW, RX_congr (a.sub fun c k q => by simp [aNW, q]) (b.sub fun c k q => by simp [bNW, q]) h3, RE_congr (a.sub fun c k q => by simp [aNW, q]) (b.sub fun c k q => by simp [bNW, q]) h4,
    RT_congr (a.sub fun c k q => by simp [aNW, q]) (b.sub fun c k q => by simp [bNW, q]) h5, RF_congr (a.sub fun c k q => by simp [aNW, q]) (b.sub fun c k q => by simp [bNW, q]) h6,
    RI_congr (a.sub fun c k q => by simp [aNW, q]) (b.sub fun c k q => by simp [bNW, q]) h7, RM_congr (a.sub fun c k q => by simp [aNW, q]) (b.sub fun c k q => by simp [bNW, q]) h8⟩,
    a.sub fun c k q => by simp [aNW, q], b.sub fun c k q => by simp [bNW, q], hc⟩
theorem fin_t {A A' B B' : Mm} (h : RR A B) (hT : RT A' B') (a : FB aNT A A') (b : FB bNT B B') : RR A' B' ∧ KF A A' ∧ MF B B' ∧ CNs B B' := by
  obtain ⟨⟨n, h1, h2⟩, h3, h4, h5, h6, h7, h8⟩ := h
  exact ⟨⟨⟨n, RW_congr (a.sub fun c k q => by simp [aNT, q]) (b.sub fun c k q => by simp [bNT, q]) h1, RP_congr (a.sub fun c k q => by simp [aNT, q]) (b.sub fun c k q => by simp [bNT, q]) h2⟩,
    RX_congr (a.sub fun c k q => by simp [aNT, q]) (b.sub fun c k q => by simp [bNT, q]) h3, RE_congr (a.sub fun c k q => by simp [aNT, q]) (b.sub fun c k q => by simp [bNT, q]) h4, hT,
    RF_congr (a.sub fun c k q => by simp [aNT, q]) (b.sub fun c k q => by simp [bNT, q]) h6,
    RI_congr (a.sub fun c k q => by simp [aNT, q]) (b.sub fun c k q => by simp [bNT, q]) h7, RM_congr (a.sub fun c k q => by simp [aNT, q]) (b.sub fun c k q => by simp [bNT, q]) h8⟩,
    a.sub fun c k q => by simp [aNT, q], b.sub fun c k q => by simp [bNT, q], CNs_of (b 218 9 rfl) (b.row fun _ => rfl) (b 251 9 rfl)⟩
/-- nothing done: the model's mark alone -/
theorem fin_0 {A B : Mm} (h : RR A B) : RR A (mput B 217 0 0) ∧ KF A A ∧ MF B (mput B 217 0 0) ∧ CNs B (mput B 217 0 0) := fin_r h (fb_rfl _ _) (fb_put (fb_rfl _ _) rfl)
theorem sim_0 {A B : Mm} {r r' : Int32} (h : RR A B) (e : r = r') : Sim A B (some (r, A)) (some (r', mput B 217 0 0)) := Go.some (Go.some ⟨e, fin_0 h⟩)
/-- a row filled -/
def mfill (M : Mm) (a n : Nat) (v : Int32) : Mm := fun b k => if b = a ∧ k < n then v else M b k
theorem mfill_0 (M : Mm) (a : Nat) (v : Int32) : mfill M a 0 v = M := by funext b k; simp [mfill]
theorem mfill_s (M : Mm) (a i : Nat) (v : Int32) : mput (mfill M a i v) a i v = mfill M a (i + 1) v := by
  funext b k
  simp only [mput, mfill]
  by_cases h : b = a
  · by_cases h2 : k = i
    · rw [if_pos ⟨h, h2⟩, if_pos ⟨h, by omega⟩]
    · rw [if_neg (fun q => h2 q.2)]
      by_cases h3 : k < i
      · rw [if_pos ⟨h, h3⟩, if_pos ⟨h, by omega⟩]
      · rw [if_neg (fun q => h3 q.2), if_neg (by omega)]
  · rw [if_neg (fun q => h q.1), if_neg (fun q => h q.1), if_neg (fun q => h q.1)]
theorem mfill_r {M : Mm} {a n : Nat} {v : Int32} {b : Nat} (h : b ≠ a) : mfill M a n v b = M b := by funext k; simp [mfill, h]
theorem mfill_in {M : Mm} {a n : Nat} {v : Int32} {k : Nat} (h : k < n) : mfill M a n v a k = v := by simp [mfill, h]
theorem fb_fill {S : Nat → Nat → Bool} {M0 M : Mm} {a n : Nat} {v : Int32} (h : FB S M0 M) (ha : ∀ k, S a k = false) : FB S M0 (mfill M a n v) := fun c j h1 => by
  rw [mfill_r (fun q => by rw [q, ha] at h1; cases h1)]; exact h c j h1
theorem fill_eq {a na : Nat} {v : Int32} {M : Mm} (h : na < 900000) : fJ_fill_53178 a na v M = some (mfill M a na v) := by
  apply Go.eq
  unfold fJ_fill_53178
  refine Go.bind (P := fun e => e = mfill M a na v) ?_ (fun e he => Go.some he)
  refine go_for (fun i s => s = (nI i, mfill M a i v)) na ?_ ?_ (i := 0) (by omega) (by rw [mfill_0]; rfl) (by omega)
  · intro s hs
    subst hs
    exact Go.yes (by rw [nI_le' (by omega) (by omega)]; omega) (Go.some rfl)
  · intro i s hi hs
    subst hs
    refine Go.no (by rw [nI_le' (by omega) (by omega)]; omega) (Go.gd ((inb_nI (by omega)).mpr hi) (Go.some ?_))
    show (nI i + 1, mput (mfill M a i v) a (jix (nI i)) v) = _
    rw [jix_nI (by omega), mfill_s, nI_1]
theorem owes_fill {M : Mm} : lp 1000000 (fun s => fM_owes_b18 s.1 s.2) (0, M) = some (mfill M 244 12 0) := by
  apply Go.eq
  refine go_for (fun i s => s = (nI i, mfill M 244 i 0)) 12 ?_ ?_ (i := 0) (by omega) (by rw [mfill_0]; rfl) (by omega)
  · intro s hs
    subst hs
    exact Go.yes (show (12 : Int32) ≤ nI 12 by decide) (Go.some rfl)
  · intro i s hi hs
    subst hs
    refine Go.no (by rw [lit_nI, nI_le' (by omega) (by omega)]; omega) (Go.gd ((inb_nI (by omega)).mpr hi) (Go.some ?_))
    show (nI i + 1, mput (mfill M 244 i 0) 244 (jix (nI i)) 0) = _
    rw [jix_nI (by omega), mfill_s, nI_1]
theorem answer_fill {M : Mm} : lp 1000000 (fun s => fM_answer_b17 s.1 s.2) (0, M) = some (mfill M 248 49 0) := by
  apply Go.eq
  refine go_for (fun i s => s = (nI i, mfill M 248 i 0)) 49 ?_ ?_ (i := 0) (by omega) (by rw [mfill_0]; rfl) (by omega)
  · intro s hs
    subst hs
    exact Go.yes (show (49 : Int32) ≤ nI 49 by decide) (Go.some rfl)
  · intro i s hi hs
    subst hs
    refine Go.no (by rw [lit_nI, nI_le' (by omega) (by omega)]; omega) (Go.gd ((inb_nI (by omega)).mpr hi) (Go.some ?_))
    show (nI i + 1, mput (mfill M 248 i 0) 248 (jix (nI i)) 0) = _
    rw [jix_nI (by omega), mfill_s, nI_1]
theorem sim_blow {A B : Mm} (x : Int32) (h : RR A B) : Sim A B (fK_blow x A) (fM_blow x B) := by
  have h0 := h
  obtain ⟨-, -, hE, -⟩ := h0
  obtain ⟨⟨e1, p, p1, p2, p3⟩, eR⟩ := hE
  have e1' : A 138 0 = nI p := e1.trans p2
  unfold Sim fK_blow fE_addBlow fM_blow
  refine go_bind.mpr ?_
  by_cases x0 : x = 0
  · refine Go.yes x0 (Go.some (Go.some (Go.yes x0 (Go.some ⟨rfl, fin_e h ?_ (fb_put (fb_rfl _ _) rfl) (fb_put (fb_put (fb_rfl _ _) rfl) rfl)⟩))))
    refine ⟨⟨rfl, 0, by omega, rfl, fun i hi => by omega⟩, ?_⟩
    simpa [mput_s, mput_r] using eR
  refine Go.no x0 ?_
  rcases within_cases x (-50) 50 with ⟨w, w1, w2⟩ | ⟨w, -⟩
  · refine Go.no (by rw [w]; decide) ?_
    by_cases hp : p < 8
    · refine Go.yes (by rw [e1', lit_nI, nI_lt' (by omega) (by omega)]; exact hp) (Go.gd (by rw [e1', inb_nI (by omega)]; exact hp) (Go.some (Go.some (Go.no x0 ?_))))
      have e2 : mput B 217 0 0 217 45 = nI p := p2
      refine Go.no (by rw [isIn_eq, w]; decide) (Go.no (by rw [e2, lit_nI, nI_eq' (by omega) (by omega)]; omega) (Go.gd (by rw [e2, inb_nI (by omega)]; exact hp) (Go.some ⟨?_, fin_e h ?_ (fb_put (fb_put (fb_rfl _ _) rfl) rfl) (fb_put (fb_put (fb_put (fb_rfl _ _) rfl) rfl) rfl)⟩)))
      · simp [mput, e1', p2]
      · have q1 : jix (A 138 0) = p := by rw [e1', jix_nI (by omega)]
        have q2 : jix (mput B 217 0 0 217 45) = p := by rw [e2, jix_nI (by omega)]
        simp only [q1, q2]
        refine ⟨⟨?_, p + 1, by omega, ?_, fun i hi => ?_⟩, ?_⟩
        · simp [mput, e1', p2]
        · simp [mput, p2, nI_1]
        · by_cases hi2 : i = p
          · subst hi2
            simp [mput]
            exact ⟨w1, w2⟩
          · have := p3 i (by omega)
            simp [mput, hi2]
            simpa using this
        · simpa [mput_s, mput_r] using eR
    · refine Go.no (by rw [e1', lit_nI, nI_lt' (by omega) (by omega)]; exact hp) (Go.some (Go.some (Go.no x0 ?_)))
      have e2 : mput B 217 0 0 217 45 = nI p := p2
      exact Go.no (by rw [isIn_eq, w]; decide) (Go.yes (by rw [e2, lit_nI, nI_eq' (by omega) (by omega)]; omega) (Go.some ⟨rfl, fin_0 h⟩))
  · exact Go.yes w (Go.some (Go.some (Go.no x0 (Go.yes (by rw [isIn_eq, w]) (Go.some ⟨rfl, fin_0 h⟩)))))
end PmTold
