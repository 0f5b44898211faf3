section PmOps
variable {β : Nat → Int32}
theorem CN.mono {N N' : Nat} {B : Mm} (h : CN N B) (hn : N ≤ N') : CN N' B := by
  obtain ⟨⟨c, c1, c2⟩, d, e, e1, e2⟩ := h
  refine ⟨⟨c, by omega, c2⟩, fun j hj => ?_, e, by omega, e2⟩
  obtain ⟨f, f1, f2⟩ := d j hj
  exact ⟨f, by omega, f2⟩
theorem rr_keep {A B : Mm} (h : RR A B) : Go (fP_keep A) (fun A' => Go (fM_keepsAhead B) (fun B' => RR A' B' ∧ FB aKp A A' ∧ FB bKp B B' ∧ (∀ N, CN N B → CN N B'))) := by
  obtain ⟨⟨n, hW, hP⟩, h3, h4, h5, h6, h7, h8⟩ := h
  refine (keep_sim hW hP).mono fun A' q => q.mono fun B' q => ?_
  obtain ⟨q1, q2, q3, q4, q5⟩ := q
  refine ⟨⟨⟨n, q1, q2⟩, ?_, ?_, ?_, ?_, ?_, ?_⟩, q3, q4, q5⟩
  · exact RX_congr (q3.sub fun c k e => by have := aX_bd e; exact aKp_of (by omega) (by omega)) (q4.sub fun c k e => by
      refine bKp_of (by have := bX_bd e; omega) (fun z => ?_)
      rw [z.1, z.2] at e; cases e) h3
  · exact RE_congr (q3.sub fun c k e => by
      simp only [aE, Bool.and_eq_true, Nat.ble_eq] at e
      exact aKp_of (by omega) (by omega)) (q4.sub fun c k e => by
      simp only [bE, Bool.or_eq_true, Bool.and_eq_true, Nat.ble_eq, Nat.beq_eq] at e
      exact bKp_of (by omega) (by omega)) h4
  · exact RT_congr (q3.sub fun c k e => by
      simp only [aT, Bool.or_eq_true, Bool.and_eq_true, Nat.beq_eq] at e
      exact aKp_of (by omega) (by omega)) (q4.sub fun c k e => by
      simp only [bT, Bool.or_eq_true, Bool.and_eq_true, Nat.beq_eq] at e
      exact bKp_of (by omega) (by omega)) h5
  · exact RF_congr (q3.sub fun c k e => by
      simp only [aF, Bool.or_eq_true, Bool.and_eq_true, Nat.beq_eq] at e
      exact aKp_of (by omega) (by omega)) (q4.sub fun c k e => by
      simp only [bF, Bool.or_eq_true, Bool.and_eq_true, Nat.beq_eq] at e
      exact bKp_of (by omega) (by omega)) h6
  · exact RI_congr (q3.sub fun c k e => by
      simp only [aI, Bool.or_eq_true, Bool.and_eq_true, Nat.ble_eq, Nat.beq_eq] at e
      exact aKp_of (by omega) (by omega)) (q4.sub fun c k e => by
      simp only [bI, Bool.or_eq_true, Bool.and_eq_true, Nat.beq_eq] at e
      exact bKp_of (by omega) (by omega)) h7
  · exact RM_congr (q3.sub fun c k e => by
      simp only [aM, Bool.or_eq_true, Bool.and_eq_true, Nat.beq_eq] at e
      exact aKp_of (by omega) (by omega)) (q4.sub fun c k e => by
      simp only [bM, Bool.or_eq_true, Bool.and_eq_true, Nat.beq_eq] at e
      exact bKp_of (by omega) (by omega)) h8
theorem kf_keep {A A' : Mm} (h : FB aKp A A') : KF A A' := h.sub fun c k e => by
  simp only [mK, Bool.and_eq_true, Nat.ble_eq] at e
  exact aKp_of (by omega) (by omega)
theorem mf_keep {B B' : Mm} (h : FB bKp B B') : MF B B' := h.sub fun c k e => by
  simp only [mM, Bool.or_eq_true, Nat.ble_eq] at e
  exact bKp_of (by omega) (by omega)
theorem dr_of {A B : Mm} (h : RR A B) : ∃ n m r hh, DR 1 β A B n m r hh ∧ B 217 6 = nI n := by
  obtain ⟨⟨n, ⟨⟨m, r, hh, hD, hB, hS⟩, hd, hk⟩, hP⟩, h3, h4, h5, h6, h7, h8⟩ := h
  exact ⟨n, m, r, hh, ⟨hD, hB, hS, Or.inl ⟨rfl, h8.1, h8.2.2.1, hk⟩, h3⟩, hd⟩
theorem mDD_1 {c k : Nat} (h1 : c ≠ 130) (h2 : c ≠ 131) (h3 : 15 < c ∨ c = 0 ∨ (c = 1 ∧ k = 13)) : mDD 1 c k = true := by
  unfold mDD
  rw [mDA_of h1 h2 (by omega) (by omega), nbeq (show c ≠ 1 + 6 by omega)]; rfl
theorem mDE_of {c k : Nat} (h : c ≠ 218 ∧ c ≠ 222 ∧ c ≠ 236 ∧ c ≠ 237) (h2 : c ≠ 217 ∨ k ≠ 40) : mDE c k = true := by
  unfold mDE mDB
  have e : (Nat.beq c 217 && Nat.beq k 40) = false := by
    rcases h2 with q | q
    · rw [nbeq q]; rfl
    · rw [nbeq q, Bool.and_false]
  rw [nbeq h.1, nbeq h.2.1, nbeq h.2.2.1, nbeq h.2.2.2, e]; rfl
theorem rr_of {A B A' B' : Mm} {n m r hh n' : Nat} (h : RR A B) (hn : B 217 6 = nI n') (h2 : DR 1 β A' B' n m r hh) (hnn : n' = n) (a : FB (mDD 1) A A') (b : FB mDE B B') : RR A' B' ∧ KF A A' ∧ MF B B' := by
  subst hnn
  obtain ⟨⟨n0, ⟨⟨-, -, -, ⟨hx, -⟩, -⟩, hd0, -⟩, hP⟩, h3, h4, h5, h6, h7, h8⟩ := h
  obtain ⟨hD, hB, hS, hT, hX⟩ := h2
  have n12 : n' ≤ 12 := hD.1
  have fA : ∀ c k, c ≠ 130 → c ≠ 131 → (15 < c ∨ c = 0 ∨ (c = 1 ∧ k = 13)) → A' c k = A c k := fun c k q1 q2 q3 => a c k (mDD_1 q1 q2 q3)
  have fB : ∀ c k, (c ≠ 218 ∧ c ≠ 222 ∧ c ≠ 236 ∧ c ≠ 237) → (c ≠ 217 ∨ k ≠ 40) → B' c k = B c k := fun c k q1 q2 => b c k (mDE_of q1 q2)
  refine ⟨⟨⟨n', ⟨⟨m, r, hh, hD, hB, hS⟩, by rw [fB 217 6 (by omega) (by omega)]; exact hn, ?_⟩, ?_⟩, hX, ?_, ?_, ?_, ?_, ?_⟩, ?_, ?_⟩
  · rcases hT with ⟨-, -, -, t⟩ | ⟨t, -⟩
    · exact t
    · omega
  · have e0 : n0 = n' := by
      have hW0 : B 217 6 = nI n0 := hd0
      rw [hn] at hW0
      exact ((nI_eq' (by omega) (by omega)).mp hW0).symm
    subst e0
    refine RP_congr (fun c k e => ?_) (fun c k e => ?_) hP
    · simp only [aP, Bool.or_eq_true, Bool.and_eq_true, Nat.ble_eq, Nat.beq_eq] at e
      exact fA c k (by omega) (by omega) (by omega)
    · simp only [bP, Bool.or_eq_true, Bool.and_eq_true, Nat.beq_eq] at e
      exact fB c k (by omega) (by omega)
  · refine RE_congr (fun c k e => ?_) (fun c k e => ?_) h4
    · simp only [aE, Bool.and_eq_true, Nat.ble_eq] at e
      exact fA c k (by omega) (by omega) (by omega)
    · simp only [bE, Bool.or_eq_true, Bool.and_eq_true, Nat.ble_eq, Nat.beq_eq] at e
      exact fB c k (by omega) (by omega)
  · refine RT_congr (fun c k e => ?_) (fun c k e => ?_) h5
    · simp only [aT, Bool.or_eq_true, Bool.and_eq_true, Nat.beq_eq] at e
      exact fA c k (by omega) (by omega) (by omega)
    · simp only [bT, Bool.or_eq_true, Bool.and_eq_true, Nat.beq_eq] at e
      exact fB c k (by omega) (by omega)
  · refine RF_congr (fun c k e => ?_) (fun c k e => ?_) h6
    · simp only [aF, Bool.or_eq_true, Bool.and_eq_true, Nat.beq_eq] at e
      exact fA c k (by omega) (by omega) (by omega)
    · simp only [bF, Bool.or_eq_true, Bool.and_eq_true, Nat.beq_eq] at e
      exact fB c k (by omega) (by omega)
  · refine RI_congr (fun c k e => ?_) (fun c k e => ?_) h7
    · simp only [aI, Bool.or_eq_true, Bool.and_eq_true, Nat.ble_eq, Nat.beq_eq] at e
      exact fA c k (by omega) (by omega) (by omega)
    · simp only [bI, Bool.or_eq_true, Bool.and_eq_true, Nat.beq_eq] at e
      exact fB c k (by omega) (by omega)
  · refine RM_congr (fun c k e => ?_) (fun c k e => ?_) h8
    · simp only [aM, Bool.or_eq_true, Bool.and_eq_true, Nat.beq_eq] at e
      exact fA c k (by omega) (by omega) (by omega)
    · simp only [bM, Bool.or_eq_true, Bool.and_eq_true, Nat.beq_eq] at e
      exact fB c k (by omega) (by omega)
  · intro c k e
    simp only [mK, Bool.and_eq_true, Nat.ble_eq] at e
    exact fA c k (by omega) (by omega) (by omega)
  · intro c k e
    simp only [mM, Bool.or_eq_true, Nat.ble_eq] at e
    exact fB c k (by omega) (by omega)
end PmOps
