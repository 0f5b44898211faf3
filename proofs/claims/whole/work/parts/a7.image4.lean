section PmImage4
theorem Trn_congr {op ar op' ar' : Nat → Int32} : ∀ {n f : Nat} {σ τ : List Nat}, (∀ k, f ≤ k → k < f + n → op' k = op k ∧ ar' k = ar k) → Trn op ar f n σ τ → Trn op' ar' f n σ τ
  | 0, _, _, _, _, h => h
  | n + 1, f, σ, τ, e, h => by
    obtain ⟨υ, u1, u2, u3⟩ := h
    refine ⟨υ, ?_, u2, Trn_congr (fun k h1 h2 => e k (by omega) (by omega)) u3⟩
    rw [(e f (by omega) (by omega)).1, (e f (by omega) (by omega)).2]; exact u1
theorem TxR_rho {A : Mm} {t : Nat} {nl np nw ns nl' np' nw' ns' : Int32} {lw lf lg lh op ar po wa st lw' lf' lg' lh' op' ar' po' wa' st' : Nat → Int32} (e1 : nl' = nl) (e2 : np' = np) (e3 : nw' = nw) (e4 : ns' = ns)
    (f1 : ∀ k, k < 16 → lw' k = lw k ∧ lf' k = lf k ∧ lg' k = lg k ∧ lh' k = lh k) (f2 : ∀ k, k < 400 → op' k = op k ∧ ar' k = ar k) (f3 : ∀ k, k < 64 → po' k = po k) (f4 : ∀ k, k < 16 → wa' k = wa k) (f5 : ∀ k, k < 144 → st' k = st k)
    (h : TxR A t nl np nw ns lw lf lg lh op ar po wa st) : TxR A t nl' np' nw' ns' lw' lf' lg' lh' op' ar' po' wa' st' := by
  subst e1 e2 e3 e4
  obtain ⟨⟨l1, p, p1, p2, p3⟩, ⟨o1, q, q1, q2, q3⟩, ⟨k1, u, u1, u2, u3⟩, t1, t2⟩ := h
  refine ⟨⟨l1, p, p1, p2, fun i hi => ?_⟩, ⟨o1, q, q1, q2, fun i hi => ?_⟩, ⟨k1, u, u1, u2, fun i hi => ?_⟩, t1, fun k hk => ?_⟩
  · obtain ⟨f, g, hh, x1, x2, x3, x4, x5, x6, x7, x8, x9, x10, x11, ⟨z, z1, z2⟩, x13⟩ := p3 i hi
    obtain ⟨y1, y2, y3, y4⟩ := f1 i (by omega)
    refine ⟨f, g, hh, x1, x2, x3, by rw [y1]; exact x4, x5, by rw [y2]; exact x6, x7, by rw [y3]; exact x8, x9, by rw [y4]; exact x10, fun k h1 h2 => ?_, ⟨z, z1, Trn_congr (fun k h1 h2 => f2 k (by omega)) z2⟩, ?_⟩
    · rw [(f2 k (by omega)).1, (f2 k (by omega)).2]; exact x11 k h1 h2
    · exact x13.imp id fun y => Trn_congr (fun k h1 h2 => f2 k (by omega)) y
  · rw [f3 _ (by omega), f3 _ (by omega), f3 _ (by omega), f3 _ (by omega)]; exact q3 i hi
  · rw [f4 i (by omega)]; exact u3 i hi
  · rw [f5 k hk]; exact t2 k hk
theorem ToR_rho {A : Mm} {t : Nat} {c0 c1 c2 c3 c4 c0' c1' c2' c3' c4' : Int32} {bl ne st wo an fs fb bl' ne' st' wo' an' fs' fb' : Nat → Int32} (e0 : c0' = c0) (e1 : c1' = c1) (e2 : c2' = c2) (e3 : c3' = c3) (e4 : c4' = c4)
    (f1 : ∀ k, k < 8 → bl' k = bl k ∧ wo' k = wo k ∧ fs' k = fs k ∧ fb' k = fb k) (f2 : ∀ k, k < 12 → ne' k = ne k) (f3 : ∀ k, k < 26 → st' k = st k) (f4 : ∀ k, k < 49 → an' k = an k)
    (h : ToR A t c0 c1 c2 c3 c4 bl ne st wo an fs fb) : ToR A t c0' c1' c2' c3' c4' bl' ne' st' wo' an' fs' fb' := by
  subst e0 e1 e2 e3 e4
  obtain ⟨⟨a1, p, p1, p2, p3⟩, ⟨b1, b2, b3⟩, d1, ⟨g1, q, q1, q2, q3, q4⟩, ⟨h1, h2, h3⟩, ⟨i1, u, u1, u2, u3⟩⟩ := h
  refine ⟨⟨a1, p, p1, p2, fun i hi => by rw [(f1 i (by omega)).1]; exact p3 i hi⟩, ⟨b1, b2, fun d hd => by rw [f2 d hd]; exact b3 d hd⟩, fun k hk => by rw [f3 k hk]; exact d1 k hk, ⟨g1, q, q1, q2, fun i hi => by rw [(f1 i (by omega)).2.1]; exact q3 i hi, fun l hl => ?_⟩, ⟨h1, h2, fun k hk => by rw [f4 k hk]; exact h3 k hk⟩, ⟨i1, u, u1, u2, fun i hi => by rw [(f1 i (by omega)).2.2.1, (f1 i (by omega)).2.2.2]; exact u3 i hi⟩⟩
  rw [q4 l hl]
  exact congrArg nI (cnt_congr fun i hi => (f1 i (by omega)).2.1.symm)
theorem sim_image {A B : Mm} {x : Int32} (hx : x = 0 ∨ x = 1) (h : RR A B) : Sim A B (fK_image x A) (fM_image x B) := by
  have h0 := h
  obtain ⟨⟨n, ⟨wr, hd, hk⟩, hP⟩, h3, h4, h5, h6, h7, h8⟩ := h0
  unfold Sim fK_image fM_image
  rcases hx with rfl | rfl
  · -- gone back to
    obtain ⟨i1, i2⟩ := h7
    rcases i2 with i2 | ⟨i2, n', j1, j2, j3, j4, j5⟩
    · refine Go.yes (by first | rfl | (simp; done)) ?_
      refine Go.yes (by rw [i1]; exact i2) ?_
      refine Go.gd (by rw [i1, i2]; decide) ?_
      refine Go.some ?_
      refine Go.yes (by first | rfl | (simp; done)) ?_
      refine Go.yes (i2) ?_
      refine Go.some ?_
      refine ⟨?_, fin_0 h⟩
      show A 0 14 = 0
      rw [i1, i2]
    obtain ⟨A1, a1, hc⟩ := copy_go (M := A) (w := 1) (v := 179) (by omega)
    have hcf : FB (mO 1) A A1 := hc.2.2.2.2.2.2.1
    have fA1 : ∀ c k, (15 < c ∨ c = 0 ∨ (c = 1 ∧ k = 13)) → A1 c k = A c k := fun c k z => by
      refine hcf c k ?_
      by_cases c1 : c = 1
      · subst c1
        have : k = 13 := by omega
        subst this; rfl
      · have z2 : (Nat.ble 1 c && Nat.ble c (1 + 14)) = false := by
          cases e : (Nat.ble 1 c && Nat.ble c (1 + 14))
          · rfl
          · rw [Bool.and_eq_true, Nat.ble_eq, Nat.ble_eq] at e; omega
        simp only [mO, z2]; rfl
    have b15 : ∀ k, k < 600 → A1 15 k = A 193 k := hc.2.2.2.2.2.2.2.1 rfl rfl
    have w1 := WR_cpy hc j1
    obtain ⟨t1, t2⟩ := TxR_cpy (M := A1) (w := 123) (v := 194) (by omega) (TxR_congr (fun c h1 h2 _ _ => funext fun k => fA1 c k (by omega)) j4)
    generalize hA2 : cpT3 123 194 (cpT2 123 194 (cpT1 123 194 (cpT0 123 194 A1))) = A2 at t1 t2
    have eA2 : fT_copyFrom 123 194 A1 = some A2 := by rw [copyT_eq, hA2]
    obtain ⟨u1, u2⟩ := ToR_cpy (M := A2) (w := 138) (v := 209) (by omega) (ToR_congr (fun c h1 h2 => funext fun k => by rw [t2 c k (by omega), fA1 c k (by omega)]) j5)
    generalize hA3 : cpE 138 209 A2 = A3 at u1 u2
    have eA3 : fE_copyFrom 138 209 A2 = A3 := by rw [copyE_eq, hA3]
    have fA3 : ∀ c k, (15 < c ∨ c = 0 ∨ (c = 1 ∧ k = 13)) → ¬ (123 ≤ c ∧ c ≤ 145) → A3 c k = A c k := fun c k z1 z2 => by rw [u2 c k (by omega), t2 c k (by omega), fA1 c k z1]
    have gA3 : ∀ c k, c < 123 → A3 c k = A1 c k := fun c k z => by rw [u2 c k (by omega), t2 c k (by omega)]
    obtain ⟨⟨v, B'⟩, m1, m2, m3, m4⟩ := image_go (z := false) (B := mput B 217 0 0)
    have m2 : v = 1 := m2
    subst m2
    obtain ⟨m3, m5, m6, m7⟩ : (B' 217 61 = 1) ∧ (∀ c k, ivd c k → B' c k = mput B 217 0 0 251 (ips c k)) ∧ (B' 217 3 = 0) ∧ (∀ c k, ¬ ivd c k → (c ≠ 217 ∨ (k ≠ 60 ∧ k ≠ 61 ∧ k ≠ 62 ∧ k ≠ 3)) → B' c k = mput B 217 0 0 c k) := ⟨m3, m4.1, m4.2.1, m4.2.2⟩
    have vB : ∀ c k, ivd c k → B' c k = B 251 (ips c k) := fun c k z => by rw [m5 c k z, mput_r (by omega)]
    have oB : ∀ c k, ¬ ivd c k → (c ≠ 217 ∨ (k ≠ 0 ∧ k ≠ 60 ∧ k ≠ 61 ∧ k ≠ 62 ∧ k ≠ 3)) → B' c k = B c k := fun c k z1 z2 => by rw [m7 c k z1 (by omega), mput_q (by omega)]
    have i61 : B 217 61 = 1 := i2
    obtain ⟨A4, hA4⟩ : ∃ A4, A4 = mput A3 31 0 0 := ⟨_, rfl⟩
    have fA4 : ∀ c k, (15 < c ∨ c = 0 ∨ (c = 1 ∧ k = 13)) → ¬ (123 ≤ c ∧ c ≤ 145) → (c ≠ 31 ∨ k ≠ 0) → A4 c k = A c k := fun c k z1 z2 z3 => by rw [hA4, mput_q (by omega), fA3 c k z1 z2]
    have a14 : A4 0 14 = 1 := by rw [fA4 0 14 (by omega) (by omega) (by omega), i1, i61]
    refine Go.yes (by first | rfl | (simp; done)) ?_
    refine Go.no (by rw [i1, i61]; decide) ?_
    refine go_bind.mpr ?_
    rw [a1]
    refine Go.some ?_
    refine go_bind.mpr ?_
    rw [eA2]
    refine Go.some ?_
    rw [eA3]
    unfold fP_forget
    dsimp only
    rw [← hA4]
    refine Go.gd (by rw [a14]; decide) ?_
    refine Go.some ?_
    refine Go.yes (by first | rfl | (simp; done)) ?_
    refine Go.no (show ¬ B 217 61 = 0 by rw [i61]; decide) ?_
    refine ⟨_, m1, ?_⟩
    show A4 0 14 = 1 ∧ RR A4 B' ∧ KF A A4 ∧ MF B B' ∧ CNs B B'
    refine ⟨a14, ⟨⟨n', ⟨?_, ?_, fun k q => ?_⟩, ?_⟩, ?_, ?_, ?_, ?_, ?_, ?_⟩, fun c k q => ?_, fun c k q => ?_, ?_⟩
    · refine WR_rho (ρ := B 251) (lv := fun k => B 251 (183 + 2 * k)) (fun k q => ?_) (fun k q => ?_) (WR_congr (fun c k e => ?_) w1)
      · exact vB 218 k (by unfold ivd; omega)
      · exact vB 221 k (by unfold ivd; omega)
      · simp only [mW, Bool.or_eq_true, Bool.and_eq_true, Nat.ble_eq, Nat.beq_eq] at e
        rw [hA4, mput_q (by omega), gA3 c k (by omega)]
    · rw [vB 217 6 (by unfold ivd; omega)]; exact j2
    · rw [hA4, mput_q (by omega), gA3 15 k (by omega), b15 k q, vB 222 k (by unfold ivd; omega)]; exact j3 k q
    · refine RP_forget hP (by rw [hA4, mput_same]) (by rw [fA4 31 1 (by omega) (by omega) (by omega)]) m6
    · refine TxR_rho (vB 225 0 (by unfold ivd; omega)) (vB 217 32 (by unfold ivd; omega)) (vB 217 34 (by unfold ivd; omega)) (vB 217 36 (by unfold ivd; omega)) (fun k q => ⟨vB 226 k (by unfold ivd; omega), vB 227 k (by unfold ivd; omega), vB 228 k (by unfold ivd; omega), vB 229 k (by unfold ivd; omega)⟩) (fun k q => ⟨vB 230 k (by unfold ivd; omega), vB 231 k (by unfold ivd; omega)⟩) (fun k q => vB 233 k (by unfold ivd; omega)) (fun k q => vB 234 k (by unfold ivd; omega)) (fun k q => vB 235 k (by unfold ivd; omega)) (TxR_congr (fun c z1 z2 _ _ => funext fun k => ?_) t1)
      rw [hA4, mput_q (by omega), u2 c k (by omega)]
    · refine ToR_rho (vB 217 45 (by unfold ivd; omega)) (vB 217 49 (by unfold ivd; omega)) (vB 217 53 (by unfold ivd; omega)) (vB 217 55 (by unfold ivd; omega)) (vB 217 57 (by unfold ivd; omega)) (fun k q => ⟨vB 241 k (by unfold ivd; omega), vB 247 k (by unfold ivd; omega), vB 249 k (by unfold ivd; omega), vB 250 k (by unfold ivd; omega)⟩) (fun k q => vB 244 k (by unfold ivd; omega)) (fun k q => vB 246 k (by unfold ivd; omega)) (fun k q => vB 248 k (by unfold ivd; omega)) (ToR_congr (fun c z1 z2 => funext fun k => ?_) u1)
      rw [hA4, mput_q (by omega)]
    · refine RT_congr (fun c k e => ?_) (fun c k e => ?_) h5
      · simp only [aT, Bool.or_eq_true, Bool.and_eq_true, Nat.beq_eq] at e
        exact fA4 c k (by omega) (by omega) (by omega)
      · simp only [bT, Bool.or_eq_true, Bool.and_eq_true, Nat.beq_eq] at e
        exact oB c k (by unfold ivd; omega) (by omega)
    · refine RF_congr (fun c k e => ?_) (fun c k e => ?_) h6
      · simp only [aF, Bool.or_eq_true, Bool.and_eq_true, Nat.beq_eq] at e
        exact fA4 c k (by omega) (by omega) (by omega)
      · simp only [bF, Bool.or_eq_true, Bool.and_eq_true, Nat.beq_eq] at e
        exact oB c k (by unfold ivd; omega) (by omega)
    · refine RI_congr (B := B) (fun c k e => ?_) (fun c k e => ?_) ⟨i1, Or.inr ⟨i2, n', j1, j2, j3, j4, j5⟩⟩
      · simp only [aI, Bool.or_eq_true, Bool.and_eq_true, Nat.ble_eq, Nat.beq_eq] at e
        exact fA4 c k (by omega) (by omega) (by omega)
      · simp only [bI, Bool.or_eq_true, Bool.and_eq_true, Nat.beq_eq] at e
        rcases e with e | ⟨e1, e2⟩
        · exact oB c k (by unfold ivd; omega) (by omega)
        · rw [e1, e2, m3, i61]
    · refine RM_congr (fun c k e => ?_) (fun c k e => ?_) h8
      · simp only [aM, Bool.or_eq_true, Bool.and_eq_true, Nat.beq_eq] at e
        exact fA4 c k (by omega) (by omega) (by omega)
      · simp only [bM, Bool.or_eq_true, Bool.and_eq_true, Nat.beq_eq] at e
        exact oB c k (by unfold ivd; omega) (by omega)
    · simp only [mK, Bool.and_eq_true, Nat.ble_eq] at q
      exact fA4 c k (by omega) (by omega) (by omega)
    · simp only [mM, Bool.or_eq_true, Nat.ble_eq] at q
      exact oB c k (by unfold ivd; omega) (by omega)
    · rintro N - hN
      obtain ⟨c1, c2, c3⟩ := hN.mono (show N ≤ N + 1000 by omega)
      refine ⟨?_, fun j hj => ?_, ?_⟩
      · rw [vB 218 9 (by unfold ivd; omega)]; exact c3
      · rw [oB 219 _ (by unfold ivd; omega) (by omega)]; exact c2 j hj
      · rw [oB 251 9 (by unfold ivd; omega) (by omega)]; exact c3
  · -- taken
    obtain ⟨A1, a1, hc⟩ := copy_go (M := A) (w := 179) (v := 1) (by omega)
    have hcf : FB (mO 179) A A1 := hc.2.2.2.2.2.2.1
    have fA1 : ∀ c k, (c < 179 ∨ 193 < c) → A1 c k = A c k := fun c k z => by
      refine hcf c k ?_
      have z2 : (Nat.ble 179 c && Nat.ble c (179 + 14)) = false := by
        cases e : (Nat.ble 179 c && Nat.ble c (179 + 14))
        · rfl
        · rw [Bool.and_eq_true, Nat.ble_eq, Nat.ble_eq] at e; omega
      simp only [mO, z2]; rfl
    have b15 : ∀ k, k < 600 → A1 193 k = A 15 k := hc.2.2.2.2.2.2.2.1 rfl rfl
    have w1 := WR_cpy hc wr
    obtain ⟨t1, t2⟩ := TxR_cpy (M := A1) (w := 194) (v := 123) (by omega) (TxR_congr (fun c h1 h2 _ _ => funext fun k => fA1 c k (by omega)) h3)
    generalize hA2 : cpT3 194 123 (cpT2 194 123 (cpT1 194 123 (cpT0 194 123 A1))) = A2 at t1 t2
    have eA2 : fT_copyFrom 194 123 A1 = some A2 := by rw [copyT_eq, hA2]
    obtain ⟨u1, u2⟩ := ToR_cpy (M := A2) (w := 209) (v := 138) (by omega) (ToR_congr (fun c h1 h2 => funext fun k => by rw [t2 c k (by omega), fA1 c k (by omega)]) h4)
    generalize hA3 : cpE 209 138 A2 = A3 at u1 u2
    have eA3 : fE_copyFrom 209 138 A2 = A3 := by rw [copyE_eq, hA3]
    have fA3 : ∀ c k, (c < 179 ∨ 216 < c) → A3 c k = A c k := fun c k z1 => by rw [u2 c k (by omega), t2 c k (by omega), fA1 c k (by omega)]
    have gA3 : ∀ c k, c < 194 → A3 c k = A1 c k := fun c k z => by rw [u2 c k (by omega), t2 c k (by omega)]
    obtain ⟨⟨v, B'⟩, m1, m2, m3, m4⟩ := image_go (z := true) (B := mput B 217 0 0)
    have m2 : v = 1 := m2
    subst m2
    obtain ⟨m3, m5, m7⟩ : (B' 217 61 = 1) ∧ (∀ c k, ivd c k → B' 251 (ips c k) = mput B 217 0 0 c k) ∧ (∀ c k, c ≠ 251 → (c ≠ 217 ∨ (k ≠ 60 ∧ k ≠ 61 ∧ k ≠ 62)) → B' c k = mput B 217 0 0 c k) := ⟨m3, m4.1, m4.2⟩
    have vB : ∀ c k, ivd c k → B' 251 (ips c k) = B c k := fun c k z => by
      rw [m5 c k z, mput_q (fun q => by unfold ivd at z; omega)]
    have oB : ∀ c k, c ≠ 251 → (c ≠ 217 ∨ (k ≠ 0 ∧ k ≠ 60 ∧ k ≠ 61 ∧ k ≠ 62)) → B' c k = B c k := fun c k z1 z2 => by rw [m7 c k z1 (by omega), mput_q (by omega)]
    obtain ⟨A4, hA4⟩ : ∃ A4, A4 = mput A3 0 14 1 := ⟨_, rfl⟩
    have fA4 : ∀ c k, (c < 179 ∨ 216 < c) → (c ≠ 0 ∨ k ≠ 14) → A4 c k = A c k := fun c k z1 z3 => by rw [hA4, mput_q (by omega), fA3 c k z1]
    have a14 : A4 0 14 = 1 := by rw [hA4, mput_same]
    refine Go.no (by first | decide | (simp; done)) ?_
    refine go_bind.mpr ?_
    rw [a1]
    refine Go.some ?_
    refine go_bind.mpr ?_
    rw [eA2]
    refine Go.some ?_
    rw [eA3]
    dsimp only
    rw [← hA4]
    refine Go.gd (by rw [a14]; decide) ?_
    refine Go.some ?_
    refine Go.no (by first | decide | (simp; done)) ?_
    refine ⟨_, m1, ?_⟩
    show A4 0 14 = 1 ∧ RR A4 B' ∧ KF A A4 ∧ MF B B' ∧ CNs B B'
    refine ⟨a14, ⟨⟨n, ?_, ?_⟩, ?_, ?_, ?_, ?_, ?_, ?_⟩, fun c k q => ?_, fun c k q => ?_, ?_⟩
    · refine RW_congr (fun c k e => ?_) (fun c k e => ?_) ⟨wr, hd, hk⟩
      · simp only [aW, mW, Bool.or_eq_true, Bool.and_eq_true, Nat.ble_eq, Nat.beq_eq] at e
        exact fA4 c k (by omega) (by omega)
      · simp only [bW, Bool.or_eq_true, Bool.and_eq_true, Nat.beq_eq] at e
        exact oB c k (by omega) (by omega)
    · refine RP_congr (fun c k e => ?_) (fun c k e => ?_) hP
      · simp only [aP, Bool.or_eq_true, Bool.and_eq_true, Nat.ble_eq, Nat.beq_eq] at e
        exact fA4 c k (by omega) (by omega)
      · simp only [bP, Bool.or_eq_true, Bool.and_eq_true, Nat.beq_eq] at e
        exact oB c k (by omega) (by omega)
    · refine RX_congr (fun c k e => ?_) (fun c k e => ?_) h3
      · have := aX_bd e
        exact fA4 c k (by omega) (by omega)
      · refine oB c k (by have := bX_bd e; omega) ?_
        by_cases z : c = 217
        · right
          subst z
          refine ⟨fun z => ?_, fun z => ?_, fun z => ?_, fun z => ?_⟩ <;> (subst z; cases e)
        · left; exact z
    · refine RE_congr (fun c k e => ?_) (fun c k e => ?_) h4
      · simp only [aE, Bool.and_eq_true, Nat.ble_eq] at e
        exact fA4 c k (by omega) (by omega)
      · simp only [bE, Bool.or_eq_true, Bool.and_eq_true, Nat.ble_eq, Nat.beq_eq] at e
        exact oB c k (by omega) (by omega)
    · refine RT_congr (fun c k e => ?_) (fun c k e => ?_) h5
      · simp only [aT, Bool.or_eq_true, Bool.and_eq_true, Nat.beq_eq] at e
        exact fA4 c k (by omega) (by omega)
      · simp only [bT, Bool.or_eq_true, Bool.and_eq_true, Nat.beq_eq] at e
        exact oB c k (by omega) (by omega)
    · refine RF_congr (fun c k e => ?_) (fun c k e => ?_) h6
      · simp only [aF, Bool.or_eq_true, Bool.and_eq_true, Nat.beq_eq] at e
        exact fA4 c k (by omega) (by omega)
      · simp only [bF, Bool.or_eq_true, Bool.and_eq_true, Nat.beq_eq] at e
        exact oB c k (by omega) (by omega)
    · refine ⟨a14.trans m3.symm, Or.inr ⟨m3, n, ?_, ?_, fun k q => ?_, ?_, ?_⟩⟩
      · refine WR_rho (ρ := B 218) (lv := B 221) (fun k q => ?_) (fun k q => ?_) (WR_congr (fun c k e => ?_) w1)
        · exact vB 218 k (by unfold ivd; omega)
        · exact vB 221 k (by unfold ivd; omega)
        · simp only [mW, Bool.or_eq_true, Bool.and_eq_true, Nat.ble_eq, Nat.beq_eq] at e
          rw [hA4, mput_q (by omega), gA3 c k (by omega)]
      · exact (vB 217 6 (by unfold ivd; omega)).trans hd
      · rw [hA4, mput_q (by omega), gA3 193 k (by omega), b15 k q, hk k q]
        exact (vB 222 k (by unfold ivd; omega)).symm
      · refine TxR_rho (vB 225 0 (by unfold ivd; omega)) (vB 217 32 (by unfold ivd; omega)) (vB 217 34 (by unfold ivd; omega)) (vB 217 36 (by unfold ivd; omega)) (fun k q => ⟨vB 226 k (by unfold ivd; omega), vB 227 k (by unfold ivd; omega), vB 228 k (by unfold ivd; omega), vB 229 k (by unfold ivd; omega)⟩) (fun k q => ⟨vB 230 k (by unfold ivd; omega), vB 231 k (by unfold ivd; omega)⟩) (fun k q => vB 233 k (by unfold ivd; omega)) (fun k q => vB 234 k (by unfold ivd; omega)) (fun k q => vB 235 k (by unfold ivd; omega)) (TxR_congr (fun c z1 z2 _ _ => funext fun k => ?_) t1)
        rw [hA4, mput_q (by omega), u2 c k (by omega)]
      · refine ToR_rho (vB 217 45 (by unfold ivd; omega)) (vB 217 49 (by unfold ivd; omega)) (vB 217 53 (by unfold ivd; omega)) (vB 217 55 (by unfold ivd; omega)) (vB 217 57 (by unfold ivd; omega)) (fun k q => ⟨vB 241 k (by unfold ivd; omega), vB 247 k (by unfold ivd; omega), vB 249 k (by unfold ivd; omega), vB 250 k (by unfold ivd; omega)⟩) (fun k q => vB 244 k (by unfold ivd; omega)) (fun k q => vB 246 k (by unfold ivd; omega)) (fun k q => vB 248 k (by unfold ivd; omega)) (ToR_congr (fun c z1 z2 => funext fun k => ?_) u1)
        rw [hA4, mput_q (by omega)]
    · refine RM_congr (fun c k e => ?_) (fun c k e => ?_) h8
      · simp only [aM, Bool.or_eq_true, Bool.and_eq_true, Nat.beq_eq] at e
        exact fA4 c k (by omega) (by omega)
      · simp only [bM, Bool.or_eq_true, Bool.and_eq_true, Nat.beq_eq] at e
        exact oB c k (by omega) (by omega)
    · simp only [mK, Bool.and_eq_true, Nat.ble_eq] at q
      exact fA4 c k (by omega) (by omega)
    · simp only [mM, Bool.or_eq_true, Nat.ble_eq] at q
      exact oB c k (by omega) (by omega)
    · rintro N - hN
      obtain ⟨c1, c2, c3⟩ := hN.mono (show N ≤ N + 1000 by omega)
      refine ⟨?_, fun j hj => ?_, ?_⟩
      · rw [oB 218 9 (by omega) (by omega)]; exact c1
      · rw [oB 219 _ (by omega) (by omega)]; exact c2 j hj
      · have : B' 251 9 = B 218 9 := vB 218 9 (by unfold ivd; omega)
        rw [this]; exact c1
end PmImage4
