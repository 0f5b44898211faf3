section PmText
theorem street_all {A B : Mm} {b : Nat → Nat} {L i nd : Nat} (hL : L ≤ 400) (hd : nd ≤ 12) (ps : PS A B b L i) (h5 : A 146 5 = nI nd) (h6 : B 217 6 = nI nd) (h0 : A 147 8 = 0) (h161 : ∀ j, j < 144 → A 161 j = 0) :
    Go (lp 1000000 (fun s => fR_read_b31 3 s.1 s.2) (0, A)) (fun y => Go (fM_readStreets B) (fun r => ∃ A', (y = Sum.inl A' ∨ y = Sum.inr A') ∧ ((∃ k, r.1 = nI k ∧ k ≤ 16 ∧ A' 146 1 = 0 ∧ srR A B b L nd k A' r.2) ∨ (r.1 = -1 ∧ FLT A' r.2 ∧ gF A A' ∧ hF B r.2)))) := by
  have fill : Go (lp 1000000 (fun s => fM_readStreets_b2 s.1 s.2) (0, B)) (fun B1 => (∀ j, j < 144 → B1 235 (144 + j) = 0) ∧ ∀ c k, ¬ (c = 235 ∧ 144 ≤ k) → B1 c k = B c k) := by
    refine go_for (fun q s => ∃ B1, s = (nI q, B1) ∧ (∀ j, j < q → B1 235 (144 + j) = 0) ∧ ∀ c k, ¬ (c = 235 ∧ 144 ≤ k) → B1 c k = B c k) 144 ?_ ?_ (i := 0) (by omega) ⟨B, rfl, fun j hj => by omega, fun _ _ _ => rfl⟩ (by omega)
    · rintro s ⟨B1, rfl, h, fr⟩
      unfold fM_readStreets_b2
      dsimp only
      exact Go.yes (by decide) (Go.some ⟨h, fr⟩)
    · rintro q s hq ⟨B1, rfl, h, fr⟩
      unfold fM_readStreets_b2
      dsimp only
      have e : (144 : Int32) + nI q = nI (144 + q) := nI_add 144 q
      rw [e, jix_nI (by omega), nI_1]
      refine Go.no (by rw [(lit_nI _ : (144 : Int32) = nI 144), nI_le' (by omega) (by omega)]; omega) ?_
      refine Go.gd ((inb_nI (by omega)).mpr (by omega)) ?_
      refine Go.some ?_
      refine ⟨_, rfl, fun j hj => ?_, fun c k w => by rw [mput_q (by omega)]; exact fr c k w⟩
      by_cases z : j = q
      · subst z; rw [mput_same]
      · rw [mput_s (by omega)]; exact h j (by omega)
  obtain ⟨B1, B1e, f1, f2⟩ := fill
  have ps1 : PS A B1 b L i := ps.fr (fun _ _ _ _ => rfl) rfl rfl (fun k p q => f2 217 k (by omega)) (funext fun k => f2 223 k (by omega)) (funext fun k => f2 224 k (by omega))
  have hB1 : hF B B1 := fun c k q => f2 c k (by omega)
  have e : fM_readStreets B = Option.bind (lp 1000000 (fun s => if fM_isWord (nI (wq 28)) s.2 = 0 then some (Sum.inr (Sum.inr (Sum.inr (s.1, s.2)))) else if s.1 = 16 then some (Sum.inr (Sum.inl s.2)) else (fun (x1 : Int32) (M : Mm) => (Option.bind (fM_readStreet M) fun qz6 => if qz6.1 = (-1) then some (Sum.inr (Sum.inr (Sum.inl qz6.2))) else some (Sum.inl (x1 + 1, qz6.2)) : Option ((Int32 × Mm) ⊕ (Mm ⊕ Mm ⊕ (Int32 × Mm))))) s.1 s.2) (0, B1)) finP := by
    unfold fM_readStreets
    rw [B1e]
    show Option.bind (lp 1000000 (fun s => fM_readStreets_b28 s.1 s.2) (0, B1)) _ = _
    refine congrArg (Option.bind _) (funext fun e2 => ?_)
    rcases e2 with p | p | p <;> rfl
  rw [e]
  refine words_go (x1 := 3) (b := b) (L := L) (w := 28) (Or.inr (Or.inr rfl)) (by omega) hL (fun s => ?_) (fun (x1 : Int32) (M : Mm) => (Option.bind (fM_readStreet M) fun qz6 => if qz6.1 = (-1) then some (Sum.inr (Sum.inr (Sum.inl qz6.2))) else some (Sum.inl (x1 + 1, qz6.2)) : Option ((Int32 × Mm) ⊕ (Mm ⊕ Mm ⊕ (Int32 × Mm))))) (srR A B b L nd) (fun A' B' => gF A A' ∧ hF B B') (fun k A B h => h.1) (fun k A1 B1 h e => ?_) ?_ ⟨⟨i, ps1⟩, h5, by rw [f2 217 6 (by omega)]; exact h6, fun j hj => ?_, fun a c ha hc => ?_, h0, gF.rfl' A, hB1⟩
  · show (if s = 284 then some 1 else some 0) = some (if s = nI 284 then (1 : Int32) else 0)
    by_cases q : s = nI 284
    · rw [if_pos q, if_pos (show s = 284 from q)]
    · rw [if_neg q, if_neg (show ¬ s = 284 from q)]
  · obtain ⟨-, -, -, -, -, -, ga, hb⟩ := h
    exact ⟨ga.trans (eF_bA _ _ _).c.g, hb.trans (hF_errs _ e)⟩
  · intro k A1 B2 i1 lt hR ps2 q1
    show Go (fR_streetLine (nI k) A1) _
    refine (streetLine_go hL hd lt hR ps2).mono fun A' hA => ?_
    refine go_bind.mpr ?_
    refine hA.mono fun r hr => ?_
    rcases hr with ⟨r0, h⟩ | ⟨r0, fl, ga, hb⟩
    · refine Go.no (r0) ?_
      refine Go.some ?_
      rw [nI_1]
      exact Or.inl ⟨r.2, rfl, h⟩
    · refine Go.yes (r0) ?_
      refine Go.some ?_
      exact Or.inr ⟨r.2, rfl, fl, ga, hb⟩
  · rw [h161 j hj, f1 j hj]; exact ⟨rfl, 0, by omega, rfl⟩
  · rw [h161 _ (by omega), h161 _ (by omega)]
theorem fin_text {A B A' B' : Mm} (h : RR A B) (hX : RX A' B') (hT : RT A' B') (hFf : RF A' B') (hP : ∀ n, RP A B n → RP A' B' n) (a : ∀ c k, ¬ ((c = 0 ∧ k = 10) ∨ (123 ≤ c ∧ c ≤ 137) ∨ (146 ≤ c ∧ c ≤ 167) ∨ (c = 31 ∧ k = 0)) → A' c k = A c k) (m : ∀ c k, ¬ ((c = 217 ∧ (k = 0 ∨ k = 3 ∨ (10 ≤ k ∧ k ≤ 14) ∨ (23 ≤ k ∧ k ≤ 36))) ∨ (225 ≤ c ∧ c ≤ 235)) → B' c k = B c k) : RR A' B' ∧ KF A A' ∧ MF B B' ∧ CNs B B' := by
  obtain ⟨⟨n, h1, h2⟩, h3, h4, h5, h6, h7, h8⟩ := h
  refine ⟨⟨⟨n, RW_congr (fun c k q => a c k ?_) (fun c k q => m c k ?_) h1, hP n h2⟩, hX, RE_congr (fun c k q => a c k ?_) (fun c k q => m c k ?_) h4, hT, hFf, RI_congr (fun c k q => a c k ?_) (fun c k q => m c k ?_) h7, RM_congr (fun c k q => a c k ?_) (fun c k q => m c k ?_) h8⟩, fun c k q => a c k ?_, fun c k q => m c k ?_, CNs_of (m 218 9 (by omega)) (funext fun k => m 219 k (by omega)) (m 251 9 (by omega))⟩
  all_goals simp only [aW, mW, bW, aE, bE, aI, bI, aM, bM, mK, mM, Bool.or_eq_true, Bool.and_eq_true, Bool.not_eq_true', Nat.ble_eq, Nat.beq_eq] at q
  all_goals omega
theorem RP_same {A B A' B' : Mm} (a : ∀ c k, ¬ ((c = 0 ∧ k = 10) ∨ (123 ≤ c ∧ c ≤ 137) ∨ (146 ≤ c ∧ c ≤ 167)) → A' c k = A c k) (m : ∀ c k, ¬ ((c = 217 ∧ (k = 0 ∨ (10 ≤ k ∧ k ≤ 14) ∨ (23 ≤ k ∧ k ≤ 36))) ∨ (225 ≤ c ∧ c ≤ 235)) → B' c k = B c k) (n : Nat) (h : RP A B n) : RP A' B' n := by
  refine RP_congr (fun c k q => a c k ?_) (fun c k q => m c k ?_) h
  all_goals simp only [aP, bP, Bool.or_eq_true, Bool.and_eq_true, Bool.not_eq_true', Nat.ble_eq, Nat.beq_eq] at q
  all_goals omega
theorem RP_none {A B A' B' : Mm} (h0 : A' 31 0 = 0) (h1 : A' 31 1 = A 31 1) (h3 : B' 217 3 = 0) (n : Nat) (h : RP A B n) : RP A' B' n := by
  obtain ⟨p, q, -, hq, -, e, -, -⟩ := h
  exact ⟨0, q, by omega, hq, h0, by rw [h1]; exact e, h3, fun j hj => by omega⟩
/-! the parts of the texts that stay -/
theorem Lw_low {A B A' B' : Mm} (a : ∀ c k, 124 ≤ c → c ≤ 129 → A' c k = A c k) (m0 : B' 225 0 = B 225 0) (m : ∀ c k, 226 ≤ c → c ≤ 229 → k < 16 → B' c k = B c k) (o : ∀ k, k < 400 → B' 230 k = B 230 k ∧ B' 231 k = B 231 k) (h : LwR A 123 (B 225 0) (B 226) (B 227) (B 228) (B 229) (B 230) (B 231)) : LwR A' 123 (B' 225 0) (B' 226) (B' 227) (B' 228) (B' 229) (B' 230) (B' 231) := by
  obtain ⟨h1, p, p16, hp, hl⟩ := h
  refine ⟨by rw [a 124 0 (by omega) (by omega), m0]; exact h1, p, p16, by rw [m0]; exact hp, fun i hi => ?_⟩
  obtain ⟨f, g, h, k1, k2, k3, k4, k5, k6, k7, k8, k9, k10, k11, ⟨z, hz, k12⟩, k13⟩ := hl i hi
  refine ⟨f, g, h, k1, k2, k3, by rw [a _ _ (by omega) (by omega), m 226 i (by omega) (by omega) (by omega)]; exact k4, by rw [a _ _ (by omega) (by omega)]; exact k5, by rw [m 227 i (by omega) (by omega) (by omega)]; exact k6, by rw [a _ _ (by omega) (by omega)]; exact k7, by rw [m 228 i (by omega) (by omega) (by omega)]; exact k8, by rw [a _ _ (by omega) (by omega)]; exact k9, by rw [m 229 i (by omega) (by omega) (by omega)]; exact k10, fun k q1 q2 => ?_, ⟨z, hz, Trn_cg (fun k p q => o k (by omega)) k12⟩, k13.imp id fun q => Trn_cg (fun k p q => o k (by omega)) q⟩
  rw [a _ _ (by omega) (by omega), (o k (by omega)).1, (o k (by omega)).2]; exact k11 k q1 q2
theorem Po_low {A B A' B' : Mm} (a : ∀ c k, (c = 123 ∧ k = 1) ∨ (132 ≤ c ∧ c ≤ 135) → A' c k = A c k) (m0 : B' 217 32 = B 217 32) (m : ∀ k, k < 64 → B' 233 k = B 233 k) (h : PoR A 123 (B 217 32) (B 233)) : PoR A' 123 (B' 217 32) (B' 233) := by
  obtain ⟨h1, p, p16, hp, hl⟩ := h
  refine ⟨by rw [a 123 1 (by omega), m0]; exact h1, p, p16, by rw [m0]; exact hp, fun i hi => ?_⟩
  rw [a _ _ (by omega), a _ _ (by omega), a _ _ (by omega), a _ _ (by omega), m _ (by omega), m _ (by omega), m _ (by omega), m _ (by omega)]
  exact hl i hi
theorem Wk_low {A B A' B' : Mm} (a : ∀ c k, (c = 123 ∧ k = 6) ∨ c = 136 → A' c k = A c k) (m0 : B' 217 34 = B 217 34) (m : ∀ k, k < 16 → B' 234 k = B 234 k) (h : WkR A 123 (B 217 34) (B 234)) : WkR A' 123 (B' 217 34) (B' 234) := by
  obtain ⟨h1, p, p16, hp, hl⟩ := h
  refine ⟨by rw [a 123 6 (by omega), m0]; exact h1, p, p16, by rw [m0]; exact hp, fun i hi => ?_⟩
  rw [a _ _ (by omega), m _ (by omega)]
  exact hl i hi
theorem St_low {A B A' B' : Mm} (a : ∀ c k, (c = 123 ∧ k = 8) ∨ c = 137 → A' c k = A c k) (m0 : B' 217 36 = B 217 36) (m : ∀ k, k < 144 → B' 235 k = B 235 k) (h : StR A 123 (B 217 36) (B 235)) : StR A' 123 (B' 217 36) (B' 235) := by
  obtain ⟨h1, hl⟩ := h
  refine ⟨by rw [a 123 8 (by omega), m0]; exact h1, fun i hi => ?_⟩
  rw [a _ _ (by omega), m _ hi]
  exact hl i hi
/-! what the model takes over -/
theorem takes_law {B : Mm} {k n : Nat} (hk : k ≤ 16) (hn : n ≤ 400) (h23 : B 217 23 = 0) (h24 : B 217 24 = nI n) : Go (fM_takesLaw (nI k) B) (fun B' => B' 225 0 = nI k ∧ (∀ c j, 226 ≤ c → c ≤ 229 → j < k → B' c j = B c (32 + j)) ∧ (∀ j, j < n → B' 230 j = B 230 (800 + j) ∧ B' 231 j = B 231 (800 + j)) ∧ ∀ c j, ¬ (225 ≤ c ∧ c ≤ 231) → B' c j = B c j) := by
  unfold fM_takesLaw
  refine Go.bind (P := fun B' => (∀ c j, 226 ≤ c → c ≤ 229 → j < k → B' c j = B c (32 + j)) ∧ ∀ c j, ¬ (226 ≤ c ∧ c ≤ 229 ∧ j < 16) → B' c j = B c j) ?_ ?_
  · refine go_for (fun q s => ∃ B', s = (nI q, B') ∧ (∀ c j, 226 ≤ c → c ≤ 229 → j < q → B' c j = B c (32 + j)) ∧ ∀ c j, ¬ (226 ≤ c ∧ c ≤ 229 ∧ j < q) → B' c j = B c j) k ?_ ?_ (i := 0) (by omega) ⟨B, rfl, fun c j p q r => by omega, fun _ _ _ => rfl⟩ (by omega)
    · rintro s ⟨B', rfl, h, fr⟩
      unfold fM_takesLaw_b2
      dsimp only
      exact Go.yes (i32_le.mpr (Int.le_refl _)) (Go.some ⟨h, fun c j q => fr c j (by omega)⟩)
    · rintro q s hq ⟨B', rfl, h, fr⟩
      unfold fM_takesLaw_b2
      dsimp only
      have e32 : (32 : Int32) + nI q = nI (32 + q) := nI_add 32 q
      have z23 : B' 217 23 = 0 := by rw [fr 217 23 (by omega)]; exact h23
      have e16 : (16 : Int32) * 0 + nI q = nI q := by
        have : (16 : Int32) * 0 = 0 := by decide
        rw [this]; exact Int32.zero_add _
      have i48 : inb (nI (32 + q)) 48 := (inb_nI (by omega)).mpr (by omega)
      have i48' : inb (nI q) 48 := (inb_nI (by omega)).mpr (by omega)
      have jq : jix (nI q) = q := jix_nI (by omega)
      have j32 : jix (nI (32 + q)) = 32 + q := jix_nI (by omega)
      have z1 : ∀ v, mput B' 226 q v 217 23 = 0 := fun v => by rw [mput_r (by omega)]; exact z23
      have z2 : ∀ v w, mput (mput B' 226 q v) 227 q w 217 23 = 0 := fun v w => by rw [mput_r (by omega)]; exact z1 v
      have z3 : ∀ v w u, mput (mput (mput B' 226 q v) 227 q w) 228 q u 217 23 = 0 := fun v w u => by rw [mput_r (by omega)]; exact z2 v w
      simp only [e32, z23, e16, jq, j32, z1, z2, z3, nI_1]
      refine Go.no (by rw [nI_le' (by omega) (by omega)]; omega) ?_
      refine Go.gd (i48) ?_
      refine Go.gd (i48') ?_
      refine Go.gd (i48) ?_
      refine Go.gd (i48') ?_
      refine Go.gd (i48) ?_
      refine Go.gd (i48') ?_
      refine Go.gd (i48) ?_
      refine Go.gd (i48') ?_
      refine Go.some ?_
      refine ⟨_, rfl, fun c j p1 p2 p3 => ?_, fun c j w => ?_⟩
      · by_cases z : j = q
        · subst z
          have hc : c = 226 ∨ c = 227 ∨ c = 228 ∨ c = 229 := by omega
          rcases hc with rfl | rfl | rfl | rfl
          · rw [mput_r (by omega), mput_r (by omega), mput_r (by omega), mput_same, fr _ _ (by omega)]
          · rw [mput_r (by omega), mput_r (by omega), mput_same, mput_r (by omega), fr _ _ (by omega)]
          · rw [mput_r (by omega), mput_same, mput_r (by omega), mput_r (by omega), fr _ _ (by omega)]
          · rw [mput_same, mput_r (by omega), mput_r (by omega), mput_r (by omega), fr _ _ (by omega)]
        · rw [mput_q (by omega), mput_q (by omega), mput_q (by omega), mput_q (by omega)]; exact h c j p1 p2 (by omega)
      · rw [mput_q (by omega), mput_q (by omega), mput_q (by omega), mput_q (by omega)]; exact fr c j (by omega)
  · rintro B1 ⟨h1, f1⟩
    have y24 : B1 217 24 = nI n := by rw [f1 217 24 (by omega)]; exact h24
    have y23 : B1 217 23 = 0 := by rw [f1 217 23 (by omega)]; exact h23
    refine Go.bind (P := fun B' => (∀ j, j < n → B' 230 j = B1 230 (800 + j) ∧ B' 231 j = B1 231 (800 + j)) ∧ ∀ c j, ¬ ((c = 230 ∨ c = 231) ∧ j < 400) → B' c j = B1 c j) ?_ ?_
    · refine go_for (fun q s => ∃ B', s = (nI q, B') ∧ (∀ j, j < q → B' 230 j = B1 230 (800 + j) ∧ B' 231 j = B1 231 (800 + j)) ∧ ∀ c j, ¬ ((c = 230 ∨ c = 231) ∧ j < q) → B' c j = B1 c j) n ?_ ?_ (i := 0) (by omega) ⟨B1, rfl, fun j hj => by omega, fun _ _ _ => rfl⟩ (by omega)
      · rintro s ⟨B', rfl, h, fr⟩
        unfold fM_takesLaw_b107
        dsimp only
        exact Go.yes (by rw [fr 217 24 (by omega), y24]; exact i32_le.mpr (Int.le_refl _)) (Go.some ⟨h, fun c j q => fr c j (by omega)⟩)
      · rintro q s hq ⟨B', rfl, h, fr⟩
        unfold fM_takesLaw_b107
        dsimp only
        have e800 : (800 : Int32) + nI q = nI (800 + q) := nI_add 800 q
        have z23 : B' 217 23 = 0 := by rw [fr 217 23 (by omega)]; exact y23
        have z24 : B' 217 24 = nI n := by rw [fr 217 24 (by omega)]; exact y24
        have e0 : (400 : Int32) * 0 + nI q = nI q := by
          have : (400 : Int32) * 0 = 0 := by decide
          rw [this]; exact Int32.zero_add _
        have z1 : ∀ v, mput B' 230 q v 217 23 = 0 := fun v => by rw [mput_r (by omega)]; exact z23
        have i1 : inb (nI (800 + q)) 1200 := (inb_nI (by omega)).mpr (by omega)
        have i2 : inb (nI q) 1200 := (inb_nI (by omega)).mpr (by omega)
        simp only [e800, z23, z24, e0, jix_nI (show q < 2147483648 by omega), jix_nI (show 800 + q < 2147483648 by omega), z1, nI_1]
        refine Go.no (by rw [nI_le' (by omega) (by omega)]; omega) ?_
        refine Go.gd (i1) ?_
        refine Go.gd (i2) ?_
        refine Go.gd (i1) ?_
        refine Go.gd (i2) ?_
        refine Go.some ?_
        refine ⟨_, rfl, fun j hj => ?_, fun c j w => ?_⟩
        · by_cases z : j = q
          · subst z
            rw [mput_r (by omega), mput_same, mput_same, mput_r (by omega), fr _ _ (by omega), fr _ _ (by omega)]
            exact ⟨rfl, rfl⟩
          · rw [mput_q (by omega), mput_q (by omega), mput_q (by omega), mput_q (by omega)]; exact h j (by omega)
        · rw [mput_q (by omega), mput_q (by omega)]; exact fr c j (by omega)
    · rintro B2 ⟨h2, f2⟩
      have z23 : B2 217 23 = 0 := by rw [f2 217 23 (by omega)]; exact y23
      dsimp only
      rw [z23]
      refine Go.gd (by decide) ?_
      refine Go.some ?_
      refine ⟨mput_same _ _ _ _, fun c j p q r => ?_, fun j hj => ?_, fun c j q => ?_⟩
      · rw [mput_r (by omega), f2 c j (by omega)]; exact h1 c j p q r
      · rw [mput_r (by omega), mput_r (by omega), (h2 j hj).1, (h2 j hj).2, f1 _ _ (by omega), f1 _ _ (by omega)]
        exact ⟨rfl, rfl⟩
      · rw [mput_r (by omega), f2 c j (by omega), f1 c j (by omega)]
/-- a row moved down -/
theorem take_row {B : Mm} {c off cnt sz : Nat} {f : Int32 → Mm → Option ((Int32 × Mm) ⊕ Mm)} (hc : cnt + off ≤ sz) (h4 : sz < 1000) (hco : cnt ≤ off)
    (hx : ∀ M, (∀ d, d ≠ c → M d = B d) → f (nI cnt) M = some (Sum.inr M)) (hs : ∀ q M, q < cnt → (∀ d, d ≠ c → M d = B d) → f (nI q) M = some (Sum.inl (nI (q + 1), mput M c q (M c (off + q))))) :
    Go (lp 1000000 (fun s => f s.1 s.2) (0, B)) (fun B' => (∀ j, j < cnt → B' c j = B c (off + j)) ∧ (∀ j, cnt ≤ j → B' c j = B c j) ∧ ∀ d, d ≠ c → B' d = B d) := by
  refine go_for (fun q s => ∃ B', s = (nI q, B') ∧ (∀ j, j < q → B' c j = B c (off + j)) ∧ (∀ j, q ≤ j → B' c j = B c j) ∧ ∀ d, d ≠ c → B' d = B d) cnt ?_ ?_ (i := 0) (by omega) ⟨B, rfl, fun j hj => by omega, fun _ _ => rfl, fun _ _ => rfl⟩ (by omega)
  · rintro s ⟨B', rfl, h, h2, fr⟩
    dsimp only
    rw [hx B' fr]
    refine Go.some ?_
    exact ⟨h, h2, fr⟩
  · rintro q s hq ⟨B', rfl, h, h2, fr⟩
    dsimp only
    rw [hs q B' hq fr]
    refine Go.some ?_
    refine ⟨_, rfl, fun j hj => ?_, fun j hj => ?_, fun d hd => by rw [mput_r hd]; exact fr d hd⟩
    · by_cases z : j = q
      · subst z; rw [mput_same]; exact h2 _ (by omega)
      · rw [mput_s z]; exact h j (by omega)
    · rw [mput_s (by omega)]; exact h2 j (by omega)
end PmText
