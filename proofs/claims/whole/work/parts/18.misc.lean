section RnMisc
variable {P : Px} {d : Nat} {K : Kx} {pc e : Nat} {ops : List (Nat × Instr × Nat)} {lv lv2 : List (Nat × Value)} {st st2 : List Value} {M : Mm} {σ : Sg} {r : Option Value × Sg} {a b k n i ci : Nat} {X : Wx} {s : State}
theorem ife {c : Prop} [Decidable c] {α : Type} {x y R : α} (h : (if c then x else y) = R) : (c ∧ x = R) ∨ (¬ c ∧ y = R) := by
  by_cases hc : c
  · rw [if_pos hc] at h; exact Or.inl ⟨hc, h⟩
  · rw [if_neg hc] at h; exact Or.inr ⟨hc, h⟩
theorem rn_nz {v : Int32} (h : v = 0 ∨ v = 1) : narrow .boolean (.int v) = .int v := by rcases h with rfl | rfl <;> decide +kernel
theorem z_smiles (h : CX P X s) : va_Z "KindPostman" "SMILES" "[I" (cv X (.ref 1000)) (xW X) s (xG X) := by
  show va_Z _ _ _ (.ref (xad X (1000 + 0))) _ _ _
  rw [xad_c]; exact h.2.2.2.1
theorem z_kinds (h : CX P X s) : va_Z "KindPostman$Mind" "KINDS_OF_CHANGE" "[I" (cv X (.ref 1001)) (xW X) s (xG X) := by
  show va_Z _ _ _ (.ref (xad X (1000 + 1))) _ _ _
  rw [xad_c]; exact h.2.2.2.2.1
theorem z_comp (h : CX P X s) : va_Z "java/lang/String" "COMPACT_STRINGS" "Z" (cv X (.int 1)) (xW X) s (xG X) := h.2.2.2.2.2.1
theorem z_form (h : CX P X s) : va_Z "jdk/internal/util/Preconditions" "SIOOBE_FORMATTER" "Ljava/util/function/BiFunction;" (cv X (.retAddr 0)) (xW X) s (xG X) := h.2.2.2.2.2.2.2.2.2.2.2
theorem s_val3 (h : CX P X s) : va_OF "java/lang/String" "value" "[B" (cv X (.ref 1004)) (xad X 1003) (xW X) s (xG X) := by
  show va_OF _ _ _ (.ref (xad X (1000 + 4))) (xad X (1000 + 3)) _ _ _
  rw [xad_c, xad_c]; exact h.2.2.2.2.2.2.1.1.2.2
theorem s_val5 (h : CX P X s) : va_OF "java/lang/String" "value" "[B" (cv X (.ref 1006)) (xad X 1005) (xW X) s (xG X) := by
  show va_OF _ _ _ (.ref (xad X (1000 + 6))) (xad X (1000 + 5)) _ _ _
  rw [xad_c, xad_c]; exact h.2.2.2.2.2.2.1.2.2.2
theorem s_cod3 (h : CX P X s) : va_OF "java/lang/String" "coder" "B" (cv X (.int 0)) (xad X 1003) (xW X) s (xG X) := by
  show va_OF _ _ _ (.int 0) (xad X (1000 + 3)) _ _ _
  rw [xad_c]; exact h.2.2.2.2.2.2.1.1.2.1
theorem s_cod5 (h : CX P X s) : va_OF "java/lang/String" "coder" "B" (cv X (.int 0)) (xad X 1005) (xW X) s (xG X) := by
  show va_OF _ _ _ (.int 0) (xad X (1000 + 5)) _ _ _
  rw [xad_c]; exact h.2.2.2.2.2.2.1.2.2.1
theorem kept_all : ∀ k, k < 6 → Wd (33 + 15 * k) ∧ rnRF 32 k = some (33 + 15 * k) := by unfold Wd; decide +kernel
theorem kept_wd {x : Int32} (h : inb x 6) : Wd (33 + 15 * jix x) := (kept_all _ (Nat.not_le.mp fun q => h (Or.inr q))).1
theorem ss_kept {x : Int32} (h : inb x 6) (kk : SB P d K ops e lv (.ref (33 + 15 * jix x) :: st) (S M) r) : SB P d K ((pc, .aaload, 1) :: ops) e lv (.int x :: .ref 32 :: st) (S M) r :=
  sb_aald h32.1 (S_lt h32.2) h (by
    show rfm M 32 x.toNatClampNeg = _
    unfold rfm
    rw [if_neg (fun q => absurd q.1 (by decide))]
    exact (kept_all _ (Nat.not_le.mp fun q => h (Or.inr q))).2) kk
theorem ss_copyL {n0 n1 : Nat} {z : Int32} (n : Nat) (hl : Cond.methodLink (rnOwn (kOc K)) i arraycopyName ∈ lw_tbl) (hna : Cond.native arraycopyName ∈ lw_tbl) (hst : Cond.static arraycopyName ∈ lw_tbl) (hin : Cond.initialized "java/lang/System" ∈ lw_tbl) (hs0 : shp a 20 n0) (hs1 : shp b 20 n1) (hb0 : b ≠ 0) (hz : z = nI n ∧ n < 100000) (h0 : Nat.ble n n0 = true) (h1 : Nat.ble n n1 = true) (hd : 1 ≤ d) (hr : Nat.ble (rnCat st) 4 = true)
    (k : SB P d K ops e lv st (S (mcp M a b 0 0 n)) r) : SB P d K ((pc, .invokestatic i, 3) :: ops) e lv (.int z :: .int 0 :: .ref b :: .int 0 :: .ref a :: st) (S M) r := by
  have e1 : z.toNatClampNeg = n := by rw [hz.1]; exact nI_clamp (by have := hz.2; omega)
  have e0 : (0 : Int32).toNatClampNeg = 0 := by decide +kernel
  have q0 := Nat.le_of_ble_eq_true h0
  have q1 := Nat.le_of_ble_eq_true h1
  refine ss_copy hl hna hst hin hs0 hs1 hb0 ⟨by decide, by decide, ?_, ?_, ?_⟩ hd hr ?_
  · rw [hz.1]; exact nI_pos (by have := hz.2; omega)
  · rw [e0, e1]; omega
  · rw [e0, e1]; omega
  · rw [e0, e1]; exact k
theorem rn_lsw2 {x : Int32} {a b dd : Int} (h0 : ¬ x = 0) (h1 : ¬ x = 1) : Op.lookupswitch.offset (#[((0 : Int), a), (1, b)] : Array (Int × Int)).toList dd x.toInt = dd := by
  have e0 : ¬ x.toInt = 0 := fun h => h0 (Int32.toInt_inj.mp (h.trans (by decide)))
  have e1 : ¬ x.toInt = 1 := fun h => h1 (Int32.toInt_inj.mp (h.trans (by decide)))
  simp [Op.lookupswitch.offset, e0, e1, Ne.symm e0, Ne.symm e1]
end RnMisc
section RnDesk
variable {P : Px} {d : Nat} {K : Kx} {pc e : Nat} {ops : List (Nat × Instr × Nat)} {lv lv2 : List (Nat × Value)} {st st2 : List Value} {M : Mm} {σ σ2 : Sg} {r : Option Value × Sg} {a b k n i ci : Nat} {X : Wx} {s : State}
theorem sb_ldcw {v : Int32} (hv : rnC (kOc K) i = some v) (k : SB P d K ops e lv (.int v :: st) σ r) : SB P d K ((pc, .ldc_w i, 3) :: ops) e lv st σ r := fun h =>
  rn_pure (fun X p l e R s m args below meth c H locs cells slots Q ls hC hl kk => by
    intro T hT XT
    obtain ⟨t, a, b⟩ := (h.2.1 ▸ kk ls hl) T hT XT
    exact ⟨t, va_ldcwI XT hC.1 (own := rnOwn (kOc K)) (index := i) (v := v) hC.own (hC.ts _ (rnWs_in (rnC_ok hv) rfl)) (g := F0 m pc ls (st.map (cv X))) rfl (by rw [hC.2.1]; exact h.1) t a, b⟩) (k h.2.2)
/-- a heap that the machine can't tell from another -/
theorem rn_conv (hn : σ2.2.2 = σ.2.2) (he : ∀ (X : Wx) (a : Nat), a < σ.2.2 → rnE X σ2 a = rnE X σ a) (k : RN P d K pc lv st σ2 r) : RN P d K pc lv st σ r :=
  ⟨hn ▸ k.1, fun X p l e R s m args below meth c H locs cells slots Q ls hC hH hS hl h1 h2 hr => k.2 X p l e R s m args below meth c H locs cells slots Q ls hC
    ⟨by rw [hn]; exact hH.1, by rw [hn]; exact hH.2.1, hH.2.2.1, fun a ha => by rw [he X a (by rw [← hn]; exact ha)]; exact hH.2.2.2 a (by rw [← hn]; exact ha)⟩ hS hl (by rw [hn]; exact h1) (by rw [hn]; exact h2) hr⟩
theorem h252D : rnSh 252 = (20, 10025) := by decide +kernel
theorem S_252 (h : ¬ M 0 8 = 0) : 252 < (S M).2.2 := by show 252 < nxm M; unfold nxm; rw [if_neg h]; decide
theorem ss_ialdD {x : Int32} (hg : ¬ M 0 8 = 0 ∧ inb x 10025) (kk : SB P d K ops e lv (.int (M 252 x.toNatClampNeg) :: st) (S M) r) : SB P d K ((pc, .iaload, 1) :: ops) e lv (.int x :: .ref 252 :: st) (S M) r := sb_iald h252D (S_252 hg.1) hg.2 kk
theorem ss_iastD {x v : Int32} (hg : ¬ M 0 8 = 0 ∧ inb x 10025) (kk : SB P d K ops e lv st (S (mput M 252 x.toNatClampNeg v)) r) : SB P d K ((pc, .iastore, 1) :: ops) e lv (.int v :: .int x :: .ref 252 :: st) (S M) r := sb_iast h252D (S_252 hg.1) hg.2 (by rw [S_eq (mput_ne _ _ _ _ _ _ (fun h => absurd h.1 (by decide)))]; exact kk)
theorem ss_alenD (hg : ¬ M 0 8 = 0) (kk : SB P d K ops e lv (.int 10025 :: st) (S M) r) : SB P d K ((pc, .arraylength, 1) :: ops) e lv (.ref 252 :: st) (S M) r := sb_alen (t := 20) h252D (S_252 hg) (Or.inl rfl) nL10025 kk
theorem rnRF252 : ∀ k, rnRF 252 k = none := fun k => rfl
theorem opp {α β : Type} {a c : α} {b d : β} (h : some (a, b) = some (c, d)) : a = c ∧ b = d := by
  cases h; exact ⟨rfl, rfl⟩
end RnDesk
