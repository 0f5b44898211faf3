section PmConst
/-- what the start is given -/
def stF : List Cond := flatC (Jvm.Cond.and given_1 narrow_1)
abbrev stS : Term := .static "KindPostman" "SMILES" "[I"
abbrev stK : Term := .static "KindPostman$Mind" "KINDS_OF_CHANGE" "[I"
abbrev stT (i : Nat) : Term := .string "KindPostman$Tokens" i
abbrev stV (i : Nat) : Term := .field (stT i) "java/lang/String" "value" "[B"
def stE (t : Term) (l : List Int32) (j : Nat) : Cond := .eq (.elem t (.int (Int32.ofNat j))) (.int (l.getD j 0))
theorem st_el {t : Term} {l : List Int32} {n B : Nat} (h : (stF.drop B).take n = (List.range n).map (stE t l)) (j : Nat) (hj : j < n) : stE t l j ∈ stF :=
  List.mem_of_mem_drop (i := B) (List.mem_of_mem_take (i := n) (by rw [h]; exact List.mem_map.mpr ⟨j, List.mem_range.mpr hj, rfl⟩))
theorem st_0 : (stF.drop 7).take 7 = (List.range 7).map (stE stS [-1, -1, 1, -1, 0, 0, 2]) := by decide +kernel
theorem st_1 : (stF.drop 22).take 4 = (List.range 4).map (stE stK [3, 2, 1, 1]) := by decide +kernel
theorem st_3 : (stF.drop 30).take 10 = (List.range 10).map (stE (stV 44) rnSigns) := by decide +kernel
theorem st_5 : (stF.drop 44).take 152 = (List.range 152).map (stE (stV 55) rnWords) := by decide +kernel
theorem rn_of_T {ty : FieldType} {t N : Nat} {f : Nat → Int32} {A : Nat → Prop} {U : State} {H : Heap} (h : va_T ty t N (fun j => .int (f j)) A U H) : rnXt ty t N f U H := by
  obtain ⟨cell, h1, h2, h3, h4, h5, h6, -⟩ := h
  exact ⟨cell, h1, h2, h3, ⟨h4, h5⟩, h6⟩
theorem rn_of_X {b L : Nat} {xs : Nat → Int32} {U : State} {H : Heap} (h : va_X b L xs U H) : rnXt .int b L xs U H := by
  obtain ⟨cell, h1, h2, h3, h4, h5⟩ := h
  exact ⟨cell, h1, h2, h3, ⟨Nat.le_of_eq h4.symm, by rw [h4]⟩, h5⟩
theorem st_K {b : Nat} {s : State} (hts : ∀ w ∈ lw_tbl, w.before #[Value.ref b] s = true) : ∃ (D : va_G) (c0 c1 c2 c3 : ClassId), va_K D rnCl [(c0, .int), (c1, .byte), (c2, .long), (c3, .object "KindPostman$World")] s := by
  have h0 : ∀ c : Nat, ∃ q : ClassId × (Nat → Nat), ∀ r : vw_C, rnCl[c]? = some r → u_Kn s r.1 r.2.1 r.2.2 q.1 q.2 := by
    intro c
    cases h : rnCl[c]? with
    | none => exact ⟨(0, fun _ => 0), fun r hr => by cases hr⟩
    | some r =>
      obtain ⟨h1, -, -, h4, -⟩ := rnCl_ok c r h
      obtain ⟨cC, iS, hk⟩ := u_known (n := r.2.2) hts h1 (hts _ h4)
      exact ⟨(cC, iS), fun r2 hr => by cases hr; exact hk⟩
  obtain ⟨f, hf⟩ := Classical.axiomOfChoice h0
  obtain ⟨c0, k0, m0, a1, a2, a3⟩ := Cond.arrayClass_spec (hts _ ar_int)
  obtain ⟨c1, k1, m1, b1, b2, b3⟩ := Cond.arrayClass_spec (hts _ ar_byte)
  obtain ⟨c2, k2, m2, d1, d2, d3⟩ := Cond.arrayClass_spec (hts _ ar_long)
  obtain ⟨m3, c3, k3, e1, -, e3, e4, e5⟩ := Cond.arrayOver_spec (hts (.arrayOver (.object "KindPostman$World")) (rnIn1 (List.mem_of_getElem? (i := 181) rfl)))
  refine ⟨(fun c => (f c).1, fun c => (f c).2), c0, c1, c2, c3, fun c q hq => hf c q hq, fun k q hq => ?_⟩
  match k, hq with
  | 0, hq => cases hq; exact ⟨fun n z => ⟨fun k h => (by cases h), k0, a2, m0, a3⟩, a1⟩
  | 1, hq => cases hq; exact ⟨fun n z => ⟨fun k h => (by cases h), k1, b2, m1, b3⟩, b1⟩
  | 2, hq => cases hq; exact ⟨fun n z => ⟨fun k h => (by cases h), k2, d2, m2, d3⟩, d1⟩
  | 3, hq => cases hq; exact ⟨fun n z => ⟨fun k h => (by cases h), k3, e3, m3, e4⟩, k3, m3, e3, e4, e1, e5⟩
  | k + 4, hq => simp at hq
theorem st_ini {b oc : Nat} {s : State} (hts : ∀ w ∈ lw_tbl, w.before #[Value.ref b] s = true) (h : oc < 20) : (Cond.initialized (rnOwn oc)).before #[Value.ref b] s = true := hts _ (List.mem_append_right _ (List.contains_iff_mem.mp (rnIni_all oc h)))
/-- the constants of a text -/
theorem st_str {b : Nat} {s : State} {i n B : Nat} {l : List Int32} (hs : ∀ c ∈ stF, c.before #[Value.ref b] s = true) (hn : n < 2 ^ 31) (h1 : Cond.exactly (stT i) "java/lang/String" ∈ stF) (h2 : Cond.eq (.field (stT i) "java/lang/String" "coder" "B") (.int 0) ∈ stF) (h3 : Cond.arrayOf (stV i) .byte ∈ stF) (h4 : Cond.eq (.length (stV i)) (.int (Int32.ofNat n)) ∈ stF) (h5 : (stF.drop B).take n = (List.range n).map (stE (stV i) l)) :
    ∃ t v : Nat, (stT i).eval #[Value.ref b] s none [] s = some (.ref t) ∧ va_O "java/lang/String" t (fun q => s.heap.size ≤ q) s s.heap ∧ va_OF "java/lang/String" "coder" "B" (.int 0) t (fun q => s.heap.size ≤ q) s s.heap ∧ va_OF "java/lang/String" "value" "[B" (.ref v) t (fun q => s.heap.size ≤ q) s s.heap ∧ rnXt .byte v n (fun j => l.getD j 0) s s.heap := by
  have hA : ∀ a : Nat, a < s.heap.size → ¬ (fun q : Nat => s.heap.size ≤ q) a := fun a h => Nat.not_le.mpr h
  obtain ⟨t, c, cA, kA, q1, -, -, -, -, -, -⟩ := Cond.exactly_spec (args := #[Value.ref b]) (first := s) (o := none) (s := s) (idx := []) (t := stT i) (cls := "java/lang/String") (hs _ h1)
  obtain ⟨v, hv, hT⟩ := va_Tof (f := fun j => .int (l.getD j 0)) (A := fun q : Nat => s.heap.size ≤ q) hn (hs _ h3) (va_eqt (hs _ h4)) (fun j hj => va_eqt (hs _ (st_el h5 j hj))) hA
  exact ⟨t, v, q1, va_Oof (hs _ h1) q1 hA, vk_OFof q1 (va_eqt (hs _ h2)) hA, vk_OFof q1 hv hA, rn_of_T hT⟩
theorem st_CX {b L : Nat} {xs : Nat → Int32} {s : State} (hts : ∀ w ∈ lw_tbl, w.before #[Value.ref b] s = true) (hs : ∀ c ∈ stF, c.before #[Value.ref b] s = true) (hX : va_X b L xs s s.heap) : ∃ X : Wx, xG X = s.heap ∧ xC X 2 = b ∧ CX ((L, xs) : Px) X s := by
  have hA : ∀ a : Nat, a < s.heap.size → ¬ (fun q : Nat => s.heap.size ≤ q) a := fun a h => Nat.not_le.mpr h
  obtain ⟨D, c0, c1, c2, c3, hK⟩ := st_K hts
  obtain ⟨t0, e0, T0⟩ := va_Tof (tm := stS) (ty := .int) (N := 7) (f := fun j => .int (([-1, -1, 1, -1, 0, 0, 2] : List Int32).getD j 0)) (A := fun q : Nat => s.heap.size ≤ q) (by decide) (hs _ (by decide +kernel)) (va_eqt (hs _ (by decide +kernel))) (fun j hj => va_eqt (hs _ (st_el st_0 j hj))) hA
  obtain ⟨t1, e1, T1⟩ := va_Tof (tm := stK) (ty := .int) (N := 4) (f := fun j => .int (([3, 2, 1, 1] : List Int32).getD j 0)) (A := fun q : Nat => s.heap.size ≤ q) (by decide) (hs _ (by decide +kernel)) (va_eqt (hs _ (by decide +kernel))) (fun j hj => va_eqt (hs _ (st_el st_1 j hj))) hA
  obtain ⟨t3, t4, e3, O3, P3, Q3, R3⟩ := st_str (i := 44) hs (by decide) (by decide +kernel) (by decide +kernel) (by decide +kernel) (by decide +kernel) st_3
  obtain ⟨t5, t6, e5, O5, P5, Q5, R5⟩ := st_str (i := 55) hs (by decide) (by decide +kernel) (by decide +kernel) (by decide +kernel) (by decide +kernel) st_5
  have Z0 : va_Z "KindPostman" "SMILES" "[I" (.ref t0) (fun q : Nat => s.heap.size ≤ q) s s.heap := va_Zof (hts _ (rnIn3 (List.mem_of_getElem? (i := 149) rfl))) (hts _ (rnIn1 (List.mem_of_getElem? (i := 1) rfl))) e0 hA
  have Z1 : va_Z "KindPostman$Mind" "KINDS_OF_CHANGE" "[I" (.ref t1) (fun q : Nat => s.heap.size ≤ q) s s.heap := va_Zof (hts _ (rnIn5 (List.mem_of_getElem? (i := 209) rfl))) (hts _ (rnIn1 (List.mem_of_getElem? (i := 11) rfl))) e1 hA
  have Z2 : va_Z "java/lang/String" "COMPACT_STRINGS" "Z" (.int 1) (fun q : Nat => s.heap.size ≤ q) s s.heap := va_Zof (hts _ (rnIn3 (List.mem_of_getElem? (i := 236) rfl))) (hts _ (rnIn1 (List.mem_of_getElem? (i := 16) rfl))) (va_eqi (hs _ (by decide +kernel))) hA
  have Z3 : va_Zq "jdk/internal/util/Preconditions" "SIOOBE_FORMATTER" "Ljava/util/function/BiFunction;" (fun q : Nat => s.heap.size ≤ q) s s.heap := va_Zqof (hts _ (rnIn4 (List.mem_of_getElem? (i := 35) rfl))) (hts _ (rnIn1 (List.mem_of_getElem? (i := 19) rfl))) (hs _ (by decide +kernel)) hA
  obtain ⟨o, Z3⟩ : ∃ o : Option Nat, va_Z "jdk/internal/util/Preconditions" "SIOOBE_FORMATTER" "Ljava/util/function/BiFunction;" (va_rf o) (fun q : Nat => s.heap.size ≤ q) s s.heap := by
    rcases Z3 with h | ⟨t, h⟩
    · exact ⟨none, h⟩
    · exact ⟨some t, h⟩
  have N0 : ∀ w ∈ lw_tbl, rnNest w = true → va_Nw w s := by
    intro w hw hn
    have h := hts w hw
    cases w <;> first | exact h | cases hn
  refine ⟨(s.heap, D, (fun j => match j with | 0 => c0 | 1 => c1 | 2 => c2 | _ => c3), (fun j => match j with | 0 => t0 | 1 => t1 | 2 => b | 3 => t3 | 4 => t4 | 5 => t5 | _ => t6), o), rfl, rfl, hK, ?_, ?_, Z0, Z1, Z2, ⟨⟨O3, P3, Q3⟩, O5, P5, Q5⟩, vk_R.of (hts _ (rnIn3 (List.mem_of_getElem? (i := 222) rfl))) e3, vk_R.of (hts _ (rnIn4 (List.mem_of_getElem? (i := 76) rfl))) e5, N0, va_AO.of (hts _ (rnIn1 (List.mem_of_getElem? (i := 181) rfl))), Z3⟩
  · intro j hj
    match j, hj with
    | 0, _ => exact rn_of_T T0
    | 1, _ => exact rn_of_T T1
    | 2, _ => exact rn_of_X hX
    | j + 3, h => exact absurd h (by omega)
  · intro j hj
    rcases hj with rfl | rfl
    · exact R3
    · exact R5
end PmConst
