section RnLinkOk
theorem rn_lookup {β : Type} {l : List (Nat × β)} {i : Nat} {b : β} (h : l.lookup i = some b) : (i, b) ∈ l := by
  induction l with
  | nil => simp at h
  | cons q l ih =>
    obtain ⟨j, c⟩ := q
    rw [List.lookup_cons] at h
    by_cases e : i = j
    · subst e
      simp at h
      subst h
      exact List.mem_cons_self
    · have : (i == j) = false := by simpa using e
      rw [this] at h
      exact List.mem_cons_of_mem _ (ih h)
theorem rn_tbl {i : Nat} {w : Cond} (h : tables_1[i]? = some w) : w ∈ lw_tbl := List.mem_append_right _ (List.mem_of_getElem? h)
def rnFchk (oc : Nat) (e : Nat × Nat × Nat × Nat) : Bool := match rnCl[e.2.2.1]? with
  | none => false
  | some q => decide (e.2.2.2 < q.2.2) && decide (tables_1[e.2.1]? = some (Cond.fieldLink (rnOwn oc) e.1 (q.2.1 e.2.2.2).1 (q.2.1 e.2.2.2).2.1 (q.2.1 e.2.2.2).2.2.1))
theorem rnFL_out : ∀ oc, ¬ oc < 20 → rnFL oc = [] := by
  intro oc h
  unfold rnFL
  split <;> first | rfl | omega
theorem rnF_all : ∀ oc, oc < 20 → (rnFL oc).all (rnFchk oc) = true := by decide +kernel
theorem rnF_ok {oc i ci k : Nat} (h : rnF oc i = some (ci, k)) : ∃ C T N, rnCl[ci]? = some (C, T, N) ∧ k < N ∧ Cond.fieldLink (rnOwn oc) i (T k).1 (T k).2.1 (T k).2.2.1 ∈ lw_tbl := by
  unfold rnF at h
  cases hl : (rnFL oc).lookup i with
  | none => rw [hl] at h; cases h
  | some q =>
    rw [hl] at h
    obtain ⟨p, ci', k'⟩ := q
    simp at h
    obtain ⟨rfl, rfl⟩ := h
    have hm := rn_lookup hl
    by_cases ho : oc < 20
    · have h1 := List.all_eq_true.mp (rnF_all oc ho) _ hm
      unfold rnFchk at h1
      dsimp only at h1
      split at h1
      · cases h1
      · next q hq =>
        obtain ⟨C, T, N⟩ := q
        simp only [Bool.and_eq_true, decide_eq_true_eq] at h1
        exact ⟨C, T, N, hq, h1.1, rn_tbl h1.2⟩
    · rw [rnFL_out oc ho] at hm
      cases hm
theorem rnCL_out : ∀ oc, ¬ oc < 20 → rnCL oc = [] := by
  intro oc h
  unfold rnCL
  split <;> first | rfl | omega
theorem rnC_all : ∀ oc, oc < 20 → (rnCL oc).all (fun e => decide (tables_1[e.2.1]? = some (Cond.constant (rnOwn oc) e.1 e.2.2))) = true := by decide +kernel
theorem rnC_ok {oc i : Nat} {v : Int32} (h : rnC oc i = some v) : Cond.constant (rnOwn oc) i v ∈ lw_tbl := by
  unfold rnC at h
  cases hl : (rnCL oc).lookup i with
  | none => rw [hl] at h; cases h
  | some q =>
    rw [hl] at h
    obtain ⟨p, v'⟩ := q
    simp at h
    subst h
    have hm := rn_lookup hl
    by_cases ho : oc < 20
    · have h1 := List.all_eq_true.mp (rnC_all oc ho) _ hm
      exact rn_tbl (of_decide_eq_true h1)
    · rw [rnCL_out oc ho] at hm
      cases hm
theorem rnNL_out : ∀ oc, ¬ oc < 20 → rnNL oc = [] := by
  intro oc h
  unfold rnNL
  split <;> first | rfl | omega
theorem rnN_all : ∀ oc, oc < 20 → (rnNL oc).all (fun e => match rnCl[e.2.2]? with | none => false | some q => decide (tables_1[e.2.1]? = some (Cond.classLink (rnOwn oc) e.1 q.1))) = true := by decide +kernel
theorem rnNw_ok {oc i ci : Nat} (h : rnNw oc i = some ci) : ∃ C T N, rnCl[ci]? = some (C, T, N) ∧ Cond.classLink (rnOwn oc) i C ∈ lw_tbl := by
  unfold rnNw at h
  cases hl : (rnNL oc).lookup i with
  | none => rw [hl] at h; cases h
  | some q =>
    rw [hl] at h
    obtain ⟨p, v'⟩ := q
    simp at h
    subst h
    have hm := rn_lookup hl
    by_cases ho : oc < 20
    · have h1 := List.all_eq_true.mp (rnN_all oc ho) _ hm
      dsimp only at h1
      split at h1
      · cases h1
      · next q hq =>
        obtain ⟨C, T, N⟩ := q
        exact ⟨C, T, N, hq, rn_tbl (of_decide_eq_true h1)⟩
    · rw [rnNL_out oc ho] at hm
      cases hm
/-- what a method of ours is: its code stands in the tables, its class is its own -/
def rnKok (K : Kx) : Prop := rnCode K ∈ lw_tbl ∧ (kNm K).cls = rnOwn (kOc K) ∧ plainName (kNm K).cls = true ∧ Cond.initialized (kNm K).cls ∈ lw_tbl ∧ (kNm K).cls ≠ "java/lang/invoke/MethodHandle" ∧ (kNm K).cls ≠ "java/lang/invoke/VarHandle" ∧ kML K ≤ 10
theorem rnIni_all : ∀ oc, oc < 20 → tables_1.contains (Cond.initialized (rnOwn oc)) = true := by decide +kernel
end RnLinkOk
