section RnEx
variable {P : Px} {d : Nat} {K : Kx} {pc e : Nat} {ops : List (Nat × Instr × Nat)} {lv lv2 : List (Nat × Value)} {st st2 : List Value} {σ σ2 : Sg} {r : Option Value × Sg} {X : Wx} {H H2 : Heap} {a b k n i : Nat}
def rnRm (d : Nat) (σ : Sg) (r : Option Value × Sg) : Room := { frames := d, cells := r.2.2.2 - σ.2.2, slots := rnSq r.2.2.2 - rnSq σ.2.2, locals := 32 * d }
def rnPc (P : Px) (X : Wx) (av : List Value) (σ : Sg) : Array Value → State → Prop := fun v U => v = (av.map (cv X)).toArray ∧ HW X σ U.heap ∧ CX P X U
def rnQc (X : Wx) (r : Option Value × Sg) : Array Value → State → Outcome → State → Prop := fun _ _ oc t => oc = .returned (r.1.map (cv X)) ∧ HW X r.2 t.heap
/-- the contract of a method at given arguments and a given heap -/
def EX (P : Px) (d : Nat) (K : Kx) (av : List Value) (σ : Sg) (r : Option Value × Sg) : Prop :=
  σ.2.2 ≤ r.2.2.2 ∧ ∀ (X : Wx) (l : Launch), Met l (kNm K) (rnCode K :: rnWs) (rnRm d σ r) (rnPc P X av σ) (rnQc X r) (r.2.2.2 - σ.2.2) (rnSq r.2.2.2 - rnSq σ.2.2) (xW X)
theorem rn_args (X : Wx) : ∀ (vs : List Value) (i : Nat), lv_args i (vs.map (cv X)) = (lv_args i vs).map (cvq X)
  | [], _ => rfl
  | v :: vs, i => by
    show (i, cv X v) :: lv_args (if (cv X v).category = 2 then i + 2 else i + 1) (vs.map (cv X)) = _
    rw [cv_cat, rn_args X vs]
    rfl
theorem rn_sl (X : Wx) : ∀ (vs : List Value), (lg_sl (vs.map (cv X))).length = (lg_sl vs).length
  | [] => rfl
  | v :: vs => by
    have ih := rn_sl X vs
    unfold lg_sl at ih ⊢
    simp only [List.map_cons, List.flatMap_cons, List.length_append, ih, cv_cat]
    by_cases h : v.category = 2
    · simp [h]
    · simp [h]
theorem ex_of (hK : rnKok K) {av : List Value} (hl : (lg_sl av).length ≤ kML K) (h : RN P d K 0 (lv_args 0 av) [] σ r) : EX P d K av σ r := by
  refine ⟨h.1, fun X l => ?_⟩
  obtain ⟨k1, k2, k3, k4, k5, k6, k7⟩ := hK
  refine Met.ofW (cc := kCc K) (maxL := kML K) (ret := kRt K) k3 rfl ?_
  intro p e s m args below meth c s₁ B hml hv
  obtain ⟨rfl, hH, hCX⟩ := hv
  have hts := atoms_spec (ws := rnCode K :: rnWs) B.pre
  have hown : s.vm.findClass (rnOwn (kOc K)) = some m.cls := k2 ▸ findClass_of_methodNamed B.named
  have hin : meth.name = (kNm K).name := (name_of_methodNamed B.named B.method).1
  have hent := lv_entry (av.map (cv X)) (n := kML K) (by rw [rn_sl]; exact hl)
  rw [lg_entry_eq]
  generalize (lg_sl (av.map (cv X)) ++ List.replicate (kML K - (lg_sl (av.map (cv X))).length) Slot.unset).toArray = ls at hent ⊢
  rw [rn_args] at hent
  have hCT : CT P X d K p (headSpec (rnCode K :: rnWs) (rnRm d σ r)).room s m (av.map (cv X)).toArray meth c :=
    ⟨B.exec, B.bytes, hml, B.returns, B.notSynchronized, hin, hown, fun w hw => hts w (List.mem_cons_of_mem _ hw), Nat.le_refl _, Nat.le_refl _, hCX, hH.2.2.1, by rw [hH.1]; exact Nat.le_add_right _ _⟩
  have hmono := rnSq_mono h.1
  refine h.2 X p l e _ s m _ below meth c s.heap [] 0 0 _ ls hCT hH ⟨by rw [hH.1]; exact Nat.le_add_right _ _, fun q hq _ => hH.2.2.1 q hq, fun _ h => by cases h⟩ hent ?_ ?_ ?_
  · show 0 + r.2.2.2 ≤ (r.2.2.2 - σ.2.2) + σ.2.2
    have := h.1
    omega
  · show 0 + rnSq r.2.2.2 ≤ (rnSq r.2.2.2 - rnSq σ.2.2) + rnSq σ.2.2
    omega
  · intro H' locs' cells' slots' pc' ls' hH' hS' hc hs hd hr
    refine W.widen (k := r.2.2.2 - σ.2.2) (n := rnSq r.2.2.2 - rnSq σ.2.2) hc hs ?_
    obtain ⟨o, σ3⟩ := r
    match o, hr, hd with
    | none, hr, hd => exact W.vret B.exec B.bytes (B.returns.trans hr) (fun t ht hW => ⟨rfl, by rw [ht]; exact hH'⟩) hS'.2.2 hd B.notSynchronized
    | some (.int v), ⟨ty, h1, h2⟩, hd => exact W.zret B.exec B.bytes (B.returns.trans h1) h2 (fun t ht hW => ⟨rfl, by rw [ht]; exact hH'⟩) hS'.2.2 hd B.notSynchronized
    | some (.ref v), ⟨t, h1⟩, hd => exact W.aret B.exec B.bytes (B.returns.trans h1) (Or.inr ⟨t, rfl⟩) (Or.inr ⟨_, rfl⟩) (fun t ht hW => ⟨rfl, by rw [ht]; exact hH'⟩) hS'.2.2 hd B.notSynchronized
-- returns
theorem rn_ret (hrt : rnRet K r.1) (hd : rnDec (kCc K) ((pc, rI r.1, 1) :: ops) e) (h2 : σ = r.2) {st : List Value} (h3 : ∀ X : Wx, st.map (cv X) = rst X r.1) : RN P d K pc lv st σ r := by
  subst h2
  refine ⟨Nat.le_refl _, fun X p l e R s m args below meth c H locs cells slots Q ls hC hH hS hl h1 h2 hr => ?_⟩
  rw [h3 X]
  exact hr H locs cells slots pc ls hH hS (by omega) (by omega) hd.1 hrt
theorem sb_ireturn {v : Int32} (hr : rnRet K (some (.int v))) : SB P d K [(pc, .ireturn, 1)] e lv [.int v] σ (some (.int v), σ) := fun h => rn_ret (r := (some (.int v), σ)) hr h rfl (fun X => rfl)
theorem sb_return (hr : rnRet K none) : SB P d K [(pc, .return_, 1)] e lv [] σ (none, σ) := fun h => rn_ret (r := (none, σ)) hr h rfl (fun X => rfl)
theorem sb_areturn {v : Nat} (hr : rnRet K (some (.ref v))) : SB P d K [(pc, .areturn, 1)] e lv [.ref v] σ (some (.ref v), σ) := fun h => rn_ret (r := (some (.ref v), σ)) hr h rfl (fun X => rfl)
-- calls
theorem rn_good {args : Array Value} {s : State} {K2 : Kx} (hts : ∀ w ∈ rnWs, w.before args s = true) (hK : rnKok K2) : ∀ w ∈ (rnCode K2 :: rnWs), ∀ (a2 : Array Value) (U : State), s.WarmedH U.vm → w.before a2 U = true := by
  intro w hw a2 U hW
  rcases List.mem_cons.mp hw with rfl | hw
  · exact word_at hW (Or.inl rfl) (hts _ (rnWs_in hK.1 rfl))
  · exact word_at hW (good_of_word (List.mem_filter.mp hw).2) (hts w hw)
theorem CX.same {s U : State} (hv : U.vm = s.vm) (h : CX P X s) : CX P X U := by
  have ha : s.vm.Alike U.vm := hv ▸ Vm.Alike.refl s.vm
  obtain ⟨h1, h2, h3, h4, h5, h6, ⟨⟨a1, a2, a3⟩, b1, b2, b3⟩, h8, h9, h10, h11, h12⟩ := h
  refine ⟨va_K.moved ha h1, fun j hj => (h2 j hj).moved ha, fun j hj => (h3 j hj).moved ha, va_Z.moved ha h4, va_Z.moved ha h5, va_Z.moved ha h6, ⟨⟨va_O.moved ha a1, va_OF.moved ha a2, va_OF.moved ha a3⟩, va_O.moved ha b1, va_OF.moved ha b2, va_OF.moved ha b3⟩, vk_R.same hv h8, vk_R.same hv h9, fun w hw hn => ?_, va_AO.moved ha h11, va_Z.moved ha h12⟩
  cases w <;> first | exact va_tabs rfl hv.symm (h10 _ hw hn) | cases hn
theorem rn_blind {av : List Value} : FrameBlind (rnPc P X av σ) := fun a U g mk h => ⟨h.1, h.2.1, CX.same (s := U) (U := U.calling g mk a) rfl h.2.2⟩
/-- the receiver of a call -/
def rnRc (P : Px) (σ : Sg) (b : Nat) (C : String) : Prop := ∀ (X : Wx) (s : State) (H : Heap), CX P X s → HW X σ H → ∃ cell : Cell, H[xad X b]? = some cell ∧ cell.vm.isStatics = false ∧ s.vm.findClass C = some cell.cls
theorem rc_own {ci : Nat} (hs : rnSh b = (ci, n)) (hb : b < σ.2.2) (hc : ci < 13) : rnRc P σ b (rnOwn ci) := by
  intro X s H hC hH
  have hw := hH.2.2.2 b hb
  rw [rnE_o hs (by omega)] at hw
  obtain ⟨q, h1, cell, g1, g2, g3, -⟩ := hw
  refine ⟨cell, by rw [hH.own hb]; exact g1, by rw [g3]; rfl, ?_⟩
  rw [g2, ← (hC.1.1 ci q h1).2.1]
  have : ∀ ci, ci < 13 → (rnCl[ci]?).map (fun q => q.1) = some (rnOwn ci) := by decide +kernel
  have h2 := this ci hc
  rw [h1] at h2
  have h3 : q.1 = rnOwn ci := Option.some.inj h2
  rw [h3]
theorem rc_str {t : Nat} (ht : t = 3 ∨ t = 5) : rnRc P σ (1000 + t) "java/lang/String" := by
  intro X s H hC hH
  rw [xad_c]
  rcases ht with rfl | rfl
  · obtain ⟨cell, h1, h2, h3, -⟩ := hC.2.2.2.2.2.2.1.1.1
    exact ⟨cell, hH.old h1, h2, h3⟩
  · obtain ⟨cell, h1, h2, h3, -⟩ := hC.2.2.2.2.2.2.1.2.1
    exact ⟨cell, hH.old h1, h2, h3⟩
/-- n values off the stack, the last one first -/
def rnSp : Nat → List Value → List Value → Option (List Value × List Value)
  | 0, acc, st => some (acc, st)
  | _ + 1, _, [] => none
  | n + 1, acc, v :: st => rnSp n (v :: acc) st
theorem rnSp_ok : ∀ {n : Nat} {acc st As rest : List Value}, rnSp n acc st = some (As, rest) → ∃ l, As = l ++ acc ∧ st = l.reverse ++ rest ∧ l.length = n
  | 0, acc, st, As, rest, h => by cases h; exact ⟨[], rfl, rfl, rfl⟩
  | n + 1, acc, [], As, rest, h => by cases h
  | n + 1, acc, v :: st, As, rest, h => by
    obtain ⟨l, h1, h2, h3⟩ := rnSp_ok (n := n) h
    exact ⟨l ++ [v], by rw [h1]; simp, by rw [h2]; simp, by simp [h3]⟩
def rnCat (st : List Value) : Nat := (st.map fun v => v.category).sum
theorem rnCat_cv (st : List Value) : ((st.map (cv X)).map fun v => v.category).sum = rnCat st := by
  unfold rnCat
  rw [List.map_map]
  congr 1
  apply List.map_congr_left
  intro v _
  exact cv_cat X v
/-- what a call asks beside its callee's contract -/
def rnCk (K2 : Kx) (n d d2 : Nat) (rest : List Value) : Bool := decide ((parseMethodDescriptor (kNm K2).desc).map (fun q => q.parameters.length) = some n) && decide (d2 + 1 ≤ d) && Nat.ble (rnCat rest) 8
theorem rnCk_of {K2 : Kx} {n d d2 : Nat} {rest : List Value} (h1 : (decide ((parseMethodDescriptor (kNm K2).desc).map (fun q => q.parameters.length) = some n) && decide (d2 + 1 ≤ d)) = true) (h2 : Nat.ble (rnCat rest) 8 = true) : rnCk K2 n d d2 rest = true := by
  unfold rnCk
  rw [h1, h2]
  rfl
/-- behind a call -/
theorem rn_back {pc pc2 : Nat} {K2 : Kx} {d2 : Nat} {av : List Value} {v : Option Value} {rest : List Value} (hE : EX P d2 K2 av σ (v, σ2))
    (hrun : ∀ (X : Wx) (p : Program) (l : Launch) (e : Env) (R : Room) (s : State) (m : MethodId) (args : Array Value) (below : List Frame) (meth : Method) (c : Code) (H : Heap) (locs : List Loc) (cells slots : Nat) (ls : Array Slot), CT P X d K p R s m args meth c → HW X σ H → ls.size = kML K → cells + (σ2.2.2 - σ.2.2) ≤ R.cells → slots + (rnSq σ2.2.2 - rnSq σ.2.2) ≤ R.slots →
      va_Run p l e R s m args below meth c H locs cells slots (σ2.2.2 - σ.2.2) (rnSq σ2.2.2 - rnSq σ.2.2) (F0 m pc ls (st.map (cv X))) (rest.map (cv X)) (rnQc X (v, σ2) (av.map (cv X)).toArray) (xW X))
    (hpc : pc2 = pc + 3) (k : RN P d K pc2 lv (v.toList ++ rest) σ2 r) : RN P d K pc lv st σ r := by
  have hm1 : σ.2.2 ≤ σ2.2.2 := hE.1
  have hm2 := k.1
  refine ⟨by omega, fun X p l e R s m args below meth c H locs cells slots Q ls hC hH hS hl h1 h2 hr => ?_⟩
  have q1 := rnSq_mono hm1
  have q2 := rnSq_mono hm2
  have hrun := hrun X p l e R s m args below meth c H locs cells slots ls hC hH hl.1 (by omega) (by omega)
  intro T hT XT
  obtain ⟨v1, st₀, t, T', L, h0, X', hL, e1, e2, ⟨hv, hH2⟩, stp⟩ := hrun T hT XT
  have hv1 : v1 = v.map (cv X) := Outcome.returned.inj hv
  subst hv1
  have hz : H.size ≤ t.heap.size := by rw [hH2.1, hH.1]; show _ + σ.2.2 ≤ _ + σ2.2.2; omega
  have hW := k.2 X p l e R s m args below meth c T'.heap (locs ++ L) (cells + (σ2.2.2 - σ.2.2)) (slots + (rnSq σ2.2.2 - rnSq σ.2.2)) Q ls hC (by rw [e1]; exact hH2)
    ⟨by rw [e1, hH2.1]; exact Nat.le_add_right _ _, fun q hq _ => by rw [e1]; exact hH2.2.2.1 q hq, fun q hq => by
      rcases List.mem_append.mp hq with h | h
      · exact hS.2.2 q h
      · exact hL q h⟩ hl (by omega) (by omega) hr
  obtain ⟨t2, a1, b1⟩ := hW T' rfl X'
  refine ⟨t2, stp t2 ?_, b1⟩
  have hst : (v.map (cv X)).toList ++ rest.map (cv X) = (v.toList ++ rest).map (cv X) := by cases v <;> simp
  show Steps p.tables e below (T'.setTop (F0 m (pc + 3) ls ((v.map (cv X)).toList ++ rest.map (cv X)))) t2
  rw [hst, ← hpc]
  exact a1
theorem sb_callV {K2 : Kx} {d2 : Nat} {As rest st0 : List Value} {v : Option Value} (n : Nat) (hsp : rnSp n [] st0 = some (As, .ref b :: rest)) (hK2 : rnKok K2) (hl : Cond.methodLink (rnOwn (kOc K)) i (kNm K2) ∈ lw_tbl) (hvv : Cond.instanceMethod (kNm K2) ∈ lw_tbl ∧ Cond.selects (kNm K2).cls (kNm K2) (kNm K2) ∈ lw_tbl) (hrc : rnRc P σ b (kNm K2).cls) (hck : rnCk K2 n d d2 rest = true)
    (hE : EX P d2 K2 (.ref b :: As) σ (v, σ2)) (k : SB P d K ops e lv (v.toList ++ rest) σ2 r) : SB P d K ((pc, .invokevirtual i, 3) :: ops) e lv st0 σ r := fun h => by
  simp only [rnCk, Bool.and_eq_true, decide_eq_true_eq] at hck
  obtain ⟨⟨hp, hd⟩, hb⟩ := hck
  obtain ⟨l0, rfl, rfl, hlen⟩ := rnSp_ok hsp
  rw [List.append_nil] at hE hsp
  refine rn_back (K2 := K2) (pc2 := rnHd ops e) (rest := rest) hE (fun X p l e R s m args below meth c H locs cells slots ls hC hH hls hc hs => ?_) h.2.1 (k h.2.2)
  obtain ⟨k1, k2, k3, k4, k5, k6, k7⟩ := hK2
  have hts := hC.ts
  have hfr := hC.2.2.2.2.2.2.2.2.1
  have hlo := hC.2.2.2.2.2.2.2.2.2.1
  have hg := rn_good hts ⟨k1, k2, k3, k4, k5, k6, k7⟩
  have hcw : CallW R s args (rnOwn (kOc K)) (kNm K2).cls i (kNm K2) (kCc K2) (kML K2) (kRt K2) (rnCode K2 :: rnWs) (rnRm d2 σ (v, σ2)) (σ2.2.2 - σ.2.2) (rnSq σ2.2.2 - rnSq σ.2.2) n :=
    ⟨⟨rfl, rfl, by show d2 + 1 ≤ _; omega, by show 8 + (kML K2 + 11) + 32 * d2 ≤ _; omega, hg, List.mem_cons_self, hts _ (rnWs_in k1 rfl), hts _ (rnWs_in k4 rfl), ⟨k5, k6⟩, fun sig hs => by rw [hs] at hp; exact (Option.some.inj hp).symm, hts _ (rnWs_in hl rfl)⟩, hts _ (rnWs_in hvv.1 rfl), hts _ (rnWs_in hvv.2 rfl)⟩
  have hrun := va_runV (As := l0.map (cv X)) (rest := rest.map (cv X)) (b := xad X b) (g := F0 m pc ls ((l0.reverse ++ .ref b :: rest).map (cv X))) (H := H) (locs := locs) (cells := cells) (slots := slots) (below := below) (meth := meth) (e := e) ⟨hC.1, hC.2.1, hC.2.2.1, hC.own, hts⟩ (hE.2 X l) hcw
    ⟨rn_blind, hrc X s H hC.cx hH, fun U hU hW => ⟨by simp [cv], by rw [hU]; exact hH, CX.warm hW hC.cx⟩⟩ rfl (by rw [List.length_map]; exact hlen) hls (by simp [cv]) (by rw [rnCat_cv]; show 2 * 0 + _ ≤ 8; have := Nat.le_of_ble_eq_true hb; omega) h.1 ⟨hc, hs⟩
  have hav : (Value.ref (xad X b) :: l0.map (cv X)).toArray = ((Value.ref b :: l0).map (cv X)).toArray := by simp [cv]
  rw [← hav]
  exact hrun
theorem sb_callS {K2 : Kx} {d2 : Nat} {As rest st0 : List Value} {v : Option Value} (n : Nat) (hsp : rnSp n [] st0 = some (As, rest)) (hK2 : rnKok K2) (hl : Cond.methodLink (rnOwn (kOc K)) i (kNm K2) ∈ lw_tbl) (hvv : Cond.static (kNm K2) ∈ lw_tbl) (hck : rnCk K2 n d d2 rest = true)
    (hE : EX P d2 K2 As σ (v, σ2)) (k : SB P d K ops e lv (v.toList ++ rest) σ2 r) : SB P d K ((pc, .invokestatic i, 3) :: ops) e lv st0 σ r := fun h => by
  simp only [rnCk, Bool.and_eq_true, decide_eq_true_eq] at hck
  obtain ⟨⟨hp, hd⟩, hb⟩ := hck
  obtain ⟨l0, rfl, rfl, hlen⟩ := rnSp_ok hsp
  rw [List.append_nil] at hE hsp
  refine rn_back (K2 := K2) (pc2 := rnHd ops e) (rest := rest) hE (fun X p l e R s m args below meth c H locs cells slots ls hC hH hls hc hs => ?_) h.2.1 (k h.2.2)
  obtain ⟨k1, k2, k3, k4, k5, k6, k7⟩ := hK2
  have hts := hC.ts
  have hfr := hC.2.2.2.2.2.2.2.2.1
  have hlo := hC.2.2.2.2.2.2.2.2.2.1
  have hg := rn_good hts ⟨k1, k2, k3, k4, k5, k6, k7⟩
  have hcw : CallB R s args (rnOwn (kOc K)) i (kNm K2) (kCc K2) (kML K2) (kRt K2) (rnCode K2 :: rnWs) (rnRm d2 σ (v, σ2)) (σ2.2.2 - σ.2.2) (rnSq σ2.2.2 - rnSq σ.2.2) n :=
    ⟨rfl, rfl, by show d2 + 1 ≤ _; omega, by show 8 + (kML K2 + 11) + 32 * d2 ≤ _; omega, hg, List.mem_cons_self, hts _ (rnWs_in k1 rfl), hts _ (rnWs_in k4 rfl), ⟨k5, k6⟩, fun sig hs => by rw [hs] at hp; exact (Option.some.inj hp).symm, hts _ (rnWs_in hl rfl)⟩
  exact va_runS (As := l0.map (cv X)) (rest := rest.map (cv X)) (g := F0 m pc ls ((l0.reverse ++ rest).map (cv X))) (H := H) (locs := locs) (cells := cells) (slots := slots) (below := below) (meth := meth) (e := e) ⟨hC.1, hC.2.1, hC.2.2.1, hC.own, hts⟩ (hE.2 X l) ⟨hcw, hts _ (rnWs_in hvv rfl)⟩
    ⟨rn_blind, fun U hU hW => ⟨rfl, by rw [hU]; exact hH, CX.warm hW hC.cx⟩⟩ rfl (by rw [List.length_map]; exact hlen) hls (by simp) (by rw [rnCat_cv]; show 2 * 0 + _ ≤ 8; have := Nat.le_of_ble_eq_true hb; omega) h.1 ⟨hc, hs⟩
theorem sb_callVi {K2 : Kx} {d2 : Nat} {As rest st0 : List Value} {v : Int32} (n : Nat) (hsp : rnSp n [] st0 = some (As, .ref b :: rest)) (hK2 : rnKok K2) (hl : Cond.methodLink (rnOwn (kOc K)) i (kNm K2) ∈ lw_tbl) (hvv : Cond.instanceMethod (kNm K2) ∈ lw_tbl ∧ Cond.selects (kNm K2).cls (kNm K2) (kNm K2) ∈ lw_tbl) (hrc : rnRc P σ b (kNm K2).cls) (hck : rnCk K2 n d d2 rest = true)
    (hE : EX P d2 K2 (.ref b :: As) σ (some (.int v), σ2)) (k : SB P d K ops e lv (.int v :: rest) σ2 r) : SB P d K ((pc, .invokevirtual i, 3) :: ops) e lv st0 σ r := sb_callV (v := some (.int v)) n hsp hK2 hl hvv hrc hck hE k
theorem sb_callVv {K2 : Kx} {d2 : Nat} {As rest st0 : List Value} (n : Nat) (hsp : rnSp n [] st0 = some (As, .ref b :: rest)) (hK2 : rnKok K2) (hl : Cond.methodLink (rnOwn (kOc K)) i (kNm K2) ∈ lw_tbl) (hvv : Cond.instanceMethod (kNm K2) ∈ lw_tbl ∧ Cond.selects (kNm K2).cls (kNm K2) (kNm K2) ∈ lw_tbl) (hrc : rnRc P σ b (kNm K2).cls) (hck : rnCk K2 n d d2 rest = true)
    (hE : EX P d2 K2 (.ref b :: As) σ (none, σ2)) (k : SB P d K ops e lv rest σ2 r) : SB P d K ((pc, .invokevirtual i, 3) :: ops) e lv st0 σ r := sb_callV (v := none) n hsp hK2 hl hvv hrc hck hE k
theorem sb_callVr {K2 : Kx} {d2 : Nat} {As rest st0 : List Value} {v : Nat} (n : Nat) (hsp : rnSp n [] st0 = some (As, .ref b :: rest)) (hK2 : rnKok K2) (hl : Cond.methodLink (rnOwn (kOc K)) i (kNm K2) ∈ lw_tbl) (hvv : Cond.instanceMethod (kNm K2) ∈ lw_tbl ∧ Cond.selects (kNm K2).cls (kNm K2) (kNm K2) ∈ lw_tbl) (hrc : rnRc P σ b (kNm K2).cls) (hck : rnCk K2 n d d2 rest = true)
    (hE : EX P d2 K2 (.ref b :: As) σ (some (.ref v), σ2)) (k : SB P d K ops e lv (.ref v :: rest) σ2 r) : SB P d K ((pc, .invokevirtual i, 3) :: ops) e lv st0 σ r := sb_callV (v := some (.ref v)) n hsp hK2 hl hvv hrc hck hE k
theorem sb_callSi {K2 : Kx} {d2 : Nat} {As rest st0 : List Value} {v : Int32} (n : Nat) (hsp : rnSp n [] st0 = some (As, rest)) (hK2 : rnKok K2) (hl : Cond.methodLink (rnOwn (kOc K)) i (kNm K2) ∈ lw_tbl) (hvv : Cond.static (kNm K2) ∈ lw_tbl) (hck : rnCk K2 n d d2 rest = true)
    (hE : EX P d2 K2 As σ (some (.int v), σ2)) (k : SB P d K ops e lv (.int v :: rest) σ2 r) : SB P d K ((pc, .invokestatic i, 3) :: ops) e lv st0 σ r := sb_callS (v := some (.int v)) n hsp hK2 hl hvv hck hE k
theorem sb_callSv {K2 : Kx} {d2 : Nat} {As rest st0 : List Value} (n : Nat) (hsp : rnSp n [] st0 = some (As, rest)) (hK2 : rnKok K2) (hl : Cond.methodLink (rnOwn (kOc K)) i (kNm K2) ∈ lw_tbl) (hvv : Cond.static (kNm K2) ∈ lw_tbl) (hck : rnCk K2 n d d2 rest = true)
    (hE : EX P d2 K2 As σ (none, σ2)) (k : SB P d K ops e lv rest σ2 r) : SB P d K ((pc, .invokestatic i, 3) :: ops) e lv st0 σ r := sb_callS (v := none) n hsp hK2 hl hvv hck hE k
theorem sb_callSN {K2 : Kx} {d2 : Nat} {As rest st0 : List Value} {v : Option Value} {ho : String} (n : Nat) (hsp : rnSp n [] st0 = some (As, rest)) (hK2 : rnKok K2) (hl : Cond.methodLinkNest (rnOwn (kOc K)) i (kNm K2) ho ∈ lw_tbl) (hvv : Cond.static (kNm K2) ∈ lw_tbl) (hck : rnCk K2 n d d2 rest = true)
    (hE : EX P d2 K2 As σ (v, σ2)) (k : SB P d K ops e lv (v.toList ++ rest) σ2 r) : SB P d K ((pc, .invokestatic i, 3) :: ops) e lv st0 σ r := fun h => by
  simp only [rnCk, Bool.and_eq_true, decide_eq_true_eq] at hck
  obtain ⟨⟨hp, hd⟩, hb⟩ := hck
  obtain ⟨l0, rfl, rfl, hlen⟩ := rnSp_ok hsp
  rw [List.append_nil] at hE hsp
  refine rn_back (K2 := K2) (pc2 := rnHd ops e) (rest := rest) hE (fun X p l e R s m args below meth c H locs cells slots ls hC hH hls hc hs => ?_) h.2.1 (k h.2.2)
  obtain ⟨k1, k2, k3, k4, k5, k6, k7⟩ := hK2
  have hts := hC.ts
  have hfr := hC.2.2.2.2.2.2.2.2.1
  have hlo := hC.2.2.2.2.2.2.2.2.2.1
  have hg := rn_good hts ⟨k1, k2, k3, k4, k5, k6, k7⟩
  have hcw : va_CN R s args (rnOwn (kOc K)) i (kNm K2) ho (kCc K2) (kML K2) (kRt K2) (rnCode K2 :: rnWs) (rnRm d2 σ (v, σ2)) (σ2.2.2 - σ.2.2) (rnSq σ2.2.2 - rnSq σ.2.2) n :=
    ⟨⟨rfl, rfl, by show d2 + 1 ≤ _; omega, by show 8 + (kML K2 + 11) + 32 * d2 ≤ _; omega, hg, List.mem_cons_self⟩, hts _ (rnWs_in k1 rfl), hts _ (rnWs_in k4 rfl), ⟨k5, k6⟩, fun sig hs => by rw [hs] at hp; exact (Option.some.inj hp).symm, va_Nw.use rfl (hC.cx.2.2.2.2.2.2.2.2.2.1 _ hl rfl)⟩
  exact va_runSN (As := l0.map (cv X)) (rest := rest.map (cv X)) (g := F0 m pc ls ((l0.reverse ++ rest).map (cv X))) (H := H) (locs := locs) (cells := cells) (slots := slots) (below := below) (meth := meth) (e := e) ⟨hC.1, hC.2.1, hC.2.2.1, hC.own, hts⟩ (hE.2 X l) ⟨hcw, hts _ (rnWs_in hvv rfl), trivial⟩
    ⟨rn_blind, fun U hU hW => ⟨rfl, by rw [hU]; exact hH, CX.warm hW hC.cx⟩⟩ rfl (by rw [List.length_map]; exact hlen) hls (by simp) (by rw [rnCat_cv]; show 2 * 0 + _ ≤ 8; have := Nat.le_of_ble_eq_true hb; omega) h.1 ⟨hc, hs⟩
theorem sb_callSNi {K2 : Kx} {d2 : Nat} {As rest st0 : List Value} {v : Int32} {ho : String} (n : Nat) (hsp : rnSp n [] st0 = some (As, rest)) (hK2 : rnKok K2) (hl : Cond.methodLinkNest (rnOwn (kOc K)) i (kNm K2) ho ∈ lw_tbl) (hvv : Cond.static (kNm K2) ∈ lw_tbl) (hck : rnCk K2 n d d2 rest = true)
    (hE : EX P d2 K2 As σ (some (.int v), σ2)) (k : SB P d K ops e lv (.int v :: rest) σ2 r) : SB P d K ((pc, .invokestatic i, 3) :: ops) e lv st0 σ r := sb_callSN (v := some (.int v)) n hsp hK2 hl hvv hck hE k
end RnEx
