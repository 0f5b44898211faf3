section RnMake
variable {P : Px} {d : Nat} {K : Kx} {pc e : Nat} {ops : List (Nat × Instr × Nat)} {lv lv2 : List (Nat × Value)} {st st2 : List Value} {σ σ2 : Sg} {r : Option Value × Sg} {X : Wx} {H H2 : Heap} {a b k n i : Nat}
/-- a new cell, all of it zero or null -/
def alc (σ : Sg) : Sg := (fun b => if b = σ.2.2 then (fun _ => 0) else σ.1 b, fun b => if b = σ.2.2 then (fun _ => none) else σ.2.1 b, σ.2.2 + 1)
theorem rnSq_all : ∀ n, n < 253 → rnSq (n + 1) = rnSq n + (rnSh n).2 := by decide +kernel
theorem rnSq_mono {n m : Nat} (h : n ≤ m) : rnSq n ≤ rnSq m := by
  unfold rnSq
  obtain ⟨c, rfl⟩ := Nat.exists_eq_add_of_le h
  rw [List.take_add, List.map_append, List.sum_append]
  exact Nat.le_add_right _ _
theorem HW.make (h : HW X σ H) (hz : H2.size = H.size + 1) (ho : ∀ q : Nat, q < H.size → H2[q]? = H[q]?) (hn : σ.2.2 < 253) (hat : va_at (xD X) rnCl ((xG X).size + σ.2.2, rnE X (alc σ) σ.2.2) H2) : HW X (alc σ) H2 := by
  obtain ⟨g1, g2, g3, g4⟩ := h
  refine ⟨by rw [hz, g1]; show _ = _ + (σ.2.2 + 1); omega, by show σ.2.2 + 1 ≤ 253; omega, fun q hq => (ho q (by omega)).trans (g3 q hq), fun b hb => ?_⟩
  by_cases e : b = σ.2.2
  · rw [e]; exact hat
  · have hb2 : b < σ.2.2 := by have : b < σ.2.2 + 1 := hb; omega
    rw [rnE_congr (σ := σ) (show (alc σ).1 b = σ.1 b by simp [alc, e]) (show (alc σ).2.1 b = σ.2.1 b by simp [alc, e])]
    exact (g4 b hb2).kept (ho _ (by show (xG X).size + b < _; omega))
theorem rn_alloc {pc pc2 : Nat} (hn : σ.2.2 < 253) (h : ∀ (X : Wx) (p : Program) (l : Launch) (e : Env) (R : Room) (s : State) (m : MethodId) (args : Array Value) (below : List Frame) (meth : Method) (c : Code) (H : Heap) (locs : List Loc) (cells slots : Nat) (Q : State → Prop) (ls : Array Slot), CT P X d K p R s m args meth c → HW X σ H → cells + 1 ≤ R.cells → slots + (rnSh σ.2.2).2 ≤ R.slots →
      (∀ (H2 : Heap), HW X (alc σ) H2 → (∀ q : Nat, q < H.size → H2[q]? = H[q]?) → W p l e R s m args below meth c H2 locs (cells + 1) (slots + (rnSh σ.2.2).2) Q (F0 m pc2 ls (st2.map (cv X)))) → W p l e R s m args below meth c H locs cells slots Q (F0 m pc ls (st.map (cv X))))
    (k : RN P d K pc2 lv st2 (alc σ) r) : RN P d K pc lv st σ r := by
  have hk : σ.2.2 + 1 ≤ r.2.2.2 := k.1
  refine ⟨by omega, fun X p l e R s m args below meth c H locs cells slots Q ls hC hH hS hl h1 h2 hr => ?_⟩
  have e1 := rnSq_all _ hn
  have e2 := rnSq_mono hk
  refine h X p l e R s m args below meth c H locs cells slots Q ls hC hH (by omega) (by omega) (fun H2 hH2 ho => ?_)
  refine k.2 X p l e R s m args below meth c H2 locs (cells + 1) (slots + (rnSh σ.2.2).2) Q ls hC hH2 ⟨?_, fun q hq hA => (ho q ?_).trans (hS.2.1 q hq hA), hS.2.2⟩ hl (by show _ ≤ _ + (σ.2.2 + 1); omega) (by show _ ≤ _ + rnSq (σ.2.2 + 1); omega) hr
  · rw [hH2.1]; exact Nat.le_add_right _ _
  · rw [hH.1]; omega
def rnAll (ci N : Nat) : Bool := (List.range N).all (fun k => decide (rnKd ci k < 2) || rnRef (rnTy ci k))
theorem rn_def {ci k : Nat} (h : (decide (rnKd ci k < 2) || rnRef (rnTy ci k)) = true) (X : Wx) (σ : Sg) : defaultValue (rnTy ci k) = rnFv X (alc σ) σ.2.2 ci k := by
  unfold rnFv
  by_cases hk : rnKd ci k < 2
  · rw [if_pos hk]
    have : (alc σ).1 σ.2.2 k = 0 := by simp [alc]
    rw [this]
    by_cases h0 : rnKd ci k = 0
    · rw [rnTy_i h0]; rfl
    · rw [rnTy_z (by omega)]; rfl
  · rw [if_neg hk]
    have : (alc σ).2.1 σ.2.2 k = none := by simp [alc]
    rw [this]
    simp [hk] at h
    cases ht : rnTy ci k <;> rw [ht] at h <;> first | rfl | cases h
theorem sb_new {ci N : Nat} (hf : rnNw (kOc K) i = some ci) (hs : rnSh σ.2.2 = (ci, N)) (hd : (decide (ci < 13) && rnAll ci N && decide ((rnCl[ci]?).map (fun q => q.2.2) = some N)) = true) (hn : σ.2.2 < 253) (kk : SB P d K ops e lv (.ref σ.2.2 :: st) (alc σ) r) : SB P d K ((pc, .new i, 3) :: ops) e lv st σ r := fun h => by
  simp only [Bool.and_eq_true, decide_eq_true_eq] at hd
  obtain ⟨⟨hci, hall⟩, hN⟩ := hd
  refine rn_alloc hn (fun X p l e R s m args below meth c H locs cells slots Q ls hC hH hc hsl k2 => ?_) (kk h.2.2)
  obtain ⟨C, T, N2, hq, hl⟩ := rnNw_ok hf
  rw [hq] at hN
  have hNN : N2 = N := Option.some.inj hN
  subst hNN
  obtain ⟨-, hty, -, hins, hini⟩ := rnCl_ok ci _ hq
  have hKn := hC.kk.1 ci _ hq
  rw [hs] at hsl k2
  refine W.newcK hC.1 hC.2.1 hC.own (hC.ts _ (rnWs_in hl rfl)) (hC.ts _ (rnWs_in hins rfl)) (hC.ts _ (rnWs_in hini rfl)) rfl h.1 hc hsl hKn.2.1 rfl fun H1 kC hkC e1 z1 o1 => ?_
  have hx : xad X σ.2.2 = H.size := by rw [xad_own (by omega), hH.1]
  have hw := k2 H1 (hH.make z1 o1 hn ?_) o1
  · have hw2 : W p l e R s m args below meth c H1 locs (cells + 1) (slots + N2) Q (F0 m (rnHd ops _) ls (.ref (xad X σ.2.2) :: st.map (cv X))) := hw
    rw [hx] at hw2
    exact h.2.1 ▸ hw2
  · rw [rnE_o hs (by omega)]
    refine ⟨_, hq, ?_⟩
    have hb := u_born (rnTy ci) hC.ts (rnCl_ws hq) hKn hkC e1 hty
    rw [← hH.1]
    refine hb.to fun j hj => ?_
    rw [rnV_get hj]
    exact rn_def (List.all_eq_true.mp hall j (List.mem_range.mpr hj)) X σ
theorem rnZl (σ : Sg) : mgl (alc σ).1 σ.2.2 = fun _ => 0 := by
  funext k
  have : ∀ j, (alc σ).1 σ.2.2 j = 0 := fun j => by simp [alc]
  unfold mgl
  rw [this, this]
  rfl
theorem rnCA {p : Program} {R : Room} {s : State} {m : MethodId} {args : Array Value} {meth : Method} {c : Code} (hC : CT P X d K p R s m args meth c) : s.vm.findClass ("[" ++ FieldType.int.toString) = some (xA X 0) ∧ s.vm.findClass ("[" ++ FieldType.byte.toString) = some (xA X 1) ∧ s.vm.findClass ("[" ++ FieldType.long.toString) = some (xA X 2) ∧ s.vm.findClass ("[" ++ (FieldType.object "KindPostman$World").toString) = some (xA X 3) :=
  ⟨(hC.kk.2 0 _ rfl).2, (hC.kk.2 1 _ rfl).2, (hC.kk.2 2 _ rfl).2, by obtain ⟨_, _, _, _, _, h⟩ := (hC.kk.2 3 _ rfl).2; exact h⟩
theorem sb_newI {x : Int32} (hs : rnSh σ.2.2 = (20, n)) (hx : x = nI n) (hd : n < 100000) (hn : σ.2.2 < 253) (ht : Cond.arrayClass .int ∈ lw_tbl) (kk : SB P d K ops e lv (.ref σ.2.2 :: st) (alc σ) r) : SB P d K ((pc, .newarray .int, 2) :: ops) e lv (.int x :: st) σ r := fun h => by
  refine rn_alloc hn (fun X p l e R s m args below meth c H locs cells slots Q ls hC hH hc hsl k2 => ?_) (kk h.2.2)
  rw [hs] at hsl k2
  refine va_newaK hC.1 hC.2.1 (atype := .int) (hC.ts _ (rnWs_in ht rfl)) rfl h.1 (n := x) (N := n) rfl (by rw [hx]; exact nI_pos (by omega)) (by rw [hx]; exact nI_clamp (by omega)) (by show n * 4 ≤ _; omega) hc hsl rfl fun H1 cA e1 z1 o1 hAr hNm => ?_
  have hcA : cA = xA X 0 := Option.some.inj (hNm.symm.trans (rnCA hC).1)
  subst hcA
  have hx2 : xad X σ.2.2 = H.size := by rw [xad_own (by omega), hH.1]
  have hw := k2 H1 (hH.make z1 o1 hn ?_) o1
  · have hw2 : W p l e R s m args below meth c H1 locs (cells + 1) (slots + n) Q (F0 m (rnHd ops _) ls (.ref (xad X σ.2.2) :: st.map (cv X))) := hw
    rw [hx2] at hw2
    exact h.2.1 ▸ hw2
  · rw [rnE_i hs]
    show H1[(xG X).size + σ.2.2]? = some (vp_cell _ _)
    rw [← hH.1, e1, vp_cell_i]
    congr 2
    funext j
    simp [alc]
    rfl
theorem sb_newB {x : Int32} (hs : rnSh σ.2.2 = (21, n)) (hx : x = nI n) (hd : n < 100000) (hn : σ.2.2 < 253) (ht : Cond.arrayClass .byte ∈ lw_tbl) (kk : SB P d K ops e lv (.ref σ.2.2 :: st) (alc σ) r) : SB P d K ((pc, .newarray .byte, 2) :: ops) e lv (.int x :: st) σ r := fun h => by
  refine rn_alloc hn (fun X p l e R s m args below meth c H locs cells slots Q ls hC hH hc hsl k2 => ?_) (kk h.2.2)
  rw [hs] at hsl k2
  refine va_newaK hC.1 hC.2.1 (atype := .byte) (hC.ts _ (rnWs_in ht rfl)) rfl h.1 (n := x) (N := n) rfl (by rw [hx]; exact nI_pos (by omega)) (by rw [hx]; exact nI_clamp (by omega)) (by show n * 1 ≤ _; omega) hc hsl rfl fun H1 cA e1 z1 o1 hAr hNm => ?_
  have hcA : cA = xA X 1 := Option.some.inj (hNm.symm.trans (rnCA hC).2.1)
  subst hcA
  have hx2 : xad X σ.2.2 = H.size := by rw [xad_own (by omega), hH.1]
  have hw := k2 H1 (hH.make z1 o1 hn ?_) o1
  · have hw2 : W p l e R s m args below meth c H1 locs (cells + 1) (slots + n) Q (F0 m (rnHd ops _) ls (.ref (xad X σ.2.2) :: st.map (cv X))) := hw
    rw [hx2] at hw2
    exact h.2.1 ▸ hw2
  · rw [rnE_b hs]
    show H1[(xG X).size + σ.2.2]? = some (vp_cell _ _)
    rw [← hH.1, e1, vp_cell_i]
    congr 2
    funext j
    simp [alc]
    rfl
theorem sb_newL {x : Int32} (hs : rnSh σ.2.2 = (22, n)) (hx : x = nI n) (hd : n < 100000) (hn : σ.2.2 < 253) (ht : Cond.arrayClass .long ∈ lw_tbl) (kk : SB P d K ops e lv (.ref σ.2.2 :: st) (alc σ) r) : SB P d K ((pc, .newarray .long, 2) :: ops) e lv (.int x :: st) σ r := fun h => by
  refine rn_alloc hn (fun X p l e R s m args below meth c H locs cells slots Q ls hC hH hc hsl k2 => ?_) (kk h.2.2)
  rw [hs] at hsl k2
  refine va_newaK hC.1 hC.2.1 (atype := .long) (hC.ts _ (rnWs_in ht rfl)) rfl h.1 (n := x) (N := n) rfl (by rw [hx]; exact nI_pos (by omega)) (by rw [hx]; exact nI_clamp (by omega)) (by show n * 8 ≤ _; omega) hc hsl rfl fun H1 cA e1 z1 o1 hAr hNm => ?_
  have hcA : cA = xA X 2 := Option.some.inj (hNm.symm.trans (rnCA hC).2.2.1)
  subst hcA
  have hx2 : xad X σ.2.2 = H.size := by rw [xad_own (by omega), hH.1]
  have hw := k2 H1 (hH.make z1 o1 hn ?_) o1
  · have hw2 : W p l e R s m args below meth c H1 locs (cells + 1) (slots + n) Q (F0 m (rnHd ops _) ls (.ref (xad X σ.2.2) :: st.map (cv X))) := hw
    rw [hx2] at hw2
    exact h.2.1 ▸ hw2
  · rw [rnE_l hs]
    show H1[(xG X).size + σ.2.2]? = some (vp_cell _ _)
    rw [← hH.1, e1, vp_cell_l, rnZl]
    rfl
theorem sb_newW {x : Int32} (hs : rnSh σ.2.2 = (23, n)) (hx : x = nI n) (hd : n < 100000) (hn : σ.2.2 < 253) (hf : rnNw (kOc K) i = some 10) (kk : SB P d K ops e lv (.ref σ.2.2 :: st) (alc σ) r) : SB P d K ((pc, .anewarray i, 3) :: ops) e lv (.int x :: st) σ r := fun h => by
  refine rn_alloc hn (fun X p l e R s m args below meth c H locs cells slots Q ls hC hH hc hsl k2 => ?_) (kk h.2.2)
  obtain ⟨C, T, N2, hq, hl⟩ := rnNw_ok hf
  have hCe : C = "KindPostman$World" := by cases hq; rfl
  subst hCe
  rw [hs] at hsl k2
  have hcl : x.toNatClampNeg = n := by rw [hx]; exact nI_clamp (by omega)
  refine W.anew hC.1 hC.2.1 hC.own (hC.ts _ (rnWs_in hl rfl)) (va_AO.use hC.cx.2.2.2.2.2.2.2.2.2.2.1) rfl h.1 (n := x) rfl (by rw [hx]; exact nI_pos (by omega)) (by rw [hcl]; omega) hc (by rw [hcl]; exact hsl) fun cA kA comp f1 f2 f3 f4 => ?_
  have hcA : cA = xA X 3 := Option.some.inj (f1.symm.trans (rnCA hC).2.2.2)
  subst hcA
  rw [hcl]
  generalize hH1 : H.push ({ cls := xA X 3, slots := Array.replicate n .null, vm := .none } : Cell) = H1
  have z1 : H1.size = H.size + 1 := by rw [← hH1, Array.size_push]
  have e1 : H1[H.size]? = some (arrV (xA X 3) n (fun _ => .null)) := by rw [← hH1, Array.getElem?_push_size, ← arrV_new]
  have o1 : ∀ q : Nat, q < H.size → H1[q]? = H[q]? := fun q hq => by rw [← hH1, Array.getElem?_push, if_neg (Nat.ne_of_lt hq)]
  have hx2 : xad X σ.2.2 = H.size := by rw [xad_own (by omega), hH.1]
  have hw := k2 H1 (hH.make z1 o1 hn ?_) o1
  · have hw2 : W p l e R s m args below meth c H1 locs (cells + 1) (slots + n) Q (F0 m (rnHd ops _) ls (.ref (xad X σ.2.2) :: st.map (cv X))) := hw
    rw [hx2] at hw2
    exact h.2.1 ▸ hw2
  · rw [rnE_q hs]
    show H1[(xG X).size + σ.2.2]? = some (vp_cell _ _)
    rw [← hH.1, e1, vp_cell_q]
    congr 2
    funext j
    simp [alc, va_rf]
theorem sb_aast {x : Int32} {N : Nat} (hs : rnSh a = (23, n)) (ha : a < σ.2.2) (hb : rnSh b = (10, N)) (hb2 : b < σ.2.2) (hx : inb x n) (kk : SB P d K ops e lv st (σ.1, rput σ.2.1 a x.toNatClampNeg b, σ.2.2) r) : SB P d K ((pc, .aastore, 1) :: ops) e lv (.ref b :: .int x :: .ref a :: st) σ r := fun h =>
  rn_write (σ' := (σ.1, rput σ.2.1 a x.toNatClampNeg b, σ.2.2)) rfl (fun X p l e R s m args below meth c H locs cells slots Q ls hC hH hS hz k2 => by
    have hw := hH.2.2.2 a ha
    rw [rnE_q hs] at hw
    have hwb := hH.2.2.2 b hb2
    rw [rnE_o hb (by omega)] at hwb
    obtain ⟨r', hr', cellV, g1, g2, g3, -⟩ := hwb
    show W p l e R s m args below meth c H locs cells slots Q (F0 m pc ls (.ref (xad X b) :: .int x :: .ref (xad X a) :: st.map (cv X)))
    have hlt : x.toNatClampNeg < n := Nat.not_le.mp fun q => hx (Or.inr q)
    have h0 : ¬ x < 0 := fun q => hx (Or.inl q)
    have hcls := (hC.kk.1 10 (rnR10, rnT10, 14) rfl).2
    obtain ⟨kA, comp, k1, k2', k3, -⟩ := (hC.kk.2 3 _ rfl).2
    have hcomp : comp = (xD X).1 10 := Option.some.inj (k3.symm.trans hcls.1)
    subst hcomp
    obtain ⟨kC, hkC, hkk⟩ := hcls.2
    rw [hH.own ha, hH.own hb2]
    refine W.aast hC.1 hC.2.1 hw (fun q h => by cases h) (fun h => by cases h) k1 k2' rfl hkC ⟨h0, by show _ < (arrV _ _ _).slots.size; rw [arrV_size]; exact hlt⟩ g1 (fun q h => by rw [g3] at h; cases h) (by rw [g2]; exact hkC) (by rw [g2]; exact va_assign ⟨hcls.1, kC, hkC, hkk⟩) rfl rfl h.1 fun H1 e1 z oq => ?_
    refine h.2.1 ▸ k2 H1 _ (hH.put (σ2 := (σ.1, rput σ.2.1 a x.toNatClampNeg b, σ.2.2)) ha z oq rfl (fun b hb => rfl) (fun c hc => rput_row _ _ _ _ _ hc) ?_) (hS.put z oq (Nat.le_add_right _ _))
    rw [rnE_q hs]
    show H1[(xG X).size + a]? = some (vp_cell _ _)
    rw [e1, vp_cell_q, vp_cell_q, arrV_store]
    congr 2
    funext q
    by_cases hq : q = x.toNatClampNeg
    · subst hq; simp [updV, rput, va_rf]; rw [hH.own hb2]
    · simp [updV, rput, hq]) (kk h.2.2)
end RnMake
