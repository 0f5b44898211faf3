section RnJ
/-- what is fixed over the whole run: the heap at the law's start; the classes' numbers and slots; the row classes; where the constants lie; the script -/
abbrev Wx : Type := Heap × va_G × (Nat → ClassId) × (Nat → Nat) × Option Nat
abbrev xG (X : Wx) : Heap := X.1
abbrev xD (X : Wx) : va_G := X.2.1
abbrev xA (X : Wx) : Nat → ClassId := X.2.2.1
abbrev xC (X : Wx) : Nat → Nat := X.2.2.2.1
/-- a static of the JDK's that is handed on and never looked at -/
abbrev xF (X : Wx) : Option Nat := X.2.2.2.2
abbrev Px : Type := Nat × (Nat → Int32)
/-- the machine's address of an abstract one: our cells from 0 on, constants from 1000 on -/
def xad (X : Wx) (a : Nat) : Nat := if a < 1000 then (xG X).size + a else xC X (a - 1000)
def cv (X : Wx) (v : Value) : Value := match v with
  | .ref a => .ref (xad X a)
  | .retAddr _ => va_rf (xF X)
  | v => v
def cvq (X : Wx) (q : Nat × Value) : Nat × Value := (q.1, cv X q.2)
theorem cv_rf (X : Wx) (o : Option Nat) : cv X (va_rf o) = va_rf (o.map (xad X)) := by cases o <;> rfl
theorem cv_cat (X : Wx) (v : Value) : (cv X v).category = v.category := by
  cases v <;> first | rfl | (show (va_rf (xF X)).category = 1; cases xF X <;> rfl)
def rnFv (X : Wx) (σ : Sg) (a ci k : Nat) : Value := if rnKd ci k < 2 then .int (σ.1 a k) else va_rf ((σ.2.1 a k).map (xad X))
def rnE (X : Wx) (σ : Sg) (a : Nat) : va_E :=
  if (rnSh a).1 = 20 then .inl (xA X 0, (rnSh a).2, .inl (σ.1 a))
  else if (rnSh a).1 = 21 then .inl (xA X 1, (rnSh a).2, .inl (σ.1 a))
  else if (rnSh a).1 = 22 then .inl (xA X 2, (rnSh a).2, .inr (.inl (mgl σ.1 a)))
  else if (rnSh a).1 = 23 then .inl (xA X 3, (rnSh a).2, .inr (.inr (.inr (.inr (fun k => (σ.2.1 a k).map (xad X))))))
  else .inr ((rnSh a).1, (List.range (rnSh a).2).map (rnFv X σ a (rnSh a).1))
theorem rnE_i {X : Wx} {σ : Sg} {a n : Nat} (h : rnSh a = (20, n)) : rnE X σ a = .inl (xA X 0, n, .inl (σ.1 a)) := by simp [rnE, h]
theorem rnE_b {X : Wx} {σ : Sg} {a n : Nat} (h : rnSh a = (21, n)) : rnE X σ a = .inl (xA X 1, n, .inl (σ.1 a)) := by simp [rnE, h]
theorem rnE_l {X : Wx} {σ : Sg} {a n : Nat} (h : rnSh a = (22, n)) : rnE X σ a = .inl (xA X 2, n, .inr (.inl (mgl σ.1 a))) := by simp [rnE, h]
theorem rnE_q {X : Wx} {σ : Sg} {a n : Nat} (h : rnSh a = (23, n)) : rnE X σ a = .inl (xA X 3, n, .inr (.inr (.inr (.inr (fun k => (σ.2.1 a k).map (xad X)))))) := by simp [rnE, h]
theorem rnE_o {X : Wx} {σ : Sg} {a ci n : Nat} (h : rnSh a = (ci, n)) (hc : ci < 20) : rnE X σ a = .inr (ci, (List.range n).map (rnFv X σ a ci)) := by
  simp [rnE, h, show ¬ ci = 20 by omega, show ¬ ci = 21 by omega, show ¬ ci = 22 by omega, show ¬ ci = 23 by omega]
/-- the cells that may change: all from the law's start on -/
abbrev xW (X : Wx) : Nat → Prop := fun q => (xG X).size ≤ q
def HW (X : Wx) (σ : Sg) (H : Heap) : Prop := H.size = (xG X).size + σ.2.2 ∧ σ.2.2 ≤ 253 ∧ (∀ q : Nat, q < (xG X).size → H[q]? = (xG X)[q]?) ∧ ∀ a : Nat, a < σ.2.2 → va_at (xD X) rnCl ((xG X).size + a, rnE X σ a) H
/-- the constants' contents: 0 SMILES, 1 KINDS_OF_CHANGE, 2 the script, 4 the bytes of SIGNS, 6 the bytes of WORDS (3, 5 the texts themselves) -/
def rnSigns : List Int32 := [59, 43, 45, 42, 47, 40, 41, 60, 61, 62]
def rnWords : List Int32 := [111, 112, 101, 110, 115, 32, 103, 105, 118, 101, 115, 32, 116, 105, 114, 101, 115, 32, 119, 104, 101, 110, 32, 111, 114, 32, 97, 110, 100, 32, 110, 111, 116, 32, 107, 105, 110, 100, 32, 109, 117, 99, 104, 32, 97, 103, 101, 32, 102, 97, 99, 101, 32, 108, 111, 118, 101, 32, 112, 117, 114, 115, 101, 32, 104, 101, 97, 108, 116, 104, 32, 104, 117, 110, 103, 101, 114, 32, 104, 111, 117, 114, 32, 114, 97, 105, 110, 32, 100, 97, 121, 32, 111, 110, 32, 116, 111, 32, 110, 101, 119, 115, 32, 98, 105, 108, 108, 32, 107, 105, 115, 115, 32, 97, 110, 103, 101, 114, 32, 105, 110, 118, 105, 116, 97, 116, 105, 111, 110, 32, 116, 101, 120, 116, 32, 106, 111, 107, 101, 32, 119, 97, 108, 107, 32, 115, 116, 114, 101, 101, 116, 32]
def rnCn (P : Px) (j : Nat) : Nat × (Nat → Int32) := match j with
  | 0 => (7, fun k => ([-1, -1, 1, -1, 0, 0, 2] : List Int32).getD k 0)
  | 1 => (4, fun k => ([3, 2, 1, 1] : List Int32).getD k 0)
  | 2 => P
  | 4 => (10, fun k => rnSigns.getD k 0)
  | _ => (152, fun k => rnWords.getD k 0)
/-- a row of the constants -/
def rnXt (ty : FieldType) (b L : Nat) (xs : Nat → Int32) (U : State) (H : Heap) : Prop := ∃ scr : Cell, H[b]? = some scr ∧ U.isArrayOf scr ty ∧ scr.vm ≠ .unknown ∧ (L ≤ scr.slots.size ∧ scr.slots.size.toInt32 = Int32.ofNat L) ∧ ∀ j : Nat, j < L → scr.slots[j]? = some (.int (xs j))
theorem rnXt.moved {ty : FieldType} {b L : Nat} {xs : Nat → Int32} {u U : State} {H : Heap} (hvm : u.vm.Alike U.vm) (h : rnXt ty b L xs u H) : rnXt ty b L xs U H := by
  obtain ⟨scr, h1, h2, h3⟩ := h
  exact ⟨scr, h1, State.isArrayOf_alike hvm h2, h3⟩
def rnTys (X : Wx) : List (ClassId × FieldType) := [(xA X 0, .int), (xA X 1, .byte), (xA X 2, .long), (xA X 3, .object "KindPostman$World")]
def rnSs (X : Wx) (t a : Nat) (s : State) : Prop := va_O "java/lang/String" (xC X t) (xW X) s (xG X) ∧ va_OF "java/lang/String" "coder" "B" (.int 0) (xC X t) (xW X) s (xG X) ∧ va_OF "java/lang/String" "value" "[B" (.ref (xC X a)) (xC X t) (xW X) s (xG X)
def rnNest (w : Cond) : Bool := match w with
  | .methodLinkNest .. => true
  | .fieldLinkNest .. => true
  | _ => false
def CX (P : Px) (X : Wx) (s : State) : Prop :=
  va_K (xD X) rnCl (rnTys X) s ∧ (∀ j, j < 3 → rnXt .int (xC X j) (rnCn P j).1 (rnCn P j).2 s (xG X)) ∧ (∀ j, j = 4 ∨ j = 6 → rnXt .byte (xC X j) (rnCn P j).1 (rnCn P j).2 s (xG X)) ∧
  va_Z "KindPostman" "SMILES" "[I" (.ref (xC X 0)) (xW X) s (xG X) ∧ va_Z "KindPostman$Mind" "KINDS_OF_CHANGE" "[I" (.ref (xC X 1)) (xW X) s (xG X) ∧ va_Z "java/lang/String" "COMPACT_STRINGS" "Z" (.int 1) (xW X) s (xG X) ∧
  (rnSs X 3 4 s ∧ rnSs X 5 6 s) ∧ vk_R "KindPostman$Tokens" 44 ";+-*/()<=>" (xC X 3) s ∧ vk_R "KindPostman$Tokens" 55 "opens gives tires when or and not kind much age face love purse health hunger hour rain day on to news bill kiss anger invitation text joke walk street " (xC X 5) s ∧ (∀ w ∈ lw_tbl, rnNest w = true → va_Nw w s) ∧ va_AO "KindPostman$World" s ∧ va_Z "jdk/internal/util/Preconditions" "SIOOBE_FORMATTER" "Ljava/util/function/BiFunction;" (va_rf (xF X)) (xW X) s (xG X)
theorem CX.warm {P : Px} {X : Wx} {s U : State} (hW : s.WarmedH U.vm) (h : CX P X s) : CX P X U := by
  have hv := hW.alike
  obtain ⟨h1, h2, h3, h4, h5, h6, ⟨⟨a1, a2, a3⟩, b1, b2, b3⟩, h8, h9, h10, h11, h12⟩ := h
  refine ⟨va_K.moved hv h1, fun j hj => (h2 j hj).moved hv, fun j hj => (h3 j hj).moved hv, va_Z.moved hv h4, va_Z.moved hv h5, va_Z.moved hv h6, ⟨⟨va_O.moved hv a1, va_OF.moved hv a2, va_OF.moved hv a3⟩, va_O.moved hv b1, va_OF.moved hv b2, va_OF.moved hv b3⟩, vk_R.warm hW h8, vk_R.warm hW h9, fun w hw hn => ?_, va_AO.moved hv h11, va_Z.moved hv h12⟩
  cases w <;> first | exact va_Nw.warmM hW (h10 _ hw hn) | exact va_Nw.warmF hW (h10 _ hw hn) | cases hn
/-- the words that stay, whatever has been resolved -/
def rnWs : List Cond := lw_tbl.filter goodWord
theorem rnWs_in {w : Cond} (h : w ∈ lw_tbl) (hg : goodWord w = true) : w ∈ rnWs := List.mem_filter.mpr ⟨h, hg⟩
/-- the machine's side of a method under way -/
def CT (P : Px) (X : Wx) (d : Nat) (K : Kx) (p : Program) (R : Room) (s : State) (m : MethodId) (args : Array Value) (meth : Method) (c : Code) : Prop :=
  p.tables.exec = Jvm.exec ∧ c.code = kCc K ∧ c.maxLocals = kML K ∧ meth.sig.returnType = kRt K ∧ meth.locks = false ∧ meth.name = (kNm K).name ∧ s.vm.findClass (rnOwn (kOc K)) = some m.cls ∧ (∀ w ∈ rnWs, w.before args s = true) ∧ d ≤ R.frames ∧ 32 * d ≤ R.locals ∧ CX P X s ∧ (∀ q : Nat, q < (xG X).size → s.heap[q]? = (xG X)[q]?) ∧ (xG X).size ≤ s.heap.size
def rI (o : Option Value) : Instr := match o with
  | none => .return_
  | some (.int _) => .ireturn
  | some _ => .areturn
def rst (X : Wx) (o : Option Value) : List Value := match o with
  | none => []
  | some v => [cv X v]
/-- what a method's answer must be like -/
def rnRet (K : Kx) (o : Option Value) : Prop := match o with
  | none => kRt K = none
  | some (.int v) => ∃ ty, kRt K = some ty ∧ narrow ty (.int v) = .int v
  | some (.ref _) => ∃ t, kRt K = some (.array t)
  | some _ => False
/-- from here the method comes to its return, with this answer and this heap -/
def RN (P : Px) (d : Nat) (K : Kx) (pc : Nat) (lv : List (Nat × Value)) (st : List Value) (σ : Sg) (r : Option Value × Sg) : Prop :=
  σ.2.2 ≤ r.2.2.2 ∧ ∀ (X : Wx) (p : Program) (l : Launch) (e : Env) (R : Room) (s : State) (m : MethodId) (args : Array Value) (below : List Frame) (meth : Method) (c : Code) (H : Heap) (locs : List Loc) (cells slots : Nat) (Q : State → Prop) (ls : Array Slot),
    CT P X d K p R s m args meth c → HW X σ H → va_S (xW X) (xG X) H locs → lv_has ls (kML K) (lv.map (cvq X)) → cells + r.2.2.2 ≤ R.cells + σ.2.2 → slots + rnSq r.2.2.2 ≤ R.slots + rnSq σ.2.2 →
    (∀ (H' : Heap) (locs' : List Loc) (cells' slots' : Nat) (pc' : Nat) (ls' : Array Slot), HW X r.2 H' → va_S (xW X) (xG X) H' locs' → cells' ≤ R.cells → slots' ≤ R.slots → decode (kCc K) pc' = .ok (rI r.1, 1) → rnRet K r.1 → W p l e R s m args below meth c H' locs' cells' slots' Q (F0 m pc' ls' (rst X r.1))) →
    W p l e R s m args below meth c H locs cells slots Q (F0 m pc ls (st.map (cv X)))
/-- the block's instructions as they are decoded, and where it ends -/
def rnHd (ops : List (Nat × Instr × Nat)) (e : Nat) : Nat := match ops with
  | [] => e
  | q :: _ => q.1
def rnDec (cc : ByteArray) : List (Nat × Instr × Nat) → Nat → Prop
  | [], _ => True
  | q :: ops, e => decode cc q.1 = .ok q.2 ∧ rnHd ops e = q.1 + q.2.2 ∧ rnDec cc ops e
def rnDecB (cc : ByteArray) : List (Nat × Instr × Nat) → Nat → Bool
  | [], _ => true
  | q :: ops, e => decide (decode cc q.1 = .ok q.2) && decide (rnHd ops e = q.1 + q.2.2) && rnDecB cc ops e
theorem rnDec_of {cc : ByteArray} : ∀ {ops : List (Nat × Instr × Nat)} {e : Nat}, rnDecB cc ops e = true → rnDec cc ops e
  | [], _, _ => trivial
  | q :: ops, e, h => by
    simp only [rnDecB, Bool.and_eq_true, decide_eq_true_eq] at h
    exact ⟨h.1.1, h.1.2, rnDec_of h.2⟩
def SB (P : Px) (d : Nat) (K : Kx) (ops : List (Nat × Instr × Nat)) (e : Nat) (lv : List (Nat × Value)) (st : List Value) (σ : Sg) (r : Option Value × Sg) : Prop := rnDec (kCc K) ops e → RN P d K (rnHd ops e) lv st σ r
end RnJ
section RnRows
variable {P : Px} {d : Nat} {K : Kx} {pc e : Nat} {ops : List (Nat × Instr × Nat)} {lv lv' : List (Nat × Value)} {st st' : List Value} {σ σ' : Sg} {r : Option Value × Sg}
theorem sb_in (ops : List (Nat × Instr × Nat)) (e : Nat) (h : rnDecB (kCc K) ops e = true) (k : SB P d K ops e lv st σ r) : RN P d K (rnHd ops e) lv st σ r := k (rnDec_of h)
theorem sb_end (k : RN P d K e lv st σ r) : SB P d K [] e lv st σ r := fun _ => k
/-- an instruction that touches locals and stack alone -/
theorem rn_pure {pc pc' : Nat} (h : ∀ (X : Wx) (p : Program) (l : Launch) (e : Env) (R : Room) (s : State) (m : MethodId) (args : Array Value) (below : List Frame) (meth : Method) (c : Code) (H : Heap) (locs : List Loc) (cells slots : Nat) (Q : State → Prop) (ls : Array Slot), CT P X d K p R s m args meth c → lv_has ls (kML K) (lv.map (cvq X)) →
      (∀ ls', lv_has ls' (kML K) (lv'.map (cvq X)) → W p l e R s m args below meth c H locs cells slots Q (F0 m pc' ls' (st'.map (cv X)))) → W p l e R s m args below meth c H locs cells slots Q (F0 m pc ls (st.map (cv X))))
    (k : RN P d K pc' lv' st' σ r) : RN P d K pc lv st σ r :=
  ⟨k.1, fun X p l e R s m args below meth c H locs cells slots Q ls hC hH hS hl h1 h2 hr => h X p l e R s m args below meth c H locs cells slots Q ls hC hl (fun ls' hl' => k.2 X p l e R s m args below meth c H locs cells slots Q ls' hC hH hS hl' h1 h2 hr)⟩
/-- an instruction that reads the heap -/
theorem rn_read {pc pc' : Nat} (h : ∀ (X : Wx) (p : Program) (l : Launch) (e : Env) (R : Room) (s : State) (m : MethodId) (args : Array Value) (below : List Frame) (meth : Method) (c : Code) (H : Heap) (locs : List Loc) (cells slots : Nat) (Q : State → Prop) (ls : Array Slot), CT P X d K p R s m args meth c → HW X σ H → va_S (xW X) (xG X) H locs → ls.size = kML K →
      W p l e R s m args below meth c H locs cells slots Q (F0 m pc' ls (st'.map (cv X))) → W p l e R s m args below meth c H locs cells slots Q (F0 m pc ls (st.map (cv X))))
    (k : RN P d K pc' lv st' σ r) : RN P d K pc lv st σ r :=
  ⟨k.1, fun X p l e R s m args below meth c H locs cells slots Q ls hC hH hS hl h1 h2 hr => h X p l e R s m args below meth c H locs cells slots Q ls hC hH hS hl.1 (k.2 X p l e R s m args below meth c H locs cells slots Q ls hC hH hS hl h1 h2 hr)⟩
/-- an instruction that writes the heap and makes nothing -/
theorem rn_write {pc pc' : Nat} (hn : σ'.2.2 = σ.2.2) (h : ∀ (X : Wx) (p : Program) (l : Launch) (e : Env) (R : Room) (s : State) (m : MethodId) (args : Array Value) (below : List Frame) (meth : Method) (c : Code) (H : Heap) (locs : List Loc) (cells slots : Nat) (Q : State → Prop) (ls : Array Slot), CT P X d K p R s m args meth c → HW X σ H → va_S (xW X) (xG X) H locs → ls.size = kML K →
      (∀ (H' : Heap) (locs' : List Loc), HW X σ' H' → va_S (xW X) (xG X) H' locs' → W p l e R s m args below meth c H' locs' cells slots Q (F0 m pc' ls (st'.map (cv X)))) → W p l e R s m args below meth c H locs cells slots Q (F0 m pc ls (st.map (cv X))))
    (k : RN P d K pc' lv st' σ' r) : RN P d K pc lv st σ r :=
  ⟨hn ▸ k.1, fun X p l e R s m args below meth c H locs cells slots Q ls hC hH hS hl h1 h2 hr => h X p l e R s m args below meth c H locs cells slots Q ls hC hH hS hl.1 (fun H' locs' hH' hS' => k.2 X p l e R s m args below meth c H' locs' cells slots Q ls hC hH' hS' hl (by rw [hn]; exact h1) (by rw [hn]; exact h2) hr)⟩
-- constants
theorem sb_iconst {n : Int} {v : Int32} (hv : Int32.ofInt n = v) (k : SB P d K ops e lv (.int v :: st) σ r) : SB P d K ((pc, .iconst n, 1) :: ops) e lv st σ r := fun h =>
  rn_pure (fun X p l e R s m args below meth c H locs cells slots Q ls hC hl kk => lv_iconst hC.1 hC.2.1 h.1 hv (h.2.1 ▸ kk ls hl)) (k h.2.2)
theorem sb_bipush {n : Int} {v : Int32} (hv : (Int8.ofInt n).toInt32 = v) (k : SB P d K ops e lv (.int v :: st) σ r) : SB P d K ((pc, .bipush n, 2) :: ops) e lv st σ r := fun h =>
  rn_pure (fun X p l e R s m args below meth c H locs cells slots Q ls hC hl kk => lv_bipush hC.1 hC.2.1 h.1 hv (h.2.1 ▸ kk ls hl)) (k h.2.2)
theorem sb_sipush {n : Int} {v : Int32} (hv : (Int16.ofInt n).toInt32 = v) (k : SB P d K ops e lv (.int v :: st) σ r) : SB P d K ((pc, .sipush n, 3) :: ops) e lv st σ r := fun h =>
  rn_pure (fun X p l e R s m args below meth c H locs cells slots Q ls hC hl kk => lv_sipush hC.1 hC.2.1 h.1 hv (h.2.1 ▸ kk ls hl)) (k h.2.2)
theorem sb_lconst {n : Fin 2} {v : Int64} (hv : Int64.ofNat (n : Nat) = v) (k : SB P d K ops e lv (.long v :: st) σ r) : SB P d K ((pc, .lconst n, 1) :: ops) e lv st σ r := fun h =>
  rn_pure (fun X p l e R s m args below meth c H locs cells slots Q ls hC hl kk => lv_lconst hC.1 hC.2.1 h.1 hv (h.2.1 ▸ kk ls hl)) (k h.2.2)
theorem sb_ldc {i : Nat} {v : Int32} (hv : rnC (kOc K) i = some v) (k : SB P d K ops e lv (.int v :: st) σ r) : SB P d K ((pc, .ldc i, 2) :: ops) e lv st σ r := fun h =>
  rn_pure (fun X p l e R s m args below meth c H locs cells slots Q ls hC hl kk => W.ldc (own := rnOwn (kOc K)) hC.1 hC.2.1 hC.2.2.2.2.2.2.1 (hC.2.2.2.2.2.2.2.1 _ (rnWs_in (rnC_ok hv) rfl)) rfl h.1 (h.2.1 ▸ kk ls hl)) (k h.2.2)
end RnRows
