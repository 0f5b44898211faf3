section RnRows1
variable {P : Px} {d : Nat} {K : Kx} {pc e : Nat} {ops : List (Nat × Instr × Nat)} {lv lv2 : List (Nat × Value)} {st st2 : List Value} {σ σ2 : Sg} {r : Option Value × Sg}
/-- a local's value -/
def lvG : List (Nat × Value) → Nat → Option Value
  | [], _ => none
  | q :: l, i => match Nat.beq q.1 i with
    | true => some q.2
    | false => lvG l i
/-- a local gets a value -/
def lvS : List (Nat × Value) → Nat → Value → List (Nat × Value)
  | [], i, v => [(i, v)]
  | q :: l, i, v => match Nat.beq q.1 i with
    | true => (i, v) :: l
    | false => q :: lvS l i v
/-- no long stands just ahead -/
def lvF : List (Nat × Value) → Nat → Bool
  | [], _ => true
  | q :: l, i => !(Nat.beq (q.1 + 1) i && Nat.beq q.2.category 2) && lvF l i
/-- each local stands once -/
def lvN : List (Nat × Value) → Nat → Bool
  | [], _ => true
  | q :: l, i => !(Nat.beq q.1 i) && lvN l i
def lvU : List (Nat × Value) → Bool
  | [] => true
  | q :: l => lvN l q.1 && lvU l
def lvP (lv : List (Nat × Value)) : List Nat → Option (List (Nat × Value))
  | [] => some []
  | i :: is => match lvG lv i, lvP lv is with
    | some v, some l => some ((i, v) :: l)
    | _, _ => none
theorem lvG_mem : ∀ {lv : List (Nat × Value)} {i : Nat} {v : Value}, lvG lv i = some v → (i, v) ∈ lv
  | [], _, _, h => by cases h
  | q :: l, i, v, h => by
    unfold lvG at h
    cases hb : Nat.beq q.1 i with
    | true =>
      rw [hb] at h
      have e := Nat.eq_of_beq_eq_true hb
      cases h
      rw [← e]
      exact List.mem_cons_self
    | false =>
      rw [hb] at h
      exact List.mem_cons_of_mem _ (lvG_mem h)
theorem lvS_mem : ∀ {lv : List (Nat × Value)} {i : Nat} {v : Value}, lvU lv = true → ∀ q ∈ lvS lv i v, q = (i, v) ∨ (q ∈ lv ∧ q.1 ≠ i)
  | [], i, v, _, q, h => by
    unfold lvS at h
    exact Or.inl (List.mem_singleton.mp h)
  | p :: l, i, v, hu, q, h => by
    unfold lvU at hu
    simp only [Bool.and_eq_true] at hu
    unfold lvS at h
    cases hb : Nat.beq p.1 i with
    | true =>
      rw [hb] at h
      have e := Nat.eq_of_beq_eq_true hb
      rcases List.mem_cons.mp h with h | h
      · exact Or.inl h
      · exact Or.inr ⟨List.mem_cons_of_mem _ h, fun he => lvN_ne hu.1 q h (he.trans e.symm)⟩
    | false =>
      rw [hb] at h
      rcases List.mem_cons.mp h with h | h
      · subst h
        exact Or.inr ⟨List.mem_cons_self, Nat.ne_of_beq_eq_false hb⟩
      · rcases lvS_mem hu.2 q h with h | h
        · exact Or.inl h
        · exact Or.inr ⟨List.mem_cons_of_mem _ h.1, h.2⟩
where lvN_ne : ∀ {l : List (Nat × Value)} {i : Nat}, lvN l i = true → ∀ q ∈ l, q.1 ≠ i
  | [], _, _, q, h => by cases h
  | p :: l, i, hn, q, h => by
    unfold lvN at hn
    simp only [Bool.and_eq_true, Bool.not_eq_true'] at hn
    rcases List.mem_cons.mp h with h | h
    · subst h
      exact Nat.ne_of_beq_eq_false hn.1
    · exact lvN_ne hn.2 q h
theorem lvF_all : ∀ {lv : List (Nat × Value)} {i : Nat}, lvF lv i = true → ∀ q ∈ lv, ¬ (q.1 + 1 = i ∧ q.2.category = 2)
  | [], _, _, q, h => by cases h
  | p :: l, i, hf, q, h => by
    unfold lvF at hf
    simp only [Bool.and_eq_true, Bool.not_eq_true'] at hf
    rcases List.mem_cons.mp h with h | h
    · subst h
      intro hh
      have h1 : Nat.beq (q.1 + 1) i = true := by rw [hh.1]; exact Nat.beq_refl i
      have h2 : Nat.beq q.2.category 2 = true := by rw [hh.2]; rfl
      rw [h1, h2] at hf
      exact absurd hf.1 (by decide)
    · exact lvF_all hf.2 q h
theorem lvP_mem : ∀ {is : List Nat} {lv l2 : List (Nat × Value)}, lvP lv is = some l2 → ∀ q ∈ l2, q ∈ lv
  | [], lv, l2, h, q, hq => by cases h; cases hq
  | i :: is, lv, l2, h, q, hq => by
    unfold lvP at h
    cases h1 : lvG lv i with
    | none => rw [h1] at h; cases h
    | some v =>
      cases h2 : lvP lv is with
      | none => rw [h1, h2] at h; cases h
      | some l =>
        rw [h1, h2] at h
        cases h
        rcases List.mem_cons.mp hq with hq | hq
        · subst hq; exact lvG_mem h1
        · exact lvP_mem h2 q hq
theorem lv_get {ls : Array Slot} {n : Nat} {X : Wx} {lv : List (Nat × Value)} (h : lv_has ls n (lv.map (cvq X))) {i : Nat} {v : Value} (hv : lvG lv i = some v) : ls[i]? = some (.val (cv X v)) :=
  h.2.2 (i, cv X v) (List.mem_map.mpr ⟨(i, v), lvG_mem hv, rfl⟩)
theorem lv_weak {ls : Array Slot} {n : Nat} {X : Wx} {lv l2 : List (Nat × Value)} (h : lv_has ls n (lv.map (cvq X))) (hs : ∀ q ∈ l2, q ∈ lv) : lv_has ls n (l2.map (cvq X)) :=
  ⟨h.1, h.2.1, fun q hq => by
    obtain ⟨p, hp, e⟩ := List.mem_map.mp hq
    exact h.2.2 q (List.mem_map.mpr ⟨p, hs p hp, e⟩)⟩
theorem lv_st1 {ls : Array Slot} {n : Nat} {X : Wx} {lv : List (Nat × Value)} {i : Nat} {v : Value} (hu : lvU lv = true) (hf : lvF lv i = true) (h : lv_has ls n ((i, cv X v) :: (lv.map (cvq X)).filter (fun q => !(q.1 == i) && !(q.1 + 1 == i && q.2.category == 2)))) : lv_has ls n ((lvS lv i v).map (cvq X)) := by
  refine ⟨h.1, h.2.1, fun q hq => ?_⟩
  obtain ⟨p, hp, e⟩ := List.mem_map.mp hq
  subst e
  rcases lvS_mem hu p hp with e | ⟨hp, hne⟩
  · subst e
    exact h.2.2 _ List.mem_cons_self
  · refine h.2.2 _ (List.mem_cons_of_mem _ (List.mem_filter.mpr ⟨List.mem_map.mpr ⟨p, hp, rfl⟩, ?_⟩))
    have h1 := lvF_all hf p hp
    have h2 : (cvq X p).2.category = p.2.category := cv_cat X p.2
    show (!(p.1 == i) && !(p.1 + 1 == i && (cvq X p).2.category == 2)) = true
    rw [h2]
    simp only [Bool.and_eq_true, Bool.not_eq_true', beq_eq_false_iff_ne, ne_eq, Bool.and_eq_false_iff]
    refine ⟨hne, ?_⟩
    by_cases h3 : p.1 + 1 = i
    · exact Or.inr (fun h4 => h1 ⟨h3, h4⟩)
    · exact Or.inl h3
theorem lv_st2 {ls : Array Slot} {n : Nat} {X : Wx} {lv : List (Nat × Value)} {i : Nat} {v : Value} (hu : lvU lv = true) (hf : lvF lv i = true) (hn : lvN lv (i + 1) = true) (h : lv_has ls n ((i, cv X v) :: (lv.map (cvq X)).filter (fun q => !(q.1 == i) && (!(q.1 == i + 1) && !(q.1 + 1 == i && q.2.category == 2))))) : lv_has ls n ((lvS lv i v).map (cvq X)) := by
  refine ⟨h.1, h.2.1, fun q hq => ?_⟩
  obtain ⟨p, hp, e⟩ := List.mem_map.mp hq
  subst e
  rcases lvS_mem hu p hp with e | ⟨hp, hne⟩
  · subst e
    exact h.2.2 _ List.mem_cons_self
  · refine h.2.2 _ (List.mem_cons_of_mem _ (List.mem_filter.mpr ⟨List.mem_map.mpr ⟨p, hp, rfl⟩, ?_⟩))
    have h1 := lvF_all hf p hp
    have h4 := lvS_mem.lvN_ne hn p hp
    have h2 : (cvq X p).2.category = p.2.category := cv_cat X p.2
    show (!(p.1 == i) && (!(p.1 == i + 1) && !(p.1 + 1 == i && (cvq X p).2.category == 2))) = true
    rw [h2]
    simp only [Bool.and_eq_true, Bool.not_eq_true', beq_eq_false_iff_ne, ne_eq, Bool.and_eq_false_iff]
    refine ⟨hne, h4, ?_⟩
    by_cases h3 : p.1 + 1 = i
    · exact Or.inr (fun h4 => h1 ⟨h3, h4⟩)
    · exact Or.inl h3
/-- fewer locals -/
theorem rn_sub (is : List Nat) (h : lvP lv is = some lv2) (k : RN P d K pc lv2 st σ r) : RN P d K pc lv st σ r :=
  rn_pure (fun X p l e R s m args below meth c H locs cells slots Q ls hC hl kk => kk ls (lv_weak hl (lvP_mem h))) k

theorem sb_iadd {x y : Int32} (k : SB P d K ops e lv (.int (x + y) :: st) σ r) : SB P d K ((pc, .iadd, 1) :: ops) e lv (.int y :: .int x :: st) σ r := fun h =>
  rn_pure (fun X p l e R s m args below meth c H locs cells slots Q ls hC hl kk => lv_iadd hC.1 hC.2.1 h.1 (h.2.1 ▸ kk ls hl)) (k h.2.2)
theorem sb_isub {x y : Int32} (k : SB P d K ops e lv (.int (x - y) :: st) σ r) : SB P d K ((pc, .isub, 1) :: ops) e lv (.int y :: .int x :: st) σ r := fun h =>
  rn_pure (fun X p l e R s m args below meth c H locs cells slots Q ls hC hl kk => lv_isub hC.1 hC.2.1 h.1 (h.2.1 ▸ kk ls hl)) (k h.2.2)
theorem sb_imul {x y : Int32} (k : SB P d K ops e lv (.int (x * y) :: st) σ r) : SB P d K ((pc, .imul, 1) :: ops) e lv (.int y :: .int x :: st) σ r := fun h =>
  rn_pure (fun X p l e R s m args below meth c H locs cells slots Q ls hC hl kk => lv_imul hC.1 hC.2.1 h.1 (h.2.1 ▸ kk ls hl)) (k h.2.2)
theorem sb_iand {x y : Int32} (k : SB P d K ops e lv (.int (x &&& y) :: st) σ r) : SB P d K ((pc, .iand, 1) :: ops) e lv (.int y :: .int x :: st) σ r := fun h =>
  rn_pure (fun X p l e R s m args below meth c H locs cells slots Q ls hC hl kk => lv_iand hC.1 hC.2.1 h.1 (h.2.1 ▸ kk ls hl)) (k h.2.2)
theorem sb_ior {x y : Int32} (k : SB P d K ops e lv (.int (x ||| y) :: st) σ r) : SB P d K ((pc, .ior, 1) :: ops) e lv (.int y :: .int x :: st) σ r := fun h =>
  rn_pure (fun X p l e R s m args below meth c H locs cells slots Q ls hC hl kk => lv_ior hC.1 hC.2.1 h.1 (h.2.1 ▸ kk ls hl)) (k h.2.2)
theorem sb_ixor {x y : Int32} (k : SB P d K ops e lv (.int (x ^^^ y) :: st) σ r) : SB P d K ((pc, .ixor, 1) :: ops) e lv (.int y :: .int x :: st) σ r := fun h =>
  rn_pure (fun X p l e R s m args below meth c H locs cells slots Q ls hC hl kk => lv_ixor hC.1 hC.2.1 h.1 (h.2.1 ▸ kk ls hl)) (k h.2.2)
theorem sb_ishl {x y : Int32} (k : SB P d K ops e lv (.int (x <<< (y &&& 31)) :: st) σ r) : SB P d K ((pc, .ishl, 1) :: ops) e lv (.int y :: .int x :: st) σ r := fun h =>
  rn_pure (fun X p l e R s m args below meth c H locs cells slots Q ls hC hl kk => lv_ishl hC.1 hC.2.1 h.1 (h.2.1 ▸ kk ls hl)) (k h.2.2)
theorem sb_ishr {x y : Int32} (k : SB P d K ops e lv (.int (x >>> (y &&& 31)) :: st) σ r) : SB P d K ((pc, .ishr, 1) :: ops) e lv (.int y :: .int x :: st) σ r := fun h =>
  rn_pure (fun X p l e R s m args below meth c H locs cells slots Q ls hC hl kk => lv_ishr hC.1 hC.2.1 h.1 (h.2.1 ▸ kk ls hl)) (k h.2.2)
theorem sb_ladd {x y : Int64} (k : SB P d K ops e lv (.long (x + y) :: st) σ r) : SB P d K ((pc, .ladd, 1) :: ops) e lv (.long y :: .long x :: st) σ r := fun h =>
  rn_pure (fun X p l e R s m args below meth c H locs cells slots Q ls hC hl kk => lv_ladd hC.1 hC.2.1 h.1 (h.2.1 ▸ kk ls hl)) (k h.2.2)
theorem sb_lsub {x y : Int64} (k : SB P d K ops e lv (.long (x - y) :: st) σ r) : SB P d K ((pc, .lsub, 1) :: ops) e lv (.long y :: .long x :: st) σ r := fun h =>
  rn_pure (fun X p l e R s m args below meth c H locs cells slots Q ls hC hl kk => lv_lsub hC.1 hC.2.1 h.1 (h.2.1 ▸ kk ls hl)) (k h.2.2)
theorem sb_lmul {x y : Int64} (k : SB P d K ops e lv (.long (x * y) :: st) σ r) : SB P d K ((pc, .lmul, 1) :: ops) e lv (.long y :: .long x :: st) σ r := fun h =>
  rn_pure (fun X p l e R s m args below meth c H locs cells slots Q ls hC hl kk => lv_lmul hC.1 hC.2.1 h.1 (h.2.1 ▸ kk ls hl)) (k h.2.2)
theorem sb_idiv {x y : Int32} (hy : ¬ y = 0) (k : SB P d K ops e lv (.int (x / y) :: st) σ r) : SB P d K ((pc, .idiv, 1) :: ops) e lv (.int y :: .int x :: st) σ r := fun h =>
  rn_pure (fun X p l e R s m args below meth c H locs cells slots Q ls hC hl kk => lv_idiv hC.1 hC.2.1 h.1 hy (h.2.1 ▸ kk ls hl)) (k h.2.2)
theorem sb_irem {x y : Int32} (hy : ¬ y = 0) (k : SB P d K ops e lv (.int (x - x / y * y) :: st) σ r) : SB P d K ((pc, .irem, 1) :: ops) e lv (.int y :: .int x :: st) σ r := fun h =>
  rn_pure (fun X p l e R s m args below meth c H locs cells slots Q ls hC hl kk => lv_irem hC.1 hC.2.1 h.1 hy (h.2.1 ▸ kk ls hl)) (k h.2.2)
theorem sb_iushr {x y : Int32} (k : SB P d K ops e lv (.int (x.toUInt32 >>> (y.toUInt32 &&& Int32.toUInt32 31)).toInt32 :: st) σ r) : SB P d K ((pc, .iushr, 1) :: ops) e lv (.int y :: .int x :: st) σ r := fun h =>
  rn_pure (fun X p l e R s m args below meth c H locs cells slots Q ls hC hl kk => lv_iushr hC.1 hC.2.1 h.1 rfl (h.2.1 ▸ kk ls hl)) (k h.2.2)
theorem sb_lshl {x : Int64} {y : Int32} (k : SB P d K ops e lv (.long (x <<< (y.toInt64 &&& 63)) :: st) σ r) : SB P d K ((pc, .lshl, 1) :: ops) e lv (.int y :: .long x :: st) σ r := fun h =>
  rn_pure (fun X p l e R s m args below meth c H locs cells slots Q ls hC hl kk => lv_lshl hC.1 hC.2.1 h.1 rfl (h.2.1 ▸ kk ls hl)) (k h.2.2)
theorem sb_lcmp {x y : Int64} (k : SB P d K ops e lv (.int (lg_cmp x y) :: st) σ r) : SB P d K ((pc, .lcmp, 1) :: ops) e lv (.long y :: .long x :: st) σ r := fun h =>
  rn_pure (fun X p l e R s m args below meth c H locs cells slots Q ls hC hl kk => W.lcmp hC.1 hC.2.1 h.1 (h.2.1 ▸ kk ls hl)) (k h.2.2)
theorem sb_i2l {x : Int32} (k : SB P d K ops e lv (.long x.toInt64 :: st) σ r) : SB P d K ((pc, .i2l, 1) :: ops) e lv (.int x :: st) σ r := fun h =>
  rn_pure (fun X p l e R s m args below meth c H locs cells slots Q ls hC hl kk => lv_i2l hC.1 hC.2.1 h.1 rfl (h.2.1 ▸ kk ls hl)) (k h.2.2)
theorem sb_i2b {x : Int32} (k : SB P d K ops e lv (.int x.toInt8.toInt32 :: st) σ r) : SB P d K ((pc, .i2b, 1) :: ops) e lv (.int x :: st) σ r := fun h =>
  rn_pure (fun X p l e R s m args below meth c H locs cells slots Q ls hC hl kk => lv_i2b hC.1 hC.2.1 h.1 rfl (h.2.1 ▸ kk ls hl)) (k h.2.2)
theorem sb_i2c {x : Int32} (k : SB P d K ops e lv (.int (x.toUInt32 % 65536).toInt32 :: st) σ r) : SB P d K ((pc, .i2c, 1) :: ops) e lv (.int x :: st) σ r := fun h =>
  rn_pure (fun X p l e R s m args below meth c H locs cells slots Q ls hC hl kk => lv_i2c hC.1 hC.2.1 h.1 rfl (h.2.1 ▸ kk ls hl)) (k h.2.2)
theorem sb_dup {v : Value} (hv : v.category = 1) (k : SB P d K ops e lv (v :: v :: st) σ r) : SB P d K ((pc, .dup, 1) :: ops) e lv (v :: st) σ r := fun h =>
  rn_pure (fun X p l e R s m args below meth c H locs cells slots Q ls hC hl kk => lv_dup hC.1 hC.2.1 h.1 ((cv_cat X v).trans hv) (h.2.1 ▸ kk ls hl)) (k h.2.2)
theorem sb_pop {v : Value} (hv : v.category = 1) (k : SB P d K ops e lv st σ r) : SB P d K ((pc, .pop, 1) :: ops) e lv (v :: st) σ r := fun h =>
  rn_pure (fun X p l e R s m args below meth c H locs cells slots Q ls hC hl kk => lv_pop hC.1 hC.2.1 h.1 ((cv_cat X v).trans hv) (h.2.1 ▸ kk ls hl)) (k h.2.2)
theorem sb_dup2 {v u : Value} (hv : v.category = 1) (hu : u.category = 1) (k : SB P d K ops e lv (v :: u :: v :: u :: st) σ r) : SB P d K ((pc, .dup2, 1) :: ops) e lv (v :: u :: st) σ r := fun h =>
  rn_pure (fun X p l e R s m args below meth c H locs cells slots Q ls hC hl kk => lv_dup2_11 hC.1 hC.2.1 h.1 ((cv_cat X v).trans hv) ((cv_cat X u).trans hu) (h.2.1 ▸ kk ls hl)) (k h.2.2)
theorem sb_iload_n {j : Fin 4} {x : Int32} (hx : lvG lv (j : Nat) = some (.int x)) (k : SB P d K ops e lv (.int x :: st) σ r) : SB P d K ((pc, .iload_n j, 1) :: ops) e lv st σ r := fun h =>
  rn_pure (fun X p l e R s m args below meth c H locs cells slots Q ls hC hl kk => lv_iload_n hC.1 hC.2.1 h.1 rfl (lv_get hl hx) (h.2.1 ▸ kk ls hl)) (k h.2.2)
theorem sb_iload {j : Nat} {x : Int32} (hx : lvG lv j = some (.int x)) (k : SB P d K ops e lv (.int x :: st) σ r) : SB P d K ((pc, .iload j, 2) :: ops) e lv st σ r := fun h =>
  rn_pure (fun X p l e R s m args below meth c H locs cells slots Q ls hC hl kk => lv_iload hC.1 hC.2.1 h.1 (lv_get hl hx) (h.2.1 ▸ kk ls hl)) (k h.2.2)
theorem sb_lload_n {j : Fin 4} {x : Int64} (hx : lvG lv (j : Nat) = some (.long x)) (k : SB P d K ops e lv (.long x :: st) σ r) : SB P d K ((pc, .lload_n j, 1) :: ops) e lv st σ r := fun h =>
  rn_pure (fun X p l e R s m args below meth c H locs cells slots Q ls hC hl kk => lv_lload_n hC.1 hC.2.1 h.1 rfl (lv_get hl hx) (h.2.1 ▸ kk ls hl)) (k h.2.2)
theorem sb_lload {j : Nat} {x : Int64} (hx : lvG lv j = some (.long x)) (k : SB P d K ops e lv (.long x :: st) σ r) : SB P d K ((pc, .lload j, 2) :: ops) e lv st σ r := fun h =>
  rn_pure (fun X p l e R s m args below meth c H locs cells slots Q ls hC hl kk => lv_lload hC.1 hC.2.1 h.1 (lv_get hl hx) (h.2.1 ▸ kk ls hl)) (k h.2.2)
theorem sb_aload_n {j : Fin 4} {x : Nat} (hx : lvG lv (j : Nat) = some (.ref x)) (k : SB P d K ops e lv (.ref x :: st) σ r) : SB P d K ((pc, .aload_n j, 1) :: ops) e lv st σ r := fun h =>
  rn_pure (fun X p l e R s m args below meth c H locs cells slots Q ls hC hl kk => lv_aload_n hC.1 hC.2.1 h.1 rfl (lv_get hl hx) (h.2.1 ▸ kk ls hl)) (k h.2.2)
theorem sb_aload {j : Nat} {x : Nat} (hx : lvG lv j = some (.ref x)) (k : SB P d K ops e lv (.ref x :: st) σ r) : SB P d K ((pc, .aload j, 2) :: ops) e lv st σ r := fun h =>
  rn_pure (fun X p l e R s m args below meth c H locs cells slots Q ls hC hl kk => lv_aload hC.1 hC.2.1 h.1 (lv_get hl hx) (h.2.1 ▸ kk ls hl)) (k h.2.2)
theorem sb_istore_n {j : Fin 4} {x : Int32} (hj : (j : Nat) < kML K) (hu : (lvU lv && lvF lv (j : Nat)) = true) (k : SB P d K ops e (lvS lv (j : Nat) (.int x)) st σ r) : SB P d K ((pc, .istore_n j, 1) :: ops) e lv (.int x :: st) σ r := fun h =>
  rn_pure (fun X p l e R s m args below meth c H locs cells slots Q ls hC hl kk => lv_istore_n (lv' := _) hC.1 hC.2.1 h.1 rfl hl hj rfl (fun ls' hl' => h.2.1 ▸ kk ls' (lv_st1 (v := .int x) (Bool.and_eq_true_iff.mp hu).1 (Bool.and_eq_true_iff.mp hu).2 hl'))) (k h.2.2)
theorem sb_istore {j : Nat} {x : Int32} (hj : j < kML K) (hu : (lvU lv && lvF lv j) = true) (k : SB P d K ops e (lvS lv j (.int x)) st σ r) : SB P d K ((pc, .istore j, 2) :: ops) e lv (.int x :: st) σ r := fun h =>
  rn_pure (fun X p l e R s m args below meth c H locs cells slots Q ls hC hl kk => lv_istore (lv' := _) hC.1 hC.2.1 h.1 hl hj rfl (fun ls' hl' => h.2.1 ▸ kk ls' (lv_st1 (v := .int x) (Bool.and_eq_true_iff.mp hu).1 (Bool.and_eq_true_iff.mp hu).2 hl'))) (k h.2.2)
theorem sb_astore_n {j : Fin 4} {x : Nat} (hj : (j : Nat) < kML K) (hu : (lvU lv && lvF lv (j : Nat)) = true) (k : SB P d K ops e (lvS lv (j : Nat) (.ref x)) st σ r) : SB P d K ((pc, .astore_n j, 1) :: ops) e lv (.ref x :: st) σ r := fun h =>
  rn_pure (fun X p l e R s m args below meth c H locs cells slots Q ls hC hl kk => lv_astore_n (lv' := _) hC.1 hC.2.1 h.1 rfl hl hj rfl (fun ls' hl' => h.2.1 ▸ kk ls' (lv_st1 (v := .ref x) (Bool.and_eq_true_iff.mp hu).1 (Bool.and_eq_true_iff.mp hu).2 hl'))) (k h.2.2)
theorem sb_astore {j : Nat} {x : Nat} (hj : j < kML K) (hu : (lvU lv && lvF lv j) = true) (k : SB P d K ops e (lvS lv j (.ref x)) st σ r) : SB P d K ((pc, .astore j, 2) :: ops) e lv (.ref x :: st) σ r := fun h =>
  rn_pure (fun X p l e R s m args below meth c H locs cells slots Q ls hC hl kk => lv_astore (lv' := _) hC.1 hC.2.1 h.1 hl hj rfl (fun ls' hl' => h.2.1 ▸ kk ls' (lv_st1 (v := .ref x) (Bool.and_eq_true_iff.mp hu).1 (Bool.and_eq_true_iff.mp hu).2 hl'))) (k h.2.2)
theorem sb_lstore_n {j : Fin 4} {x : Int64} (hj : (j : Nat) + 1 < kML K) (hu : ((lvU lv && lvF lv (j : Nat)) && lvN lv ((j : Nat) + 1)) = true) (k : SB P d K ops e (lvS lv (j : Nat) (.long x)) st σ r) : SB P d K ((pc, .lstore_n j, 1) :: ops) e lv (.long x :: st) σ r := fun h =>
  rn_pure (fun X p l e R s m args below meth c H locs cells slots Q ls hC hl kk => lv_lstore_n (lv' := _) hC.1 hC.2.1 h.1 rfl hl hj rfl (fun ls' hl' => h.2.1 ▸ kk ls' (lv_st2 (v := .long x) (Bool.and_eq_true_iff.mp (Bool.and_eq_true_iff.mp hu).1).1 (Bool.and_eq_true_iff.mp (Bool.and_eq_true_iff.mp hu).1).2 (Bool.and_eq_true_iff.mp hu).2 hl'))) (k h.2.2)
theorem sb_lstore {j : Nat} {x : Int64} (hj : j + 1 < kML K) (hu : ((lvU lv && lvF lv j) && lvN lv (j + 1)) = true) (k : SB P d K ops e (lvS lv j (.long x)) st σ r) : SB P d K ((pc, .lstore j, 2) :: ops) e lv (.long x :: st) σ r := fun h =>
  rn_pure (fun X p l e R s m args below meth c H locs cells slots Q ls hC hl kk => lv_lstore (lv' := _) hC.1 hC.2.1 h.1 hl hj rfl (fun ls' hl' => h.2.1 ▸ kk ls' (lv_st2 (v := .long x) (Bool.and_eq_true_iff.mp (Bool.and_eq_true_iff.mp hu).1).1 (Bool.and_eq_true_iff.mp (Bool.and_eq_true_iff.mp hu).1).2 (Bool.and_eq_true_iff.mp hu).2 hl'))) (k h.2.2)
theorem sb_iinc {j : Nat} {n : Int} {x : Int32} (hx : lvG lv j = some (.int x)) (hj : j < kML K) (hu : (lvU lv && lvF lv j) = true) (k : SB P d K ops e (lvS lv j (.int (x + Int32.ofInt n))) st σ r) : SB P d K ((pc, .iinc j n, 3) :: ops) e lv st σ r := fun h =>
  rn_pure (fun X p l e R s m args below meth c H locs cells slots Q ls hC hl kk => by
    obtain ⟨i, hi⟩ := List.getElem?_of_mem (List.mem_map.mpr ⟨(j, .int x), lvG_mem hx, rfl⟩ : cvq X (j, .int x) ∈ lv.map (cvq X))
    exact lv_iinc (lv' := _) (k := i) hC.1 hC.2.1 h.1 hl hi rfl hj rfl (fun ls' hl' => h.2.1 ▸ kk ls' (lv_st1 (v := .int (x + Int32.ofInt n)) (Bool.and_eq_true_iff.mp hu).1 (Bool.and_eq_true_iff.mp hu).2 hl'))) (k h.2.2)
theorem sb_icmp_eq_t {x y : Int32} {off : Int} (tgt : Nat) (hc : x = y) (ht : (pc : Int) + off = (tgt : Int)) (k : RN P d K tgt lv st σ r) : SB P d K [(pc, .if_icmp .eq off, 3)] e lv (.int y :: .int x :: st) σ r := fun h =>
  rn_pure (fun X p l e R s m args below meth c H locs cells slots Q ls hC hl kk => lv_icmp_eq hC.1 hC.2.1 h.1 ht (fun _ => kk ls hl) (fun z => absurd hc z)) k
theorem sb_icmp_eq_f {x y : Int32} {off : Int} (tgt : Nat) (hc : ¬ x = y) (ht : (pc : Int) + off = (tgt : Int)) (k : RN P d K e lv st σ r) : SB P d K [(pc, .if_icmp .eq off, 3)] e lv (.int y :: .int x :: st) σ r := fun h =>
  rn_pure (fun X p l e R s m args below meth c H locs cells slots Q ls hC hl kk => lv_icmp_eq hC.1 hC.2.1 h.1 ht (fun z => absurd z hc) (fun _ => h.2.1 ▸ kk ls hl)) k
theorem sb_if_eq_t {x : Int32} {off : Int} (tgt : Nat) (hc : x = 0) (ht : (pc : Int) + off = (tgt : Int)) (k : RN P d K tgt lv st σ r) : SB P d K [(pc, .ifCond .eq off, 3)] e lv (.int x :: st) σ r := fun h =>
  rn_pure (fun X p l e R s m args below meth c H locs cells slots Q ls hC hl kk => lv_if_eq hC.1 hC.2.1 h.1 ht (fun _ => kk ls hl) (fun z => absurd hc z)) k
theorem sb_if_eq_f {x : Int32} {off : Int} (tgt : Nat) (hc : ¬ x = 0) (ht : (pc : Int) + off = (tgt : Int)) (k : RN P d K e lv st σ r) : SB P d K [(pc, .ifCond .eq off, 3)] e lv (.int x :: st) σ r := fun h =>
  rn_pure (fun X p l e R s m args below meth c H locs cells slots Q ls hC hl kk => lv_if_eq hC.1 hC.2.1 h.1 ht (fun z => absurd z hc) (fun _ => h.2.1 ▸ kk ls hl)) k
theorem sb_icmp_ne_t {x y : Int32} {off : Int} (tgt : Nat) (hc : ¬ x = y) (ht : (pc : Int) + off = (tgt : Int)) (k : RN P d K tgt lv st σ r) : SB P d K [(pc, .if_icmp .ne off, 3)] e lv (.int y :: .int x :: st) σ r := fun h =>
  rn_pure (fun X p l e R s m args below meth c H locs cells slots Q ls hC hl kk => lv_icmp_ne hC.1 hC.2.1 h.1 ht (fun _ => kk ls hl) (fun z => absurd z hc)) k
theorem sb_icmp_ne_f {x y : Int32} {off : Int} (tgt : Nat) (hc : x = y) (ht : (pc : Int) + off = (tgt : Int)) (k : RN P d K e lv st σ r) : SB P d K [(pc, .if_icmp .ne off, 3)] e lv (.int y :: .int x :: st) σ r := fun h =>
  rn_pure (fun X p l e R s m args below meth c H locs cells slots Q ls hC hl kk => lv_icmp_ne hC.1 hC.2.1 h.1 ht (fun z => absurd hc z) (fun _ => h.2.1 ▸ kk ls hl)) k
theorem sb_if_ne_t {x : Int32} {off : Int} (tgt : Nat) (hc : ¬ x = 0) (ht : (pc : Int) + off = (tgt : Int)) (k : RN P d K tgt lv st σ r) : SB P d K [(pc, .ifCond .ne off, 3)] e lv (.int x :: st) σ r := fun h =>
  rn_pure (fun X p l e R s m args below meth c H locs cells slots Q ls hC hl kk => lv_if_ne hC.1 hC.2.1 h.1 ht (fun _ => kk ls hl) (fun z => absurd z hc)) k
theorem sb_if_ne_f {x : Int32} {off : Int} (tgt : Nat) (hc : x = 0) (ht : (pc : Int) + off = (tgt : Int)) (k : RN P d K e lv st σ r) : SB P d K [(pc, .ifCond .ne off, 3)] e lv (.int x :: st) σ r := fun h =>
  rn_pure (fun X p l e R s m args below meth c H locs cells slots Q ls hC hl kk => lv_if_ne hC.1 hC.2.1 h.1 ht (fun z => absurd hc z) (fun _ => h.2.1 ▸ kk ls hl)) k
theorem sb_icmp_lt_t {x y : Int32} {off : Int} (tgt : Nat) (hc : x < y) (ht : (pc : Int) + off = (tgt : Int)) (k : RN P d K tgt lv st σ r) : SB P d K [(pc, .if_icmp .lt off, 3)] e lv (.int y :: .int x :: st) σ r := fun h =>
  rn_pure (fun X p l e R s m args below meth c H locs cells slots Q ls hC hl kk => lv_icmp_lt hC.1 hC.2.1 h.1 ht (fun _ => kk ls hl) (fun z => absurd hc z)) k
theorem sb_icmp_lt_f {x y : Int32} {off : Int} (tgt : Nat) (hc : ¬ x < y) (ht : (pc : Int) + off = (tgt : Int)) (k : RN P d K e lv st σ r) : SB P d K [(pc, .if_icmp .lt off, 3)] e lv (.int y :: .int x :: st) σ r := fun h =>
  rn_pure (fun X p l e R s m args below meth c H locs cells slots Q ls hC hl kk => lv_icmp_lt hC.1 hC.2.1 h.1 ht (fun z => absurd z hc) (fun _ => h.2.1 ▸ kk ls hl)) k
theorem sb_if_lt_t {x : Int32} {off : Int} (tgt : Nat) (hc : x < 0) (ht : (pc : Int) + off = (tgt : Int)) (k : RN P d K tgt lv st σ r) : SB P d K [(pc, .ifCond .lt off, 3)] e lv (.int x :: st) σ r := fun h =>
  rn_pure (fun X p l e R s m args below meth c H locs cells slots Q ls hC hl kk => lv_if_lt hC.1 hC.2.1 h.1 ht (fun _ => kk ls hl) (fun z => absurd hc z)) k
theorem sb_if_lt_f {x : Int32} {off : Int} (tgt : Nat) (hc : ¬ x < 0) (ht : (pc : Int) + off = (tgt : Int)) (k : RN P d K e lv st σ r) : SB P d K [(pc, .ifCond .lt off, 3)] e lv (.int x :: st) σ r := fun h =>
  rn_pure (fun X p l e R s m args below meth c H locs cells slots Q ls hC hl kk => lv_if_lt hC.1 hC.2.1 h.1 ht (fun z => absurd z hc) (fun _ => h.2.1 ▸ kk ls hl)) k
theorem sb_icmp_ge_t {x y : Int32} {off : Int} (tgt : Nat) (hc : y ≤ x) (ht : (pc : Int) + off = (tgt : Int)) (k : RN P d K tgt lv st σ r) : SB P d K [(pc, .if_icmp .ge off, 3)] e lv (.int y :: .int x :: st) σ r := fun h =>
  rn_pure (fun X p l e R s m args below meth c H locs cells slots Q ls hC hl kk => lv_icmp_ge hC.1 hC.2.1 h.1 ht (fun _ => kk ls hl) (fun z => absurd hc z)) k
theorem sb_icmp_ge_f {x y : Int32} {off : Int} (tgt : Nat) (hc : ¬ y ≤ x) (ht : (pc : Int) + off = (tgt : Int)) (k : RN P d K e lv st σ r) : SB P d K [(pc, .if_icmp .ge off, 3)] e lv (.int y :: .int x :: st) σ r := fun h =>
  rn_pure (fun X p l e R s m args below meth c H locs cells slots Q ls hC hl kk => lv_icmp_ge hC.1 hC.2.1 h.1 ht (fun z => absurd z hc) (fun _ => h.2.1 ▸ kk ls hl)) k
theorem sb_if_ge_t {x : Int32} {off : Int} (tgt : Nat) (hc : 0 ≤ x) (ht : (pc : Int) + off = (tgt : Int)) (k : RN P d K tgt lv st σ r) : SB P d K [(pc, .ifCond .ge off, 3)] e lv (.int x :: st) σ r := fun h =>
  rn_pure (fun X p l e R s m args below meth c H locs cells slots Q ls hC hl kk => lv_if_ge hC.1 hC.2.1 h.1 ht (fun _ => kk ls hl) (fun z => absurd hc z)) k
theorem sb_if_ge_f {x : Int32} {off : Int} (tgt : Nat) (hc : ¬ 0 ≤ x) (ht : (pc : Int) + off = (tgt : Int)) (k : RN P d K e lv st σ r) : SB P d K [(pc, .ifCond .ge off, 3)] e lv (.int x :: st) σ r := fun h =>
  rn_pure (fun X p l e R s m args below meth c H locs cells slots Q ls hC hl kk => lv_if_ge hC.1 hC.2.1 h.1 ht (fun z => absurd z hc) (fun _ => h.2.1 ▸ kk ls hl)) k
theorem sb_icmp_gt_t {x y : Int32} {off : Int} (tgt : Nat) (hc : y < x) (ht : (pc : Int) + off = (tgt : Int)) (k : RN P d K tgt lv st σ r) : SB P d K [(pc, .if_icmp .gt off, 3)] e lv (.int y :: .int x :: st) σ r := fun h =>
  rn_pure (fun X p l e R s m args below meth c H locs cells slots Q ls hC hl kk => lv_icmp_gt hC.1 hC.2.1 h.1 ht (fun _ => kk ls hl) (fun z => absurd hc z)) k
theorem sb_icmp_gt_f {x y : Int32} {off : Int} (tgt : Nat) (hc : ¬ y < x) (ht : (pc : Int) + off = (tgt : Int)) (k : RN P d K e lv st σ r) : SB P d K [(pc, .if_icmp .gt off, 3)] e lv (.int y :: .int x :: st) σ r := fun h =>
  rn_pure (fun X p l e R s m args below meth c H locs cells slots Q ls hC hl kk => lv_icmp_gt hC.1 hC.2.1 h.1 ht (fun z => absurd z hc) (fun _ => h.2.1 ▸ kk ls hl)) k
theorem sb_if_gt_t {x : Int32} {off : Int} (tgt : Nat) (hc : 0 < x) (ht : (pc : Int) + off = (tgt : Int)) (k : RN P d K tgt lv st σ r) : SB P d K [(pc, .ifCond .gt off, 3)] e lv (.int x :: st) σ r := fun h =>
  rn_pure (fun X p l e R s m args below meth c H locs cells slots Q ls hC hl kk => lv_if_gt hC.1 hC.2.1 h.1 ht (fun _ => kk ls hl) (fun z => absurd hc z)) k
theorem sb_if_gt_f {x : Int32} {off : Int} (tgt : Nat) (hc : ¬ 0 < x) (ht : (pc : Int) + off = (tgt : Int)) (k : RN P d K e lv st σ r) : SB P d K [(pc, .ifCond .gt off, 3)] e lv (.int x :: st) σ r := fun h =>
  rn_pure (fun X p l e R s m args below meth c H locs cells slots Q ls hC hl kk => lv_if_gt hC.1 hC.2.1 h.1 ht (fun z => absurd z hc) (fun _ => h.2.1 ▸ kk ls hl)) k
theorem sb_icmp_le_t {x y : Int32} {off : Int} (tgt : Nat) (hc : x ≤ y) (ht : (pc : Int) + off = (tgt : Int)) (k : RN P d K tgt lv st σ r) : SB P d K [(pc, .if_icmp .le off, 3)] e lv (.int y :: .int x :: st) σ r := fun h =>
  rn_pure (fun X p l e R s m args below meth c H locs cells slots Q ls hC hl kk => lv_icmp_le hC.1 hC.2.1 h.1 ht (fun _ => kk ls hl) (fun z => absurd hc z)) k
theorem sb_icmp_le_f {x y : Int32} {off : Int} (tgt : Nat) (hc : ¬ x ≤ y) (ht : (pc : Int) + off = (tgt : Int)) (k : RN P d K e lv st σ r) : SB P d K [(pc, .if_icmp .le off, 3)] e lv (.int y :: .int x :: st) σ r := fun h =>
  rn_pure (fun X p l e R s m args below meth c H locs cells slots Q ls hC hl kk => lv_icmp_le hC.1 hC.2.1 h.1 ht (fun z => absurd z hc) (fun _ => h.2.1 ▸ kk ls hl)) k
theorem sb_if_le_t {x : Int32} {off : Int} (tgt : Nat) (hc : x ≤ 0) (ht : (pc : Int) + off = (tgt : Int)) (k : RN P d K tgt lv st σ r) : SB P d K [(pc, .ifCond .le off, 3)] e lv (.int x :: st) σ r := fun h =>
  rn_pure (fun X p l e R s m args below meth c H locs cells slots Q ls hC hl kk => lv_if_le hC.1 hC.2.1 h.1 ht (fun _ => kk ls hl) (fun z => absurd hc z)) k
theorem sb_if_le_f {x : Int32} {off : Int} (tgt : Nat) (hc : ¬ x ≤ 0) (ht : (pc : Int) + off = (tgt : Int)) (k : RN P d K e lv st σ r) : SB P d K [(pc, .ifCond .le off, 3)] e lv (.int x :: st) σ r := fun h =>
  rn_pure (fun X p l e R s m args below meth c H locs cells slots Q ls hC hl kk => lv_if_le hC.1 hC.2.1 h.1 ht (fun z => absurd z hc) (fun _ => h.2.1 ▸ kk ls hl)) k
theorem sb_goto {off : Int} (tgt : Nat) (ht : (pc : Int) + off = (tgt : Int)) (k : RN P d K tgt lv st σ r) : SB P d K [(pc, .goto off, 3)] e lv st σ r := fun h =>
  rn_pure (fun X p l e R s m args below meth c H locs cells slots Q ls hC hl kk => lv_goto hC.1 hC.2.1 h.1 ht (kk ls hl)) k
/-- a switch: a case by its number -/
theorem sb_tsw_in {dflt lo hi : Int} {offs : Array Int} {len : Nat} {x : Int32} {off : Int} (v : Int32) (tgt : Nat) (hx : x = v) (h1 : (decide (lo ≤ v.toInt) && decide (v.toInt ≤ hi) && decide (offs[(v.toInt - lo).toNat]? = some off) && decide ((pc : Int) + off = (tgt : Int))) = true) (k : RN P d K tgt lv st σ r) : SB P d K [(pc, .tableswitch dflt lo hi offs, len)] e lv (.int x :: st) σ r := fun h => by
  simp only [Bool.and_eq_true, decide_eq_true_eq] at h1
  subst hx
  exact rn_pure (fun X p l e R s m args below meth c H locs cells slots Q ls hC hl kk => lv_tableIn hC.1 hC.2.1 h.1 (Int.not_lt.mpr h1.1.1.1) (Int.not_lt.mpr h1.1.1.2) h1.1.2 h1.2 (kk ls hl)) k
theorem sb_tsw_out {dflt : Int} {offs : Array Int} {len : Nat} {x : Int32} {lo hi : Int} (a n : Nat) (tgt : Nat) (hx : ∀ k, k < n → ¬ x = nI (a + k)) (h1 : (decide (lo = (a : Int)) && decide (hi = ((a + n : Nat) : Int) - 1) && decide (a + n < 1000000) && decide ((pc : Int) + dflt = (tgt : Int))) = true) (k : RN P d K tgt lv st σ r) : SB P d K [(pc, .tableswitch dflt lo hi offs, len)] e lv (.int x :: st) σ r := fun h => by
  simp only [Bool.and_eq_true, decide_eq_true_eq] at h1
  refine rn_pure (fun X p l e R s m args below meth c H locs cells slots Q ls hC hl kk => lv_tableOut hC.1 hC.2.1 h.1 ?_ h1.2 (kk ls hl)) k
  rcases Int.lt_or_le x.toInt lo with q | q
  · exact Or.inl q
  · rcases Int.lt_or_le hi x.toInt with q2 | q2
    · exact Or.inr q2
    · exfalso
      obtain ⟨⟨⟨e1, e2⟩, e3⟩, e4⟩ := h1
      refine hx (x.toInt.toNat - a) (by omega) ?_
      rw [show a + (x.toInt.toNat - a) = x.toInt.toNat by omega]
      apply Int32.toInt_inj.mp
      rw [nI_toInt (by omega)]
      omega
theorem sb_lsw {dflt : Int} {ps : Array (Int × Int)} {len : Nat} {x : Int32} {off : Int} (tgt : Nat) (hp : (ps.toList.zip (ps.toList.drop 1)).all (fun (a, next) => a.1 < next.1) = true) (ho : Op.lookupswitch.offset ps.toList dflt x.toInt = off) (ht : (pc : Int) + off = (tgt : Int)) (k : RN P d K tgt lv st σ r) : SB P d K [(pc, .lookupswitch dflt ps, len)] e lv (.int x :: st) σ r := fun h =>
  rn_pure (fun X p l e R s m args below meth c H locs cells slots Q ls hC hl kk => lv_lookup hC.1 hC.2.1 h.1 hp ho ht (kk ls hl)) k
end RnRows1
