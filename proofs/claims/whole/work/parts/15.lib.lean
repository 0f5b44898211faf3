section RnLib
variable {P : Px} {d : Nat} {K : Kx} {pc e : Nat} {ops : List (Nat × Instr × Nat)} {lv lv2 : List (Nat × Value)} {st st2 : List Value} {σ σ2 : Sg} {r : Option Value × Sg} {X : Wx} {H H2 : Heap} {a b k n i : Nat}
theorem sb_callI {K2 : Kx} {d2 : Nat} {As rest st0 : List Value} (n : Nat) (hsp : rnSp n [] st0 = some (As, .ref b :: rest)) (hK2 : rnKok K2) (hl : Cond.methodLink (rnOwn (kOc K)) i (kNm K2) ∈ lw_tbl) (hvv : Cond.instanceMethod (kNm K2) ∈ lw_tbl) (hnm : (kNm K2).name = "<init>") (hrt : kRt K2 = none) (hck : rnCk K2 n d d2 rest = true)
    (hE : EX P d2 K2 (.ref b :: As) σ (none, σ2)) (k : SB P d K ops e lv rest σ2 r) : SB P d K ((pc, .invokespecial i, 3) :: ops) e lv st0 σ r := fun h => by
  simp only [rnCk, Bool.and_eq_true, decide_eq_true_eq] at hck
  obtain ⟨⟨hp, hd⟩, hb⟩ := hck
  obtain ⟨l0, rfl, rfl, hlen⟩ := rnSp_ok hsp
  rw [List.append_nil] at hE hsp
  refine rn_back (K2 := K2) (pc2 := rnHd ops e) (rest := rest) (v := none) hE (fun X p l e R s m args below meth c H locs cells slots ls hC hH hls hc hs => ?_) h.2.1 (k h.2.2)
  obtain ⟨k1, k2, k3, k4, k5, k6, k7⟩ := hK2
  have hts := hC.ts
  have hfr := hC.2.2.2.2.2.2.2.2.1
  have hlo := hC.2.2.2.2.2.2.2.2.2.1
  have hg := rn_good hts ⟨k1, k2, k3, k4, k5, k6, k7⟩
  have hcd : rnCode K2 = .code (kNm K2) (kCc K2) (kML K2) none := by unfold rnCode; rw [hrt]
  have hcw : CallB R s args (rnOwn (kOc K)) i (kNm K2) (kCc K2) (kML K2) none (rnCode K2 :: rnWs) (rnRm d2 σ (none, σ2)) (σ2.2.2 - σ.2.2) (rnSq σ2.2.2 - rnSq σ.2.2) n :=
    ⟨rfl, rfl, by show d2 + 1 ≤ _; omega, by show 8 + (kML K2 + 11) + 32 * d2 ≤ _; omega, hg, by rw [← hcd]; exact List.mem_cons_self, by rw [← hcd]; exact hts _ (rnWs_in k1 rfl), hts _ (rnWs_in k4 rfl), ⟨k5, k6⟩, fun sig hs => by rw [hs] at hp; exact (Option.some.inj hp).symm, hts _ (rnWs_in hl rfl)⟩
  have hrun := va_runI (As := l0.map (cv X)) (rest := rest.map (cv X)) (b := xad X b) (g := F0 m pc ls ((l0.reverse ++ .ref b :: rest).map (cv X))) (H := H) (locs := locs) (cells := cells) (slots := slots) (below := below) (meth := meth) (e := e) ⟨hC.1, hC.2.1, hC.2.2.1, hC.own, hts⟩ (hE.2 X l) ⟨hcw, hnm, hts _ (rnWs_in hvv rfl)⟩
    ⟨rn_blind, fun U hU hW => ⟨by simp [cv], by rw [hU]; exact hH, CX.warm hW hC.cx⟩⟩ rfl (by rw [List.length_map]; exact hlen) hls (by simp [cv]) (by rw [rnCat_cv]; show 2 * 0 + _ ≤ 8; have := Nat.le_of_ble_eq_true hb; omega) h.1 ⟨hc, hs⟩
  have hav : (Value.ref (xad X b) :: l0.map (cv X)).toArray = ((Value.ref b :: l0).map (cv X)).toArray := by simp [cv]
  rw [← hav]
  exact hrun
theorem sb_callIN {K2 : Kx} {d2 : Nat} {As rest st0 : List Value} {ho : String} (n : Nat) (hsp : rnSp n [] st0 = some (As, .ref b :: rest)) (hK2 : rnKok K2) (hl : Cond.methodLinkNest (rnOwn (kOc K)) i (kNm K2) ho ∈ lw_tbl) (hvv : Cond.instanceMethod (kNm K2) ∈ lw_tbl) (hnm : (kNm K2).name = "<init>") (hrt : kRt K2 = none) (hck : rnCk K2 n d d2 rest = true)
    (hE : EX P d2 K2 (.ref b :: As) σ (none, σ2)) (k : SB P d K ops e lv rest σ2 r) : SB P d K ((pc, .invokespecial i, 3) :: ops) e lv st0 σ r := fun h => by
  simp only [rnCk, Bool.and_eq_true, decide_eq_true_eq] at hck
  obtain ⟨⟨hp, hd⟩, hb⟩ := hck
  obtain ⟨l0, rfl, rfl, hlen⟩ := rnSp_ok hsp
  rw [List.append_nil] at hE hsp
  refine rn_back (K2 := K2) (pc2 := rnHd ops e) (rest := rest) (v := none) hE (fun X p l e R s m args below meth c H locs cells slots ls hC hH hls hc hs => ?_) h.2.1 (k h.2.2)
  obtain ⟨k1, k2, k3, k4, k5, k6, k7⟩ := hK2
  have hts := hC.ts
  have hfr := hC.2.2.2.2.2.2.2.2.1
  have hlo := hC.2.2.2.2.2.2.2.2.2.1
  have hg := rn_good hts ⟨k1, k2, k3, k4, k5, k6, k7⟩
  have hcd : rnCode K2 = .code (kNm K2) (kCc K2) (kML K2) none := by unfold rnCode; rw [hrt]
  have hcw : va_CN R s args (rnOwn (kOc K)) i (kNm K2) ho (kCc K2) (kML K2) none (rnCode K2 :: rnWs) (rnRm d2 σ (none, σ2)) (σ2.2.2 - σ.2.2) (rnSq σ2.2.2 - rnSq σ.2.2) n :=
    ⟨⟨rfl, rfl, by show d2 + 1 ≤ _; omega, by show 8 + (kML K2 + 11) + 32 * d2 ≤ _; omega, hg, by rw [← hcd]; exact List.mem_cons_self⟩, by rw [← hcd]; exact hts _ (rnWs_in k1 rfl), hts _ (rnWs_in k4 rfl), ⟨k5, k6⟩, fun sig hs => by rw [hs] at hp; exact (Option.some.inj hp).symm, va_Nw.use rfl (hC.cx.2.2.2.2.2.2.2.2.2.1 _ hl rfl)⟩
  have hrun := va_runIN (As := l0.map (cv X)) (rest := rest.map (cv X)) (b := xad X b) (g := F0 m pc ls ((l0.reverse ++ .ref b :: rest).map (cv X))) (H := H) (locs := locs) (cells := cells) (slots := slots) (below := below) (meth := meth) (e := e) ⟨hC.1, hC.2.1, hC.2.2.1, hC.own, hts⟩ (hE.2 X l) ⟨hcw, hnm, hts _ (rnWs_in hvv rfl)⟩
    ⟨rn_blind, fun U hU hW => ⟨by simp [cv], by rw [hU]; exact hH, CX.warm hW hC.cx⟩⟩ rfl (by rw [List.length_map]; exact hlen) hls (by simp [cv]) (by rw [rnCat_cv]; show 2 * 0 + _ ≤ 8; have := Nat.le_of_ble_eq_true hb; omega) h.1 ⟨hc, hs⟩
  have hav : (Value.ref (xad X b) :: l0.map (cv X)).toArray = ((Value.ref b :: l0).map (cv X)).toArray := by simp [cv]
  rw [← hav]
  exact hrun
/-- Object's constructor -/
theorem sb_obj (hl : Cond.methodLink (rnOwn (kOc K)) i Lib.objectInit ∈ lw_tbl) (hi : Cond.instanceMethod Lib.objectInit ∈ lw_tbl) (hc : Cond.code Lib.objectInit ⟨#[0xb1]⟩ 1 none ∈ lw_tbl) (hd : 1 ≤ d) (hb : Nat.ble (rnCat st) 8 = true) (k : SB P d K ops e lv st σ r) : SB P d K ((pc, .invokespecial i, 3) :: ops) e lv (.ref a :: st) σ r := fun h =>
  rn_read (fun X p l e R s m args below meth c H locs cells slots Q ls hC hH hS hz k2 => by
    have hfr := hC.2.2.2.2.2.2.2.2.1
    have hlo := hC.2.2.2.2.2.2.2.2.2.1
    refine W.objInit hC.1 hC.2.1 hC.own (hC.ts _ (rnWs_in hl rfl)) (hC.ts _ (rnWs_in hi rfl)) (hC.ts _ (rnWs_in hc rfl)) rfl (hz.trans hC.2.2.1.symm) (a := xad X a) (rest := st.map (cv X)) rfl h.1 (by omega) ?_ (h.2.1 ▸ k2)
    rw [rnCat_cv]
    show 2 * 0 + _ + 12 ≤ _
    have := Nat.le_of_ble_eq_true hb
    omega) (k h.2.2)
/-- Math.max, Math.min -/
theorem sb_max {x y : Int32} (hl : Cond.methodLink (rnOwn (kOc K)) i Lib.Math.max.name ∈ lw_tbl) (hs : Cond.static Lib.Math.max.name ∈ lw_tbl) (hi : Cond.initialized "java/lang/Math" ∈ lw_tbl) (hc : Cond.code Lib.Math.max.name Lib.Math.max.code 2 (some .int) ∈ lw_tbl) (hd : 1 ≤ d) (hb : Nat.ble (rnCat st) 8 = true) (k : SB P d K ops e lv (.int (if x < y then y else x) :: st) σ r) : SB P d K ((pc, .invokestatic i, 3) :: ops) e lv (.int y :: .int x :: st) σ r := fun h => by
  have k := k h.2.2
  refine ⟨k.1, fun X p l e R s m args below meth c H locs cells slots Q ls hC hH hS hl2 h1 h2 hr => ?_⟩
  have hfr := hC.2.2.2.2.2.2.2.2.1
  have hlo := hC.2.2.2.2.2.2.2.2.2.1
  have q1 := k.1
  have q2 := rnSq_mono q1
  refine va_mmax hC.1 hC.2.1 (hC.2.2.1.trans hl2.1.symm) hC.own (hC.ts _ (rnWs_in hl rfl)) (hC.ts _ (rnWs_in hs rfl)) (hC.ts _ (rnWs_in hi rfl)) (hC.ts _ (rnWs_in hc rfl)) (by omega) ?_ (by omega) (by omega) h.1 (h.2.1 ▸ k.2 X p l _ R s m args below meth c H locs cells slots Q ls hC hH hS hl2 h1 h2 hr)
  rw [rnCat_cv]
  have := Nat.le_of_ble_eq_true hb
  omega
theorem sb_min {x y : Int32} (hl : Cond.methodLink (rnOwn (kOc K)) i Lib.Math.min.name ∈ lw_tbl) (hs : Cond.static Lib.Math.min.name ∈ lw_tbl) (hi : Cond.initialized "java/lang/Math" ∈ lw_tbl) (hc : Cond.code Lib.Math.min.name Lib.Math.min.code 2 (some .int) ∈ lw_tbl) (hd : 1 ≤ d) (hb : Nat.ble (rnCat st) 8 = true) (k : SB P d K ops e lv (.int (if y < x then y else x) :: st) σ r) : SB P d K ((pc, .invokestatic i, 3) :: ops) e lv (.int y :: .int x :: st) σ r := fun h => by
  have k := k h.2.2
  refine ⟨k.1, fun X p l e R s m args below meth c H locs cells slots Q ls hC hH hS hl2 h1 h2 hr => ?_⟩
  have hfr := hC.2.2.2.2.2.2.2.2.1
  have hlo := hC.2.2.2.2.2.2.2.2.2.1
  have q1 := k.1
  have q2 := rnSq_mono q1
  refine va_mmin hC.1 hC.2.1 (hC.2.2.1.trans hl2.1.symm) hC.own (hC.ts _ (rnWs_in hl rfl)) (hC.ts _ (rnWs_in hs rfl)) (hC.ts _ (rnWs_in hi rfl)) (hC.ts _ (rnWs_in hc rfl)) (by omega) ?_ (by omega) (by omega) h.1 (h.2.1 ▸ k.2 X p l _ R s m args below meth c H locs cells slots Q ls hC hH hS hl2 h1 h2 hr)
  rw [rnCat_cv]
  have := Nat.le_of_ble_eq_true hb
  omega
/-- System.arraycopy over int rows -/
def mcp (M : Mm) (a b sp dp n : Nat) : Mm := fun c => if c = b then va_cpy (M a) (M b) sp dp n else M c
theorem rn_nn (z : Int32) (hz : ¬ z < 0) : z.toInt = (z.toNatClampNeg : Int) := by
  have hz0 : (0 : Int) ≤ z.toInt := by
    have := Int32.not_lt.mp hz
    simpa using Int32.le_iff_toInt_le.mp this
  show z.toInt = ((z.toInt.toNat : Nat) : Int)
  omega
theorem sb_copy {n0 n1 : Nat} {sp dp z : Int32} (hl : Cond.methodLink (rnOwn (kOc K)) i arraycopyName ∈ lw_tbl) (hna : Cond.native arraycopyName ∈ lw_tbl) (hst : Cond.static arraycopyName ∈ lw_tbl) (hin : Cond.initialized "java/lang/System" ∈ lw_tbl) (hs0 : rnSh a = (20, n0)) (ha : a < σ.2.2) (hs1 : rnSh b = (20, n1)) (hb : b < σ.2.2) (h1 : ¬ sp < 0) (h2 : ¬ dp < 0) (h3 : ¬ z < 0) (h4 : sp.toNatClampNeg + z.toNatClampNeg ≤ n0) (h5 : dp.toNatClampNeg + z.toNatClampNeg ≤ n1) (hd : 1 ≤ d) (hr : Nat.ble (rnCat st) 4 = true)
    (k : SB P d K ops e lv st (mcp σ.1 a b sp.toNatClampNeg dp.toNatClampNeg z.toNatClampNeg, σ.2) r) : SB P d K ((pc, .invokestatic i, 3) :: ops) e lv (.int z :: .int dp :: .ref b :: .int sp :: .ref a :: st) σ r := fun h =>
  rn_write (σ' := (mcp σ.1 a b sp.toNatClampNeg dp.toNatClampNeg z.toNatClampNeg, σ.2)) rfl (fun X p l e R s m args below meth c H locs cells slots Q ls hC hH hS hz k2 => by
    have hc0 := hH.2.2.2 a ha
    rw [rnE_i hs0] at hc0
    have hc1 := hH.2.2.2 b hb
    rw [rnE_i hs1] at hc1
    have hc0 : H[(xG X).size + a]? = some (vp_cell (xA X 0) (n0, .inl (σ.1 a))) := hc0
    have hc1 : H[(xG X).size + b]? = some (vp_cell (xA X 0) (n1, .inl (σ.1 b))) := hc1
    have hfr := hC.2.2.2.2.2.2.2.2.1
    have hlo := hC.2.2.2.2.2.2.2.2.2.1
    obtain ⟨-, k0, hk0, cm0, hkk0⟩ := (hC.kk.2 0 _ rfl).1 n0 (fun j => .int (σ.1 a j))
    obtain ⟨-, k1, hk1, cm1, hkk1⟩ := (hC.kk.2 0 _ rfl).1 n1 (fun j => .int (σ.1 b j))
    show W p l e R s m args below meth c H locs cells slots Q (F0 m pc ls (.int z :: .int dp :: .ref (xad X b) :: .int sp :: .ref (xad X a) :: st.map (cv X)))
    rw [hH.own ha, hH.own hb]
    intro T hT XT
    obtain ⟨vm', X', step⟩ := XT.arraycopy hC.1 hC.own (hC.ts _ (rnWs_in hl rfl)) (hC.ts _ (rnWs_in hna rfl)) (hC.ts _ (rnWs_in hst rfl)) (hC.ts _ (rnWs_in hin rfl)) (src := (xG X).size + a) (dst := (xG X).size + b) (cs := vp_cell (xA X 0) (n0, .inl (σ.1 a))) (cd := vp_cell (xA X 0) (n1, .inl (σ.1 b))) (srcPos := sp) (destPos := dp) (n := z) (by rw [hT]; exact hc0) (by rw [hT]; exact hc1)
      (fun _ h => by cases h) (fun _ h => by cases h) (fun h => by cases h) (fun h => by cases h) hk0 hk1 hkk0 hkk1 (by simp [refKind]) h1 h2 h3
      (by rw [rn_nn sp h1, rn_nn z h3]; show ¬ _ > ((arrV (xA X 0) n0 (fun j => .int (σ.1 a j))).slots.size : Int); rw [arrV_size]; omega)
      (by rw [rn_nn dp h2, rn_nn z h3]; show ¬ _ > ((arrV (xA X 0) n1 (fun j => .int (σ.1 b j))).slots.size : Int); rw [arrV_size]; omega)
      (fun vm₁ _ i hi => by
        have e : (vp_cell (xA X 0) (n0, .inl (σ.1 a))).slots.getD (sp.toNatClampNeg + i) .null = .int (σ.1 a (sp.toNatClampNeg + i)) := by
          show (arrV (xA X 0) n0 (fun j => .int (σ.1 a j))).slots.getD _ _ = _
          rw [Array.getD_eq_getD_getElem?, arrV_read _ _ (by omega)]
          rfl
        refine ⟨?_, ?_⟩
        · rw [e]; rfl
        · rw [e]; exact trivial)
      (g := F0 m pc ls (.int z :: .int dp :: .ref ((xG X).size + b) :: .int sp :: .ref ((xG X).size + a) :: st.map (cv X))) rfl (hz.trans hC.2.2.1.symm) (rest := st.map (cv X)) rfl (by rw [hC.2.1]; exact h.1) (by omega) (by
        show 2 * 0 + ((st.map (cv X)).map fun v => v.category).sum + (nativeFrameWords "java/lang/System" "arraycopy" 5 + 11) ≤ _
        rw [rnCat_cv]
        have := Nat.le_of_ble_eq_true hr
        have e5 : nativeFrameWords "java/lang/System" "arraycopy" 5 ≤ 17 := by decide +kernel
        omega)
    have e1 : copied (vp_cell (xA X 0) (n0, .inl (σ.1 a))) (vp_cell (xA X 0) (n1, .inl (σ.1 b))) sp dp z = vp_cell (xA X 0) (n1, .inl (va_cpy (σ.1 a) (σ.1 b) sp.toNatClampNeg dp.toNatClampNeg z.toNatClampNeg)) := va_copied (fun z => .int z) (xA X 0) (xA X 0) (σ.1 a) (σ.1 b) h4
    rw [e1] at X' step
    have hlt : (xG X).size + b < H.size := (Array.getElem?_eq_some_iff.mp hc1).1
    have hheap : ((T.setVm vm').setCell ((xG X).size + b) (vp_cell (xA X 0) (n1, .inl (va_cpy (σ.1 a) (σ.1 b) sp.toNatClampNeg dp.toNatClampNeg z.toNatClampNeg)))).heap = H.setIfInBounds ((xG X).size + b) (vp_cell (xA X 0) (n1, .inl (va_cpy (σ.1 a) (σ.1 b) sp.toNatClampNeg dp.toNatClampNeg z.toNatClampNeg))) := by rw [← hT]; rfl
    have oq : ∀ q : Nat, q ≠ (xG X).size + b → (H.setIfInBounds ((xG X).size + b) (vp_cell (xA X 0) (n1, .inl (va_cpy (σ.1 a) (σ.1 b) sp.toNatClampNeg dp.toNatClampNeg z.toNatClampNeg))))[q]? = H[q]? := fun q hq => by simp [Array.getElem?_setIfInBounds, Ne.symm hq]
    obtain ⟨t, a1, b1⟩ := k2 _ _ (hH.put (σ2 := (mcp σ.1 a b sp.toNatClampNeg dp.toNatClampNeg z.toNatClampNeg, σ.2)) (a := b) hb (by simp) oq rfl (fun c hc => by simp [mcp, hc]) (fun c hc => rfl) (by
        rw [rnE_i hs1]
        show (H.setIfInBounds ((xG X).size + b) _)[(xG X).size + b]? = some (vp_cell _ (n1, .inl (mcp σ.1 a b sp.toNatClampNeg dp.toNatClampNeg z.toNatClampNeg b)))
        simp [Array.getElem?_setIfInBounds, hlt, mcp])) ⟨by simp; exact hS.1, fun q g1 g2 => by
        rw [oq q (fun e => g2 (by rw [e]; exact Nat.le_add_right _ _))]
        exact hS.2.1 q g1 g2, fun q hq => by
        rcases List.mem_append.mp hq with h | h
        · exact hS.2.2 q h
        · obtain ⟨z, -, hz⟩ := List.mem_map.mp h
          rw [← hz]
          exact Nat.le_add_right _ _⟩ _ hheap X'
    exact ⟨t, step t (h.2.1 ▸ a1), b1⟩) (k h.2.2)
end RnLib
