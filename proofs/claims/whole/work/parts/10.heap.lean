section RnHeap
variable {P : Px} {d : Nat} {K : Kx} {pc e : Nat} {ops : List (Nat × Instr × Nat)} {lv lv2 : List (Nat × Value)} {st st2 : List Value} {σ σ2 : Sg} {r : Option Value × Sg} {X : Wx} {H H' : Heap} {a b k n i : Nat}
theorem xad_own (h : a < 1000) : xad X a = (xG X).size + a := if_pos h
theorem HW.own (h : HW X σ H) (ha : a < σ.2.2) : xad X a = (xG X).size + a := xad_own (by have := h.2.1; omega)
theorem rnE_congr (h1 : σ2.1 b = σ.1 b) (h2 : σ2.2.1 b = σ.2.1 b) : rnE X σ2 b = rnE X σ b := by
  have h3 : mgl σ2.1 b = mgl σ.1 b := by funext k; simp [mgl, h1]
  have h4 : ∀ ci, rnFv X σ2 b ci = rnFv X σ b ci := fun ci => by funext k; simp only [rnFv, h1, h2]
  simp only [rnE, h1, h2, h3, h4]
/-- one cell changes -/
theorem HW.put (h : HW X σ H) (ha : a < σ.2.2) (hz : H'.size = H.size) (ho : ∀ q : Nat, q ≠ (xG X).size + a → H'[q]? = H[q]?) (hn : σ2.2.2 = σ.2.2) (h1 : ∀ b, b ≠ a → σ2.1 b = σ.1 b) (h2 : ∀ b, b ≠ a → σ2.2.1 b = σ.2.1 b) (hat : va_at (xD X) rnCl ((xG X).size + a, rnE X σ2 a) H') : HW X σ2 H' := by
  obtain ⟨g1, g2, g3, g4⟩ := h
  refine ⟨by rw [hz, hn]; exact g1, by rw [hn]; exact g2, fun q hq => (ho q (by omega)).trans (g3 q hq), fun b hb => ?_⟩
  by_cases e : b = a
  · rw [e]; exact hat
  · rw [rnE_congr (h1 b e) (h2 b e)]
    exact (g4 b (by rw [← hn]; exact hb)).kept (ho _ (by show (xG X).size + b ≠ _; omega))
theorem mput_row (M : Mm) (a k : Nat) (v : Int32) (b : Nat) (h : b ≠ a) : mput M a k v b = M b := by funext j; simp [mput, h]
theorem mput_own (M : Mm) (a k : Nat) (v : Int32) : mput M a k v a = upd (M a) k v := by funext j; simp [mput, upd]
theorem mpl_row (M : Mm) (a k : Nat) (v : Int64) (b : Nat) (h : b ≠ a) : mpl M a k v b = M b := by unfold mpl; rw [mput_row _ _ _ _ _ h, mput_row _ _ _ _ _ h]
theorem mpl_own (M : Mm) (a k : Nat) (v : Int64) : mgl (mpl M a k v) a = vp_updL (mgl M a) k v := by
  funext j
  by_cases h : j = k
  · subst h; rw [mgl_same]; simp [vp_updL]
  · rw [mgl_ne _ _ _ _ _ h]; simp [vp_updL, h]
theorem CT.kk {p : Program} {R : Room} {s : State} {m : MethodId} {args : Array Value} {meth : Method} {c : Code} (h : CT P X d K p R s m args meth c) : va_K (xD X) rnCl (rnTys X) s := h.2.2.2.2.2.2.2.2.2.2.1.1
theorem CT.ts {p : Program} {R : Room} {s : State} {m : MethodId} {args : Array Value} {meth : Method} {c : Code} (h : CT P X d K p R s m args meth c) : ∀ w ∈ rnWs, w.before args s = true := h.2.2.2.2.2.2.2.1
theorem CT.own {p : Program} {R : Room} {s : State} {m : MethodId} {args : Array Value} {meth : Method} {c : Code} (h : CT P X d K p R s m args meth c) : s.vm.findClass (rnOwn (kOc K)) = some m.cls := h.2.2.2.2.2.2.1
theorem rnCl_ws {ci : Nat} {q : vw_C} (h : rnCl[ci]? = some q) : ∀ w ∈ u_ws q.1 q.2.1 q.2.2, w ∈ rnWs := by
  intro w hw
  refine rnWs_in ((rnCl_ok ci q h).1 w hw) ?_
  obtain ⟨j, -, rfl⟩ := List.mem_map.mp hw
  unfold u_lay
  split <;> rfl
theorem rnFv_ri {ci : Nat} (hk : rnKd ci k < 2) : rnFv X σ a ci k = .int (σ.1 a k) := if_pos hk
theorem rnFv_rr {ci : Nat} (hk : ¬ rnKd ci k < 2) : rnFv X σ a ci k = va_rf ((σ.2.1 a k).map (xad X)) := if_neg hk
theorem rnV_get {ci : Nat} (hk : k < n) : vp_V ((List.range n).map (rnFv X σ a ci)) k = rnFv X σ a ci k := by
  simp [vp_V, hk]
/-- a field is read -/
theorem rn_get {ci : Nat} (hf : rnF (kOc K) i = some (ci, k)) (hs : rnSh a = (ci, n)) (hc : ci < 20) (ha : a < σ.2.2) (hk : k < n) {v : Value} (hv : ∀ X : Wx, rnFv X σ a ci k = cv X v) (kk : SB P d K ops e lv (v :: st) σ r) : SB P d K ((pc, .getfield i, 3) :: ops) e lv (.ref a :: st) σ r := fun h =>
  rn_read (fun X p l e R s m args below meth c H locs cells slots Q ls hC hH hS hz k2 => by
    obtain ⟨C, T, N, hq, hkN, hl⟩ := rnF_ok hf
    have hw := hH.2.2.2 a ha
    rw [rnE_o hs hc] at hw
    obtain ⟨r', h1, cell, q1, q2, q3, q4⟩ := hw
    have hr : r' = (C, T, N) := Option.some.inj (h1.symm.trans hq)
    subst hr
    obtain ⟨hSl, hfc, kC, hkC, hkind⟩ := hC.kk.1 ci _ hq
    obtain ⟨cf, kf, fi, f, hi, hsl⟩ := hSl k hkN
    show W p l e R s m args below meth c H locs cells slots Q (F0 m pc ls (.ref (xad X a) :: st.map (cv X)))
    refine W.getf hC.1 hC.2.1 hC.own (hC.ts _ (rnWs_in hl rfl)) hi (u_facts hfc hkC (u_lays hC.ts (rnCl_ws hq) hkN) hi).1 (by rw [hH.own ha]; exact q1) (by rw [q3]; exact fun h => by cases h) (v := cv X v) ?_ rfl rfl h.1 (h.2.1 ▸ k2)
    rw [hsl, q4 k hkN, rnV_get hk, hv X]) (kk h.2.2)
theorem sb_getI {ci : Nat} (hf : rnF (kOc K) i = some (ci, k)) (hs : rnSh a = (ci, n)) (ha : a < σ.2.2) (hd : (decide (ci < 20) && decide (k < n) && decide (rnKd ci k < 2)) = true) (kk : SB P d K ops e lv (.int (σ.1 a k) :: st) σ r) : SB P d K ((pc, .getfield i, 3) :: ops) e lv (.ref a :: st) σ r := by
  simp only [Bool.and_eq_true, decide_eq_true_eq] at hd
  exact rn_get hf hs hd.1.1 ha hd.1.2 (fun X => rnFv_ri hd.2) kk
theorem sb_getR {ci : Nat} (hf : rnF (kOc K) i = some (ci, k)) (hs : rnSh a = (ci, n)) (ha : a < σ.2.2) (hd : (decide (ci < 20) && decide (k < n) && decide (¬ rnKd ci k < 2)) = true) (hr : σ.2.1 a k = some b) (kk : SB P d K ops e lv (.ref b :: st) σ r) : SB P d K ((pc, .getfield i, 3) :: ops) e lv (.ref a :: st) σ r := by
  simp only [Bool.and_eq_true, decide_eq_true_eq] at hd
  exact rn_get hf hs hd.1.1 ha hd.1.2 (fun X => by rw [rnFv_rr hd.2, hr]; rfl) kk
/-- a field is written: what the machine does, in our words -/
def rnFin (ci k : Nat) : Bool := match rnCl[ci]? with
  | none => true
  | some q => (q.2.1 k).2.2.2
theorem rn_put {ci : Nat} (hf : rnF (kOc K) i = some (ci, k)) (hs : rnSh a = (ci, n)) (hc : ci < 20) (ha : a < σ.2.2) (hk : k < n) (hfin : rnFin ci k = false ∨ (kNm K).name = "<init>" ∧ ∀ q, rnCl[ci]? = some q → (q.2.1 k).1 = rnOwn (kOc K)) {v : Value} (hn : σ2.2.2 = σ.2.2) (h1 : ∀ b, b ≠ a → σ2.1 b = σ.1 b) (h2 : ∀ b, b ≠ a → σ2.2.1 b = σ.2.1 b)
    (hty : ∀ X : Wx, narrow (rnTy ci k) (cv X v) = cv X v ∧ fits (rnTy ci k) (cv X v) = true) (hv : ∀ (X : Wx) (j : Nat), rnFv X σ2 a ci j = if j = k then cv X v else rnFv X σ a ci j) (kk : SB P d K ops e lv st σ2 r) : SB P d K ((pc, .putfield i, 3) :: ops) e lv (v :: .ref a :: st) σ r := fun h =>
  rn_write hn (fun X p l e R s m args below meth c H locs cells slots Q ls hC hH hS hz k2 => by
    obtain ⟨C, T, N, hq, hkN, hl⟩ := rnF_ok hf
    have hw := hH.2.2.2 a ha
    rw [rnE_o hs hc] at hw
    obtain ⟨r', g1, cell, q1, q2, q3, q4⟩ := hw
    have hr : r' = (C, T, N) := Option.some.inj (g1.symm.trans hq)
    subst hr
    obtain ⟨-, hty0, hnm, -⟩ := rnCl_ok ci _ hq
    have hin := rnCl_ws hq
    have hap := va_apart (own := rnOwn (kOc K)) hC.ts hin (rnTy ci) hty0 hnm hC.kk hq
    obtain ⟨hSl, hfc, kC, hkC, hkind⟩ := hC.kk.1 ci _ hq
    obtain ⟨cf, kf, fi, f, hi, hsl⟩ := hSl k hkN
    have hlay := hC.ts _ (hin _ (u_in_lay hkN))
    have hst := (u_facts hfc hkC (u_lays hC.ts hin hkN) hi).1
    have hA : xW X ((xG X).size + a) := Nat.le_add_right _ _
    show W p l e R s m args below meth c H locs cells slots Q (F0 m pc ls (cv X v :: .ref (xad X a) :: st.map (cv X)))
    rw [hH.own ha]
    have hend : ∀ H', H'[(xG X).size + a]? = some (cell.setSlot f.slot (cv X v)) → H'.size = H.size → (∀ q, q ≠ (xG X).size + a → H'[q]? = H[q]?) → W p l e R s m args below meth c H' (locs ++ [⟨(xG X).size + a, f.slot⟩]) cells slots Q (F0 m (pc + 3) ls (st.map (cv X))) := by
      intro H' e1 e2 e3
      refine h.2.1 ▸ k2 H' _ (hH.put ha e2 e3 hn h1 h2 ?_) (hS.put e2 e3 hA)
      rw [rnE_o hs hc]
      refine ⟨_, hq, _, e1, q2, q3, fun j hj => ?_⟩
      rw [hsl]
      have hj2 := t_set (V := vp_V ((List.range n).map (rnFv X σ a ci))) q4 hap hkN (cv X v) j hj
      rw [hj2]
      by_cases hjn : j < n
      · rw [rnV_get hjn, hv X j]
        by_cases e : j = k
        · simp [updV, e]
        · simp [updV, e, hjn, vp_V]
      · have hne : j ≠ k := by omega
        simp [updV, hne, vp_V, hjn]
    rcases hfin with hfin | ⟨hini, hdecl⟩
    · have hfin : (T k).2.2.2 = false := by unfold rnFin at hfin; rw [hq] at hfin; exact hfin
      unfold u_lay at hlay
      rw [if_neg (by rw [hfin]; decide)] at hlay
      have h6 := u_store hfc hkC hkind hlay hi (hty0 k hkN) (hty X).1 (hty X).2
      exact W.putK hC.1 hC.2.1 (f := f) ⟨hC.own, hC.ts _ (rnWs_in hl rfl), ⟨_, _, _, hi⟩, hst⟩ (by rw [q2]; exact h6) q1 q3 (by rw [hsl]; exact k2_hasslot (q4 k hkN)) rfl rfl h.1 hend
    · by_cases hfin : (T k).2.2.2 = true
      · unfold u_lay at hlay
        rw [if_pos hfin] at hlay
        have hcf : m.cls = cf := by
          obtain ⟨_, _, c', _, _, _, -, -, hf', -, -, -, hown2, -⟩ := Cond.laysFinal_spec hlay
          have e1 : c' = cf := by have := hi.symm.trans hf'; simp at this; exact this.1.symm
          rw [hdecl _ hq] at hown2
          rw [← e1]; exact Option.some.inj (hC.own.symm.trans hown2)
        have h6 := u_fits hfc hkC hkind (Or.inr hlay) hi (hty0 k hkN) (hty X).1 (hty X).2
        exact W.putFinK hC.1 hC.2.1 hC.own (hC.ts _ (rnWs_in hl rfl)) hi hst hcf (hC.2.2.2.2.2.1.trans hini) (by rw [q2]; exact h6) q1 q3 (by rw [hsl]; exact k2_hasslot (q4 k hkN)) rfl rfl h.1 hend
      · unfold u_lay at hlay
        rw [if_neg hfin] at hlay
        have h6 := u_store hfc hkC hkind hlay hi (hty0 k hkN) (hty X).1 (hty X).2
        exact W.putK hC.1 hC.2.1 (f := f) ⟨hC.own, hC.ts _ (rnWs_in hl rfl), ⟨_, _, _, hi⟩, hst⟩ (by rw [q2]; exact h6) q1 q3 (by rw [hsl]; exact k2_hasslot (q4 k hkN)) rfl rfl h.1 hend) (kk h.2.2)
end RnHeap
