section RnArr
variable {P : Px} {d : Nat} {K : Kx} {pc e : Nat} {ops : List (Nat × Instr × Nat)} {lv lv2 : List (Nat × Value)} {st st2 : List Value} {σ σ2 : Sg} {r : Option Value × Sg} {X : Wx} {H H2 : Heap} {a b k n i : Nat}
theorem rnTy_i {ci k : Nat} (h : rnKd ci k = 0) : rnTy ci k = .int := by unfold rnKd at h; split at h <;> first | assumption | cases h
theorem rnTy_z {ci k : Nat} (h : rnKd ci k = 1) : rnTy ci k = .boolean := by unfold rnKd at h; split at h <;> first | assumption | cases h
/-- an int field that isn't final -/
theorem sb_putI {ci : Nat} {v : Int32} (hf : rnF (kOc K) i = some (ci, k)) (hs : rnSh a = (ci, n)) (ha : a < σ.2.2) (hd : (decide (ci < 20) && decide (k < n) && decide (rnKd ci k = 0) && !(rnFin ci k)) = true) (kk : SB P d K ops e lv st (mput σ.1 a k v, σ.2) r) : SB P d K ((pc, .putfield i, 3) :: ops) e lv (.int v :: .ref a :: st) σ r := by
  simp only [Bool.and_eq_true, decide_eq_true_eq, Bool.not_eq_true'] at hd
  obtain ⟨⟨⟨h1, h2⟩, h3⟩, h4⟩ := hd
  refine rn_put (σ2 := (mput σ.1 a k v, σ.2)) hf hs h1 ha h2 (Or.inl h4) rfl (fun b hb => mput_row _ _ _ _ _ hb) (fun b hb => rfl) (fun X => ?_) (fun X j => ?_) kk
  · rw [rnTy_i h3]; exact ⟨rfl, rfl⟩
  · unfold rnFv
    by_cases e : j = k
    · subst e
      rw [if_pos (by omega), if_pos rfl]
      show Value.int (mput σ.1 a j v a j) = _
      rw [mput_same]; rfl
    · rw [if_neg e]
      show (if rnKd ci j < 2 then Value.int (mput σ.1 a k v a j) else _) = _
      rw [mput_ne _ _ _ _ _ _ (fun q => e q.2)]
/-- a truth -/
theorem sb_putZ {ci : Nat} {v : Int32} (hf : rnF (kOc K) i = some (ci, k)) (hs : rnSh a = (ci, n)) (ha : a < σ.2.2) (hv : v = 0 ∨ v = 1) (hd : (decide (ci < 20) && decide (k < n) && decide (rnKd ci k = 1) && !(rnFin ci k)) = true) (kk : SB P d K ops e lv st (mput σ.1 a k v, σ.2) r) : SB P d K ((pc, .putfield i, 3) :: ops) e lv (.int v :: .ref a :: st) σ r := by
  simp only [Bool.and_eq_true, decide_eq_true_eq, Bool.not_eq_true'] at hd
  obtain ⟨⟨⟨h1, h2⟩, h3⟩, h4⟩ := hd
  refine rn_put (σ2 := (mput σ.1 a k v, σ.2)) hf hs h1 ha h2 (Or.inl h4) rfl (fun b hb => mput_row _ _ _ _ _ hb) (fun b hb => rfl) (fun X => ?_) (fun X j => ?_) kk
  · rw [rnTy_z h3]; rcases hv with rfl | rfl <;> exact ⟨show narrow .boolean (.int _) = Value.int _ by decide +kernel, show fits .boolean (.int _) = true by decide +kernel⟩
  · unfold rnFv
    by_cases e : j = k
    · subst e
      rw [if_pos (by omega), if_pos rfl]
      show Value.int (mput σ.1 a j v a j) = _
      rw [mput_same]; rfl
    · rw [if_neg e]
      show (if rnKd ci j < 2 then Value.int (mput σ.1 a k v a j) else _) = _
      rw [mput_ne _ _ _ _ _ _ (fun q => e q.2)]
/-- in a constructor: an int, a truth or a reference, final or not -/
def rput (f : Nat → Nat → Option Nat) (a k b : Nat) : Nat → Nat → Option Nat := fun c j => if c = a ∧ j = k then some b else f c j
theorem rput_row (f : Nat → Nat → Option Nat) (a k b c : Nat) (h : c ≠ a) : rput f a k b c = f c := by funext j; simp [rput, h]
def rnDcl (oc ci k : Nat) : Bool := match rnCl[ci]? with
  | none => false
  | some q => decide ((q.2.1 k).1 = rnOwn oc)
theorem rnDcl_ok {oc ci k : Nat} (h : rnDcl oc ci k = true) : ∀ q, rnCl[ci]? = some q → (q.2.1 k).1 = rnOwn oc := by
  intro q hq
  unfold rnDcl at h
  rw [hq] at h
  exact of_decide_eq_true h
theorem sb_putIC {ci : Nat} {v : Int32} (hf : rnF (kOc K) i = some (ci, k)) (hs : rnSh a = (ci, n)) (ha : a < σ.2.2) (hv : v = 0 ∨ v = 1 ∨ rnKd ci k = 0) (hd : (decide (ci < 20) && decide (k < n) && decide (rnKd ci k < 2) && rnDcl (kOc K) ci k && decide ((kNm K).name = "<init>")) = true) (kk : SB P d K ops e lv st (mput σ.1 a k v, σ.2) r) : SB P d K ((pc, .putfield i, 3) :: ops) e lv (.int v :: .ref a :: st) σ r := by
  simp only [Bool.and_eq_true, decide_eq_true_eq] at hd
  obtain ⟨⟨⟨⟨h1, h2⟩, h3⟩, h4⟩, h5⟩ := hd
  refine rn_put (σ2 := (mput σ.1 a k v, σ.2)) hf hs h1 ha h2 (Or.inr ⟨h5, rnDcl_ok h4⟩) rfl (fun b hb => mput_row _ _ _ _ _ hb) (fun b hb => rfl) (fun X => ?_) (fun X j => ?_) kk
  · by_cases h0 : rnKd ci k = 0
    · rw [rnTy_i h0]; exact ⟨rfl, rfl⟩
    · rw [rnTy_z (by omega)]
      rcases hv with rfl | rfl | h
      · exact ⟨show narrow .boolean (.int _) = Value.int _ by decide +kernel, show fits .boolean (.int _) = true by decide +kernel⟩
      · exact ⟨show narrow .boolean (.int _) = Value.int _ by decide +kernel, show fits .boolean (.int _) = true by decide +kernel⟩
      · exact absurd h h0
  · unfold rnFv
    by_cases e : j = k
    · subst e
      rw [if_pos h3, if_pos rfl]
      show Value.int (mput σ.1 a j v a j) = _
      rw [mput_same]; rfl
    · rw [if_neg e]
      show (if rnKd ci j < 2 then Value.int (mput σ.1 a k v a j) else _) = _
      rw [mput_ne _ _ _ _ _ _ (fun q => e q.2)]
def rnRef (ty : FieldType) : Bool := match ty with
  | .object _ => true
  | .array _ => true
  | _ => false
theorem rnRef_fits {ty : FieldType} (h : rnRef ty = true) (q : Nat) : narrow ty (.ref q) = .ref q ∧ fits ty (.ref q) = true := by
  cases ty <;> first | exact ⟨rfl, rfl⟩ | cases h
theorem sb_putR {ci : Nat} (hf : rnF (kOc K) i = some (ci, k)) (hs : rnSh a = (ci, n)) (ha : a < σ.2.2) (hd : (decide (ci < 20) && decide (k < n) && decide (¬ rnKd ci k < 2) && rnRef (rnTy ci k) && (!(rnFin ci k) || (rnDcl (kOc K) ci k && decide ((kNm K).name = "<init>")))) = true) (kk : SB P d K ops e lv st (σ.1, rput σ.2.1 a k b, σ.2.2) r) : SB P d K ((pc, .putfield i, 3) :: ops) e lv (.ref b :: .ref a :: st) σ r := by
  simp only [Bool.and_eq_true, Bool.or_eq_true, decide_eq_true_eq, Bool.not_eq_true'] at hd
  obtain ⟨⟨⟨⟨h1, h2⟩, h3⟩, h4⟩, h5⟩ := hd
  refine rn_put (σ2 := (σ.1, rput σ.2.1 a k b, σ.2.2)) hf hs h1 ha h2 (h5.imp id (fun h => ⟨h.2, rnDcl_ok h.1⟩)) rfl (fun b hb => rfl) (fun c hc => rput_row _ _ _ _ _ hc) (fun X => rnRef_fits h4 _) (fun X j => ?_) kk
  unfold rnFv
  by_cases e : j = k
  · subst e
    rw [if_neg h3, if_pos rfl]
    show va_rf ((rput σ.2.1 a j b a j).map (xad X)) = _
    simp [rput]
    rfl
  · rw [if_neg e]
    show (if rnKd ci j < 2 then Value.int (σ.1 a j) else va_rf ((rput σ.2.1 a k b a j).map (xad X))) = _
    simp [rput, e]
-- rows of ints, bytes, longs
theorem sb_iald {x : Int32} (hs : rnSh a = (20, n)) (ha : a < σ.2.2) (hx : inb x n) (kk : SB P d K ops e lv (.int (σ.1 a x.toNatClampNeg) :: st) σ r) : SB P d K ((pc, .iaload, 1) :: ops) e lv (.int x :: .ref a :: st) σ r := fun h =>
  rn_read (fun X p l e R s m args below meth c H locs cells slots Q ls hC hH hS hz k2 => by
    have hw := hH.2.2.2 a ha
    rw [rnE_i hs] at hw
    show W p l e R s m args below meth c H locs cells slots Q (F0 m pc ls (.int x :: .ref (xad X a) :: st.map (cv X)))
    rw [hH.own ha]
    have hlt : x.toNatClampNeg < n := Nat.not_le.mp fun q => hx (Or.inr q)
    exact W.iald (v := .int (σ.1 a x.toNatClampNeg)) hC.1 hC.2.1 hw ((hC.kk.2 0 _ rfl).1 n (fun j => .int (σ.1 a j))) (fun q => by cases q) (by show ¬ (x < 0 ∨ (arrV _ _ _).slots.size ≤ _); rw [arrV_size]; exact hx) (by show (arrV _ _ _).slots[_]? = _; rw [arrV_read _ _ hlt]) rfl rfl h.1 (h.2.1 ▸ k2)) (kk h.2.2)
theorem sb_bald {x : Int32} (hs : rnSh a = (21, n)) (ha : a < σ.2.2) (hx : inb x n) (kk : SB P d K ops e lv (.int (σ.1 a x.toNatClampNeg) :: st) σ r) : SB P d K ((pc, .baload, 1) :: ops) e lv (.int x :: .ref a :: st) σ r := fun h =>
  rn_read (fun X p l e R s m args below meth c H locs cells slots Q ls hC hH hS hz k2 => by
    have hw := hH.2.2.2 a ha
    rw [rnE_b hs] at hw
    show W p l e R s m args below meth c H locs cells slots Q (F0 m pc ls (.int x :: .ref (xad X a) :: st.map (cv X)))
    rw [hH.own ha]
    have hlt : x.toNatClampNeg < n := Nat.not_le.mp fun q => hx (Or.inr q)
    exact W.bald (v := .int (σ.1 a x.toNatClampNeg)) hC.1 hC.2.1 hw ((hC.kk.2 1 _ rfl).1 n (fun j => .int (σ.1 a j))) (fun q => by cases q) (by show ¬ (x < 0 ∨ (arrV _ _ _).slots.size ≤ _); rw [arrV_size]; exact hx) (by show (arrV _ _ _).slots[_]? = _; rw [arrV_read _ _ hlt]) rfl rfl h.1 (h.2.1 ▸ k2)) (kk h.2.2)
theorem sb_lald {x : Int32} (hs : rnSh a = (22, n)) (ha : a < σ.2.2) (hx : inb x n) (kk : SB P d K ops e lv (.long (mgl σ.1 a x.toNatClampNeg) :: st) σ r) : SB P d K ((pc, .laload, 1) :: ops) e lv (.int x :: .ref a :: st) σ r := fun h =>
  rn_read (fun X p l e R s m args below meth c H locs cells slots Q ls hC hH hS hz k2 => by
    have hw := hH.2.2.2 a ha
    rw [rnE_l hs] at hw
    show W p l e R s m args below meth c H locs cells slots Q (F0 m pc ls (.int x :: .ref (xad X a) :: st.map (cv X)))
    rw [hH.own ha]
    have hlt : x.toNatClampNeg < n := Nat.not_le.mp fun q => hx (Or.inr q)
    exact W.lald (v := .long (mgl σ.1 a x.toNatClampNeg)) hC.1 hC.2.1 hw ((hC.kk.2 2 _ rfl).1 n (fun j => .long (mgl σ.1 a j))) (fun q => by cases q) (by show ¬ (x < 0 ∨ (arrV _ _ _).slots.size ≤ _); rw [arrV_size]; exact hx) (by show (arrV _ _ _).slots[_]? = _; rw [arrV_read _ _ hlt]) rfl rfl h.1 (h.2.1 ▸ k2)) (kk h.2.2)
theorem sb_aald {x : Int32} (hs : rnSh a = (23, n)) (ha : a < σ.2.2) (hx : inb x n) (hr : σ.2.1 a x.toNatClampNeg = some b) (kk : SB P d K ops e lv (.ref b :: st) σ r) : SB P d K ((pc, .aaload, 1) :: ops) e lv (.int x :: .ref a :: st) σ r := fun h =>
  rn_read (fun X p l e R s m args below meth c H locs cells slots Q ls hC hH hS hz k2 => by
    have hw := hH.2.2.2 a ha
    rw [rnE_q hs] at hw
    show W p l e R s m args below meth c H locs cells slots Q (F0 m pc ls (.int x :: .ref (xad X a) :: st.map (cv X)))
    rw [hH.own ha]
    have hlt : x.toNatClampNeg < n := Nat.not_le.mp fun q => hx (Or.inr q)
    exact W.aald (v := .ref (xad X b)) (ty := .object "KindPostman$World") hC.1 hC.2.1 hw ((hC.kk.2 3 _ rfl).1 n (fun j => va_rf ((σ.2.1 a j).map (xad X)))) rfl (fun q => by cases q) (by show ¬ (x < 0 ∨ (arrV _ _ _).slots.size ≤ _); rw [arrV_size]; exact hx) (by show (arrV _ _ _).slots[_]? = _; rw [arrV_read _ _ hlt]; show some (va_rf (Option.map (xad X) (σ.2.1 a x.toNatClampNeg))) = _; rw [hr]; rfl) rfl rfl h.1 (h.2.1 ▸ k2)) (kk h.2.2)
theorem sb_alen {t : Nat} (hs : rnSh a = (t, n)) (ha : a < σ.2.2) (ht : t = 20 ∨ t = 21 ∨ t = 22) {v : Int32} (hv : nI n = v) (kk : SB P d K ops e lv (.int v :: st) σ r) : SB P d K ((pc, .arraylength, 1) :: ops) e lv (.ref a :: st) σ r := fun h =>
  rn_read (fun X p l e R s m args below meth c H locs cells slots Q ls hC hH hS hz k2 => by
    have hw := hH.2.2.2 a ha
    show W p l e R s m args below meth c H locs cells slots Q (F0 m pc ls (.ref (xad X a) :: st.map (cv X)))
    rw [hH.own ha]
    rcases ht with rfl | rfl | rfl
    · rw [rnE_i hs] at hw
      exact W.alen (n := v) hC.1 hC.2.1 hw ((hC.kk.2 0 _ rfl).1 n (fun j => .int (σ.1 a j))) (by rw [vp_cell_i, arrV_size]; exact hv) rfl rfl h.1 (h.2.1 ▸ k2)
    · rw [rnE_b hs] at hw
      exact W.alen (n := v) hC.1 hC.2.1 hw ((hC.kk.2 1 _ rfl).1 n (fun j => .int (σ.1 a j))) (by rw [vp_cell_i, arrV_size]; exact hv) rfl rfl h.1 (h.2.1 ▸ k2)
    · rw [rnE_l hs] at hw
      exact W.alen (n := v) hC.1 hC.2.1 hw ((hC.kk.2 2 _ rfl).1 n (fun j => .long (mgl σ.1 a j))) (by rw [vp_cell_l, arrV_size]; exact hv) rfl rfl h.1 (h.2.1 ▸ k2)) (kk h.2.2)
theorem sb_iast {x v : Int32} (hs : rnSh a = (20, n)) (ha : a < σ.2.2) (hx : inb x n) (kk : SB P d K ops e lv st (mput σ.1 a x.toNatClampNeg v, σ.2) r) : SB P d K ((pc, .iastore, 1) :: ops) e lv (.int v :: .int x :: .ref a :: st) σ r := fun h =>
  rn_write (σ' := (mput σ.1 a x.toNatClampNeg v, σ.2)) rfl (fun X p l e R s m args below meth c H locs cells slots Q ls hC hH hS hz k2 => by
    have hw := hH.2.2.2 a ha
    rw [rnE_i hs] at hw
    show W p l e R s m args below meth c H locs cells slots Q (F0 m pc ls (.int v :: .int x :: .ref (xad X a) :: st.map (cv X)))
    rw [hH.own ha]
    refine W.iast hC.1 hC.2.1 hw ((hC.kk.2 0 _ rfl).1 n (fun j => .int (σ.1 a j))) (fun q => by cases q) (by show ¬ (x < 0 ∨ (arrV _ _ _).slots.size ≤ _); rw [arrV_size]; exact hx) rfl rfl h.1 fun H1 e1 z oq => ?_
    refine h.2.1 ▸ k2 H1 _ (hH.put (σ2 := (mput σ.1 a x.toNatClampNeg v, σ.2)) ha z oq rfl (fun b hb => mput_row _ _ _ _ _ hb) (fun b hb => rfl) ?_) (hS.put z oq (Nat.le_add_right _ _))
    rw [rnE_i hs]
    show H1[(xG X).size + a]? = some (vp_cell _ _)
    rw [e1, vp_cell_i, vp_cell_i, arrV_store]
    show some (arrV _ _ _) = some (arrV _ _ fun j => .int (mput σ.1 a x.toNatClampNeg v a j))
    rw [mput_own]
    congr 2
    funext q
    by_cases hq : q = x.toNatClampNeg
    · subst hq; simp [updV, upd]
    · simp [updV, upd, hq]) (kk h.2.2)
theorem sb_bast {x v : Int32} (hs : rnSh a = (21, n)) (ha : a < σ.2.2) (hx : inb x n) (kk : SB P d K ops e lv st (mput σ.1 a x.toNatClampNeg v.toInt8.toInt32, σ.2) r) : SB P d K ((pc, .bastore, 1) :: ops) e lv (.int v :: .int x :: .ref a :: st) σ r := fun h =>
  rn_write (σ' := (mput σ.1 a x.toNatClampNeg v.toInt8.toInt32, σ.2)) rfl (fun X p l e R s m args below meth c H locs cells slots Q ls hC hH hS hz k2 => by
    have hw := hH.2.2.2 a ha
    rw [rnE_b hs] at hw
    show W p l e R s m args below meth c H locs cells slots Q (F0 m pc ls (.int v :: .int x :: .ref (xad X a) :: st.map (cv X)))
    rw [hH.own ha]
    refine W.bast hC.1 hC.2.1 hw ((hC.kk.2 1 _ rfl).1 n (fun j => .int (σ.1 a j))) (fun q => by cases q) (by show ¬ (x < 0 ∨ (arrV _ _ _).slots.size ≤ _); rw [arrV_size]; exact hx) rfl rfl h.1 fun H1 e1 z oq => ?_
    refine h.2.1 ▸ k2 H1 _ (hH.put (σ2 := (mput σ.1 a x.toNatClampNeg v.toInt8.toInt32, σ.2)) ha z oq rfl (fun b hb => mput_row _ _ _ _ _ hb) (fun b hb => rfl) ?_) (hS.put z oq (Nat.le_add_right _ _))
    rw [rnE_b hs]
    show H1[(xG X).size + a]? = some (vp_cell _ _)
    rw [e1, vp_cell_i, vp_cell_i, arrV_store]
    show some (arrV _ _ _) = some (arrV _ _ fun j => .int (mput σ.1 a x.toNatClampNeg v.toInt8.toInt32 a j))
    rw [mput_own]
    congr 2
    funext q
    by_cases hq : q = x.toNatClampNeg
    · subst hq; simp [updV, upd, narrow]
    · simp [updV, upd, hq]) (kk h.2.2)
theorem sb_last {x : Int32} {v : Int64} (hs : rnSh a = (22, n)) (ha : a < σ.2.2) (hx : inb x n) (kk : SB P d K ops e lv st (mpl σ.1 a x.toNatClampNeg v, σ.2) r) : SB P d K ((pc, .lastore, 1) :: ops) e lv (.long v :: .int x :: .ref a :: st) σ r := fun h =>
  rn_write (σ' := (mpl σ.1 a x.toNatClampNeg v, σ.2)) rfl (fun X p l e R s m args below meth c H locs cells slots Q ls hC hH hS hz k2 => by
    have hw := hH.2.2.2 a ha
    rw [rnE_l hs] at hw
    show W p l e R s m args below meth c H locs cells slots Q (F0 m pc ls (.long v :: .int x :: .ref (xad X a) :: st.map (cv X)))
    rw [hH.own ha]
    refine W.last hC.1 hC.2.1 hw ((hC.kk.2 2 _ rfl).1 n (fun j => .long (mgl σ.1 a j))) (fun q => by cases q) (by show ¬ (x < 0 ∨ (arrV _ _ _).slots.size ≤ _); rw [arrV_size]; exact hx) rfl rfl h.1 fun H1 e1 z oq => ?_
    refine h.2.1 ▸ k2 H1 _ (hH.put (σ2 := (mpl σ.1 a x.toNatClampNeg v, σ.2)) ha z oq rfl (fun b hb => mpl_row _ _ _ _ _ hb) (fun b hb => rfl) ?_) (hS.put z oq (Nat.le_add_right _ _))
    rw [rnE_l hs]
    show H1[(xG X).size + a]? = some (vp_cell _ _)
    rw [e1, vp_cell_l, vp_cell_l, arrV_store]
    show some (arrV _ _ _) = some (arrV _ _ fun j => .long (mgl (mpl σ.1 a x.toNatClampNeg v) a j))
    rw [mpl_own]
    congr 2
    funext q
    by_cases hq : q = x.toNatClampNeg
    · subst hq; simp [updV, vp_updL]
    · simp [updV, vp_updL, hq]) (kk h.2.2)
end RnArr
