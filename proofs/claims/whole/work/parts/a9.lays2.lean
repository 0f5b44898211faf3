section PmLays2
theorem nI_div' {a b : Nat} (ha : a < 2147483648) (hb : b < 2147483648) : nI a / nI b = nI (a / b) := by
  apply i32_eq.mpr
  have hd : a / b ≤ a := Nat.div_le_self a b
  rw [Int32.toInt_div, nI_toInt' ha, nI_toInt' hb, nI_toInt' (by omega)]
  rw [Int.tdiv_eq_ediv_of_nonneg (by omega), ← Int.natCast_ediv]
  generalize a / b = d at *
  rw [Int.bmod_eq_of_le] <;> omega
theorem cnt_pos {f : Nat → Int32} {v : Int32} : ∀ {p : Nat}, 0 < cnt f v p ↔ ∃ j, j < p ∧ f j = v
  | 0 => ⟨fun h => absurd h (by show ¬ 0 < 0; omega), fun ⟨j, h, _⟩ => by omega⟩
  | p + 1 => by
    show 0 < cnt f v p + (if f p = v then 1 else 0) ↔ _
    constructor
    · intro h
      by_cases e : f p = v
      · exact ⟨p, by omega, e⟩
      · rw [if_neg e] at h
        obtain ⟨j, h1, h2⟩ := cnt_pos.mp h
        exact ⟨j, by omega, h2⟩
    · rintro ⟨j, h1, h2⟩
      by_cases e : j = p
      · subst e; rw [if_pos h2]; omega
      · have := (cnt_pos (f := f) (v := v) (p := p)).mpr ⟨j, by omega, h2⟩
        omega
/-- the least of u and of the q's -/
def LM (q : Nat → Nat) (S : Nat → Prop) (u r : Nat) : Prop := r ≤ u ∧ (∀ l, S l → r ≤ q l) ∧ (r = u ∨ ∃ l, S l ∧ r = q l)
theorem LM.add {q : Nat → Nat} {S T : Nat → Prop} {u r : Nat} (w : Nat) (h : LM q S u r) (hT : ∀ l, T l ↔ (S l ∨ l = w)) : LM q T u (min r (q w)) := by
  obtain ⟨h1, h2, h3⟩ := h
  refine ⟨by omega, fun l hl => ?_, ?_⟩
  · rcases (hT l).mp hl with h | rfl
    · have := h2 l h; omega
    · omega
  · by_cases e : q w ≤ r
    · exact Or.inr ⟨w, (hT w).mpr (Or.inr rfl), by omega⟩
    · have e : min r (q w) = r := by omega
      rw [e]
      rcases h3 with h | ⟨l, h, k⟩
      · exact Or.inl h
      · exact Or.inr ⟨l, (hT l).mpr (Or.inl h), k⟩
theorem LM.same {q : Nat → Nat} {S T : Nat → Prop} {u r : Nat} (h : LM q S u r) (hT : ∀ l, T l ↔ S l) : LM q T u r := by
  obtain ⟨h1, h2, h3⟩ := h
  refine ⟨h1, fun l hl => h2 l ((hT l).mp hl), h3.imp_right fun ⟨l, h, k⟩ => ⟨l, (hT l).mpr h, k⟩⟩
theorem LM.uniq {q : Nat → Nat} {S : Nat → Prop} {u u' r r' : Nat} (h : LM q S u r) (k : LM q S u' r') {l0 : Nat} (h0 : S l0) (hu : q l0 ≤ u) (hu' : q l0 ≤ u') : r = r' := by
  obtain ⟨h1, h2, h3⟩ := h
  obtain ⟨k1, k2, k3⟩ := k
  have a := h2 l0 h0
  have b := k2 l0 h0
  have e : r' ≤ r := by
    rcases h3 with h | ⟨l, hl, e⟩
    · omega
    · have := k2 l hl
      omega
  have e' : r ≤ r' := by
    rcases k3 with k | ⟨m, hm, e'⟩
    · omega
    · have := h2 m hm
      omega
  omega
theorem times_K {A : Mm} {v c : Nat → Nat} (hv : ∀ l, l < 26 → A 141 l = nI (v l) ∧ v l ≤ 9) (hc : ∀ l, l < 26 → A 142 l = nI (c l) ∧ c l ≤ 8) (h5 : ¬ A 138 5 = 0) : Go (fI_timesLaid A) (fun y => ∃ r, y = nI r ∧ LM (fun l => v l / c l) (fun l => l < 26 ∧ 0 < c l) 9 r) := by
  unfold fI_timesLaid
  refine Go.no (h5) ?_
  refine Go.bind (P := fun y => ∃ r, y = nI r ∧ LM (fun l => v l / c l) (fun l => l < 26 ∧ 0 < c l) 9 r) ?_ (fun e he => Go.some he)
  refine go_for (fun i s => ∃ r, s = (nI r, nI i) ∧ LM (fun l => v l / c l) (fun l => l < i ∧ 0 < c l) 9 r) 26 ?_ ?_ (i := 0) (by omega) ⟨9, rfl, Nat.le_refl _, fun l hl => by omega, Or.inl rfl⟩ (by omega)
  · rintro s ⟨r, rfl, h⟩
    unfold fI_timesLaid_b14
    dsimp only
    exact Go.yes (by decide) (Go.some ⟨r, rfl, h⟩)
  · rintro i s hi ⟨r, rfl, h⟩
    unfold fI_timesLaid_b14
    dsimp only
    have hr := h.1
    rw [jix_nI (by omega), (hv i hi).1, (hc i hi).1]
    have hv9 := (hv i hi).2
    have hc8 := (hc i hi).2
    have hq : v i / c i ≤ v i := Nat.div_le_self _ _
    refine Go.no (by rw [lit_nI, nI_le' (by omega) (by omega)]; omega) ?_
    refine Go.gd ((inb_nI (by omega)).mpr (by omega)) ?_
    refine go_bind.mpr ?_
    by_cases e : c i = 0
    · refine Go.yes (by rw [e]; decide) ?_
      refine Go.some ?_
      refine Go.some ?_
      refine ⟨r, by rw [nI_1], h.same fun l => ⟨fun ⟨a, b⟩ => ⟨?_, b⟩, fun ⟨a, b⟩ => ⟨by omega, b⟩⟩⟩
      have : l ≠ i := fun q => by subst q; omega
      omega
    · refine Go.no (by rw [← nI_zero, nI_le' (by omega) (by omega)]; omega) ?_
      refine Go.gd ((inb_nI (by omega)).mpr (by omega)) ?_
      refine Go.gd ((inb_nI (by omega)).mpr (by omega)) ?_
      refine Go.gd (by rw [← nI_zero, nI_eq' (by omega) (by omega)]; exact e) ?_
      refine Go.some ?_
      refine Go.some ?_
      rw [nI_div' (by omega) (by omega), jmin_nI (by omega) (by omega)]
      refine ⟨_, by rw [nI_1], h.add i fun l => ⟨fun ⟨a, b⟩ => ?_, fun q => ?_⟩⟩
      · by_cases k : l = i
        · exact Or.inr k
        · exact Or.inl ⟨by omega, b⟩
      · rcases q with ⟨a, b⟩ | rfl
        · exact ⟨by omega, b⟩
        · exact ⟨by omega, by omega⟩
def lc (f : Nat → Int32) (p l : Nat) : Nat := if l < 26 then cnt f (nI l) p else 0
theorem lc_in {f : Nat → Int32} {p l : Nat} (h : l < 26) : lc f p l = cnt f (nI l) p := if_pos h
theorem lc_le (f : Nat → Int32) (p l : Nat) : lc f p l ≤ p := by
  unfold lc
  split
  · exact cnt_le _ _ _
  · omega
theorem lc_step {f : Nat → Int32} {i w : Nat} (hw : w < 26) (e : f i = nI w) : ∀ l, lc f (i + 1) l = if l = w then lc f i l + 1 else lc f i l := by
  intro l
  by_cases hl : l < 26
  · rw [lc_in hl, lc_in hl]
    show cnt f (nI l) i + (if f i = nI l then 1 else 0) = _
    rw [e]
    by_cases k : l = w
    · rw [if_pos k, if_pos (by rw [k])]
    · rw [if_neg k, if_neg (fun q => k (((nI_eq' (by omega) (by omega)).mp q).symm)), Nat.add_zero]
  · have e1 : ∀ p, lc f p l = 0 := fun p => if_neg hl
    rw [e1, e1, if_neg (by omega)]
theorem lc_sum {f : Nat → Int32} {p : Nat} (hw : ∀ i, i < p → ∃ l, l < 26 ∧ f i = nI l) : sumf (lc f p) 26 = p := by
  induction p with
  | zero => exact sumf_0 (fun l => by unfold lc; split <;> rfl) 26
  | succ p ih =>
    obtain ⟨w, h1, h2⟩ := hw p (by omega)
    rw [(sumf_upd (lc_step h1 h2) (i := 26)).2 h1, ih fun i hi => hw i (by omega)]
theorem sumf_mono (f : Nat → Nat) {i : Nat} : ∀ {j : Nat}, i ≤ j → sumf f i ≤ sumf f j
  | 0, h => by have : i = 0 := by omega
               subst this; exact Nat.le_refl _
  | j + 1, h => by
    by_cases e : i = j + 1
    · subst e; exact Nat.le_refl _
    · have := sumf_mono f (i := i) (j := j) (by omega)
      show _ ≤ sumf f j + f j
      omega
theorem orders_K {A : Mm} {c : Nat → Nat} (hc : ∀ l, l < 26 → A 142 l = nI (c l)) (hs : sumf c 26 ≤ 8) : Go (fI_orders A) (fun y => ∃ O, y = nI O ∧ O * prodf c 26 = fct (sumf c 26)) := by
  unfold fI_orders
  refine Go.bind (P := fun y => ∃ O, y = nI O ∧ O * prodf c 26 = fct (sumf c 26)) ?_ (fun e he => Go.some he)
  refine go_for (fun i s => ∃ O, s = (nI O, nI (sumf c i), nI i) ∧ O * prodf c i = fct (sumf c i)) 26 ?_ ?_ (i := 0) (by omega) ⟨1, rfl, rfl⟩ (by omega)
  · rintro s ⟨r, rfl, h⟩
    unfold fI_orders_b7
    dsimp only
    exact Go.yes (by decide) (Go.some ⟨r, rfl, h⟩)
  · rintro i s hi ⟨O, rfl, h⟩
    unfold fI_orders_b7
    dsimp only
    have hsi : sumf c i + c i ≤ 8 := Nat.le_trans (sumf_mono c (i := i + 1) (j := 26) (by omega)) hs
    refine Go.no (by rw [lit_nI, nI_le' (by omega) (by omega)]; omega) ?_
    refine Go.bind (P := fun e => ∃ O, e = (nI O, nI (sumf c (i + 1))) ∧ O * prodf c (i + 1) = fct (sumf c (i + 1))) ?_ ?_
    · refine go_for (fun a s => ∃ O, s = (nI O, nI (sumf c i + a), nI (a + 1)) ∧ O * (prodf c i * fct a) = fct (sumf c i + a)) (c i) ?_ ?_ (i := 0) (by omega) ⟨O, rfl, ?_⟩ (by omega)
      · rintro s ⟨O, rfl, h⟩
        unfold fI_orders_b17
        dsimp only
        rw [jix_nI (by omega), hc i hi]
        refine Go.gd ((inb_nI (by omega)).mpr (by omega)) ?_
        refine Go.yes (by rw [nI_lt' (by omega) (by omega)]; omega) ?_
        refine Go.some ?_
        exact ⟨O, rfl, h⟩
      · rintro a s ha ⟨O, rfl, h⟩
        unfold fI_orders_b17
        dsimp only
        rw [jix_nI (by omega), hc i hi]
        have hO := ord_le (Nat.mul_pos (prodf_pos c i) (fct_pos a)) h (by omega)
        have hb : O * (sumf c i + a + 1) ≤ 40320 * 9 := Nat.mul_le_mul hO (by omega)
        refine Go.gd ((inb_nI (by omega)).mpr (by omega)) ?_
        refine Go.no (by rw [nI_lt' (by omega) (by omega)]; omega) ?_
        refine Go.gd (by rw [← nI_zero, nI_eq' (by omega) (by omega)]; omega) ?_
        refine Go.some ?_
        refine ⟨O * (sumf c i + a + 1) / (a + 1), ?_, ?_⟩
        · rw [nI_1, nI_1, nI_mul', nI_div' (by omega) (by omega)]
          rfl
        · have e : prodf c i * fct (a + 1) = prodf c i * fct a * (a + 1) := by
            show _ * ((a + 1) * fct a) = _
            rw [Nat.mul_comm (a + 1), Nat.mul_assoc]
          have := ord_step (n := sumf c i + a) (a := a + 1) (Nat.mul_pos (prodf_pos c i) (fct_pos a)) (by omega) h (by
            rw [← e]
            exact Nat.dvd_trans (Nat.mul_dvd_mul (prodf_dvd c i) (Nat.dvd_refl _)) (fct_dvd _ _ _ rfl))
          rw [e]
          exact this
      · show O * (prodf c i * 1) = _
        rw [Nat.mul_one]; exact h
    · rintro e ⟨O, rfl, h⟩
      dsimp only
      refine Go.some ?_
      exact ⟨O, by rw [nI_1], h⟩
theorem lays_M {M : Mm} {v : Nat → Nat} {p : Nat} (x : Int32) (u : Nat) (hu : u < 2147483648) (hp : p ≤ 8) (h53 : M 217 53 = nI p) (hw : ∀ i, i < p → ∃ l, l < 26 ∧ M 247 i = nI l) (hv : ∀ l, l < 26 → M 246 l = nI (v l) ∧ v l ≤ 9) :
    Go (lp 1000000 (fun s => fM_lays_b37 x M s.1 s.2.1 s.2.2) (nI u, 1, 0)) (fun e => ∃ r O, e = (nI r, nI O) ∧ LM (fun l => v l / lc (M 247) p l) (fun l => l < 26 ∧ 0 < lc (M 247) p l) u r ∧ O * prodf (lc (M 247) p) 26 = fct p) := by
  refine go_for (fun i s => ∃ r O, s = (nI r, nI O, nI i) ∧ LM (fun l => v l / lc (M 247) p l) (fun l => l < 26 ∧ 0 < lc (M 247) i l) u r ∧ O * prodf (lc (M 247) i) 26 = fct i) p ?_ ?_ (i := 0) (by omega) ⟨u, 1, rfl, ⟨Nat.le_refl _, fun l hl => ?_, Or.inl rfl⟩, ?_⟩ (by omega)
  · rintro s ⟨r, O, rfl, h⟩
    unfold fM_lays_b37
    dsimp only
    rw [h53]
    exact Go.yes (i32_le.mpr (Int.le_refl _)) (Go.some ⟨r, O, rfl, h⟩)
  · rintro i s hi ⟨r, O, rfl, h, k⟩
    unfold fM_lays_b37
    dsimp only
    obtain ⟨w, w1, w2⟩ := hw i hi
    have hr := h.1
    have hc1 : lc (M 247) p w ≤ 8 := Nat.le_trans (lc_le _ _ _) hp
    have hc0 : 0 < lc (M 247) p w := by rw [lc_in w1]; exact cnt_pos.mpr ⟨i, hi, w2⟩
    have hst := lc_step w1 w2
    have hg : lc (M 247) (i + 1) w = lc (M 247) i w + 1 := by rw [hst w, if_pos rfl]
    have hgl := lc_le (M 247) i w
    have hq : v w / lc (M 247) p w ≤ v w := Nat.div_le_self _ _
    have hv9 := (hv w w1).2
    have hP := prodf_pos (lc (M 247) i) 26
    have hO := ord_le hP k (by omega)
    have hb : O * (i + 1) ≤ 40320 * 8 := Nat.mul_le_mul hO (by omega)
    rw [jix_nI (by omega), w2, h53, jix_nI (by omega), (hv w w1).1, nI_1, need_eq _ hp, need_eq _ (by omega), ← lc_in w1, ← lc_in w1, hg]
    refine Go.no (by rw [nI_le' (by omega) (by omega)]; omega) ?_
    refine Go.gd ((inb_nI (by omega)).mpr (by omega)) ?_
    refine Go.gd ((inb_nI (by omega)).mpr (by omega)) ?_
    refine Go.gd ((inb_nI (by omega)).mpr (by omega)) ?_
    refine go_bind.mpr ?_
    refine Go.some ?_
    refine Go.gd (by rw [← nI_zero, nI_eq' (by omega) (by omega)]; omega) ?_
    refine Go.gd ((inb_nI (by omega)).mpr (by omega)) ?_
    refine go_bind.mpr ?_
    refine Go.some ?_
    refine Go.gd (by rw [← nI_zero, nI_eq' (by omega) (by omega)]; omega) ?_
    refine Go.some ?_
    refine ⟨_, O * (i + 1) / (lc (M 247) i w + 1), ?_, h.add w fun l => ?_, ?_⟩
    rotate_left
    · rw [hst l]
      by_cases e : l = w
      · subst e; simp [w1]
      · simp [e]
    · rw [(prodf_upd hst (i := 26)).2 w1]
      refine ord_step hP (by omega) k ?_
      rw [← (prodf_upd hst (i := 26)).2 w1]
      have := prodf_dvd (lc (M 247) (i + 1)) 26
      rwa [lc_sum (fun j hj => hw j (by omega))] at this
    · rw [← jmin_eq, nI_mul', nI_div' (by omega) (by omega), nI_div' (by omega) (by omega), jmin_nI (by omega) (by omega)]
  · exfalso
    have : lc (M 247) 0 l = 0 := by unfold lc; split <;> rfl
    omega
  · rw [prodf_congr (g := fun _ => 0) (fun l _ => by unfold lc; split <;> rfl)]
    decide
theorem sim_lays {A B : Mm} (x : Int32) (h : RR A B) : Sim A B ((fK_lays x A).bind fun v => some (v, A)) (fM_lays x B) := by
  have h0 := h
  obtain ⟨-, -, ⟨-, -, hS, ⟨hA5, p, hp, hc2, hw, hA4⟩, -⟩, -⟩ := h0
  have e5 : A 138 5 = nI p := hA5.trans hc2
  have hv : ∀ l, l < 26 → B 246 l = nI (B 246 l).toInt.toNat ∧ (B 246 l).toInt.toNat ≤ 9 := by
    intro l hl
    obtain ⟨-, v, v1, v2⟩ := hS l hl
    rw [v2, nI_toInt' (by omega)]
    exact ⟨rfl, by omega⟩
  have hvA : ∀ l, l < 26 → A 141 l = nI (B 246 l).toInt.toNat ∧ (B 246 l).toInt.toNat ≤ 9 := fun l hl => ⟨(hS l hl).1.trans (hv l hl).1, (hv l hl).2⟩
  have hcA : ∀ l, l < 26 → A 142 l = nI (lc (B 247) p l) ∧ lc (B 247) p l ≤ 8 := fun l hl => ⟨by rw [lc_in hl]; exact hA4 l hl, Nat.le_trans (lc_le _ _ _) hp⟩
  have hsum := lc_sum hw
  have hM := lays_M (M := mput B 217 0 0) (v := fun l => (B 246 l).toInt.toNat) (p := p) x (if p = 0 then 0 else 100000000) (by split <;> omega) hp (by rw [mput_s (by omega)]; exact hc2) (fun i hi => by rw [mput_r (by omega)]; exact hw i hi) (fun l hl => by rw [mput_r (by omega)]; exact hv l hl)
  have hu : (if mput B 217 0 0 217 53 = 0 then (0 : Int32) else 100000000) = nI (if p = 0 then 0 else 100000000) := by
    rw [mput_s (by omega), show B 217 53 = nI p from hc2]
    by_cases e : p = 0
    · subst e; rfl
    · rw [if_neg (by rw [← nI_zero, nI_eq' (by omega) (by omega)]; exact e), if_neg e]; rfl
  unfold Sim fK_lays fM_lays
  simp only [isIn_eq, hu]
  rcases within_nI1 x (a := 0) (b := 1) (by omega) (by omega) with ⟨q, k, -, k1, rfl⟩ | ⟨q, q1⟩
  rotate_left
  · have q : fK_isWithin x 0 1 = 0 := q
    refine go_bind.mpr ?_
    refine Go.no (fun e => q1 0 (by omega) (by omega) e) ?_
    refine Go.no (fun e => q1 1 (by omega) (by omega) e) ?_
    refine Go.some ?_
    refine Go.some ?_
    refine Go.yes (q) ?_
    refine Go.some ?_
    exact ⟨rfl, fin_0 h⟩
  have q : fK_isWithin (nI k) 0 1 = 1 := q
  obtain ⟨e, hMe, r, O, rfl, hr, hO⟩ := hM
  have hk : k = 0 ∨ k = 1 := by omega
  rcases hk with rfl | rfl
  · refine go_bind.mpr ?_
    refine Go.yes (by first | rfl | (simp; done)) ?_
    refine go_bind.mpr ?_
    by_cases hp0 : p = 0
    · unfold fI_timesLaid
      refine Go.yes (by rw [e5, hp0]; rfl) ?_
      refine Go.some ?_
      refine Go.some ?_
      refine Go.some ?_
      refine Go.no (by rw [q]; decide) ?_
      refine go_bind.mpr ?_
      rw [hMe]
      refine Go.some ?_
      refine Go.yes (by first | rfl | (simp; done)) ?_
      refine Go.some ?_
      refine ⟨?_, fin_0 h⟩
      have := hr.1
      rw [if_pos hp0] at this
      have e : r = 0 := by omega
      rw [e]; rfl
    · refine (times_K hvA hcA (by rw [e5, ← nI_zero, nI_eq' (by omega) (by omega)]; exact hp0)).mono ?_
      rintro y ⟨r', rfl, hr'⟩
      refine Go.some ?_
      refine Go.some ?_
      refine Go.no (by rw [q]; decide) ?_
      refine go_bind.mpr ?_
      rw [hMe]
      refine Go.some ?_
      refine Go.yes (by first | rfl | (simp; done)) ?_
      refine Go.some ?_
      refine ⟨?_, fin_0 h⟩
      rw [if_neg hp0] at hr
      obtain ⟨w, w1, w2⟩ := hw 0 (by omega)
      have h9 := (hv w w1).2
      have hd : (B 246 w).toInt.toNat / lc (B 247) p w ≤ (B 246 w).toInt.toNat := Nat.div_le_self _ _
      have e : r' = r := LM.uniq hr' hr (l0 := w) ⟨w1, by rw [lc_in w1]; exact cnt_pos.mpr ⟨0, by omega, w2⟩⟩ (by omega) (by omega)
      rw [e]
  · refine go_bind.mpr ?_
    refine Go.no (by first | decide | (simp; done)) ?_
    refine Go.yes (by first | rfl | (simp; done)) ?_
    refine go_bind.mpr ?_
    refine (orders_K (fun l hl => (hcA l hl).1) (by rw [hsum]; exact hp)).mono ?_
    rintro y ⟨O', rfl, hO'⟩
    refine Go.some ?_
    refine Go.some ?_
    refine Go.no (by rw [q]; decide) ?_
    refine go_bind.mpr ?_
    rw [hMe]
    refine Go.some ?_
    refine Go.no (by first | decide | (simp; done)) ?_
    refine Go.some ?_
    refine ⟨?_, fin_0 h⟩
    rw [hsum] at hO'
    have e : O' = O := Nat.eq_of_mul_eq_mul_right (prodf_pos (lc (B 247) p) 26) (hO'.trans hO.symm)
    rw [e]
end PmLays2
