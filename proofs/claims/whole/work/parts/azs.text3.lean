section PmText3
theorem readK {A2 A3 A4 A' : Mm} {x L v : Int32} {y : Mm ⊕ Mm} (s1 : fO_scan L A2 = some A3) (s2 : fT_clearOne x A3 = some A4) (s3 : lp 1000000 (fun s => fR_read_b31 x s.1 s.2) (0, mput (mput A4 146 4 0) 146 5 v) = some y) (hy : y = Sum.inl A' ∨ y = Sum.inr A') : fR_read x L v A2 = some (if A' 146 1 = 0 then 1 else 0, A') := by
  refine Go.eq ?_
  unfold fR_read
  rw [s1]
  refine go_bind.mpr ?_
  refine Go.some ?_
  refine go_bind.mpr ?_
  rw [s2]
  refine Go.some ?_
  refine go_bind.mpr ?_
  refine ⟨y, s3, ?_⟩
  rcases hy with rfl | rfl
  · dsimp only
    by_cases q : A' 146 1 = 0
    · refine Go.yes (q) ?_
      refine Go.some ?_
      rw [if_pos q]
    · refine Go.no (q) ?_
      refine Go.some ?_
      rw [if_neg q]
  · dsimp only
    by_cases q : A' 146 1 = 0
    · refine Go.yes (q) ?_
      refine Go.some ?_
      rw [if_pos q]
    · refine Go.no (q) ?_
      refine Go.some ?_
      rw [if_neg q]
/-- the start of a reading, on both sides -/
def aT0 (A : Mm) : Mm := mput (mput (mput A 0 10 0) 146 1 0) 146 2 (-1)
def bT0 (B : Mm) : Mm := mput (mput (mput (mput (mput (mput B 217 0 0) 217 30 0) 217 31 (-1)) 217 11 0) 217 24 0) 217 25 0
theorem aT0_fr (A : Mm) (c k : Nat) (h : ¬ ((c = 0 ∧ k = 10) ∨ (c = 146 ∧ (k = 1 ∨ k = 2)))) : aT0 A c k = A c k := by
  unfold aT0; rw [mput_q (by omega), mput_q (by omega), mput_q (by omega)]
theorem bT0_fr (B : Mm) (c k : Nat) (h : ¬ (c = 217 ∧ (k = 0 ∨ k = 30 ∨ k = 31 ∨ k = 11 ∨ k = 24 ∨ k = 25))) : bT0 B c k = B c k := by
  unfold bT0; rw [mput_q (by omega), mput_q (by omega), mput_q (by omega), mput_q (by omega), mput_q (by omega), mput_q (by omega)]
theorem bT0_30 (B : Mm) : bT0 B 217 30 = 0 ∧ bT0 B 217 31 = -1 ∧ bT0 B 217 11 = 0 ∧ bT0 B 217 24 = 0 ∧ bT0 B 217 25 = 0 := by
  unfold bT0
  refine ⟨?_, ?_, ?_, ?_, ?_⟩
  · rw [mput_s (by omega), mput_s (by omega), mput_s (by omega), mput_s (by omega), mput_same]
  · rw [mput_s (by omega), mput_s (by omega), mput_s (by omega), mput_same]
  · rw [mput_s (by omega), mput_s (by omega), mput_same]
  · rw [mput_s (by omega), mput_same]
  · rw [mput_same]
theorem text_none {A B : Mm} (h : RR A B) : RR (aT0 A) (mput (bT0 B) 217 10 0) ∧ KF A (aT0 A) ∧ MF B (mput (bT0 B) 217 10 0) ∧ CNs B (mput (bT0 B) 217 10 0) := by
  have a : ∀ c k, ¬ ((c = 0 ∧ k = 10) ∨ (146 ≤ c ∧ c ≤ 167)) → aT0 A c k = A c k := fun c k q => aT0_fr A c k (by omega)
  have m : ∀ c k, ¬ (c = 217 ∧ (k = 0 ∨ (10 ≤ k ∧ k ≤ 14) ∨ (23 ≤ k ∧ k ≤ 31))) → mput (bT0 B) 217 10 0 c k = B c k := fun c k q => by rw [mput_q (by omega)]; exact bT0_fr B c k (by omega)
  have hX := h.2.1
  refine fin_text h ⟨Lw_low (fun c k p q => a c k (by omega)) (m 225 0 (by omega)) (fun c k p q r => m c k (by omega)) (fun k hk => ⟨m 230 k (by omega), m 231 k (by omega)⟩) hX.1, Po_low (fun c k q => a c k (by omega)) (m 217 32 (by omega)) (fun k hk => m 233 k (by omega)) hX.2.1, Wk_low (fun c k q => a c k (by omega)) (m 217 34 (by omega)) (fun k hk => m 234 k (by omega)) hX.2.2.1, St_low (fun c k q => a c k (by omega)) (m 217 36 (by omega)) (fun k hk => m 235 k (by omega)) hX.2.2.2⟩ (RT_0 ?_ (mput_same _ _ _ _)) ⟨?_, ?_⟩ (RP_same (fun c k q => a c k (by omega)) (fun c k q => m c k (by omega))) (fun c k q => a c k (by omega)) (fun c k q => m c k (by omega))
  · unfold aT0; rw [mput_r (by omega), mput_r (by omega), mput_same]
  · rw [mput_s (by omega), (bT0_30 B).1]; unfold aT0; rw [mput_s (by omega), mput_same]
  · rw [mput_s (by omega), (bT0_30 B).2.1]; unfold aT0; rw [mput_same]
/-- what a reading ends with, on both sides, for a kind x -/
theorem sim_text {A B : Mm} (x : Int32) (h : RR A B) : Sim A B (fK_text x A) (fM_text x B) := by
  have h0 := h
  obtain ⟨⟨nd, ⟨⟨_, _, _, ⟨hd, hA2, -⟩, -, -⟩, h6, -⟩, -⟩, -, -, ⟨L, hL, hA10, hB10, hby⟩, -, -, ⟨-, -, -, hwd⟩⟩ := h0
  have hA2 : A 2 0 = nI nd := hA2
  obtain ⟨b, hb⟩ := Classical.axiomOfChoice (r := fun k (v : Nat) => k < L → v < 256 ∧ B 223 k = nI v ∧ A 178 k = jbyte (nI v)) (fun k => by
    by_cases e : k < L
    · obtain ⟨v, hv⟩ := hby k e
      exact ⟨v, fun _ => hv⟩
    · exact ⟨0, fun e' => absurd e' e⟩)
  have eK : fK_text x A = (if fK_isWithin x 0 3 = 0 then some ((-1 : Int32), aT0 A) else Option.bind (fR_read x (nI L) (nI nd) (aT0 A)) fun qz6 => if qz6.1 = 0 then some (-1, qz6.2) else Option.bind (if x = 1 then some (fP_forget (fT_copyOne 123 147 x qz6.2)) else if x = 2 then some (fP_forget (fT_copyOne 123 147 x qz6.2)) else some (fT_copyOne 123 147 x qz6.2)) fun Mz10 => some (fT_linesOf x Mz10, Mz10)) := by
    unfold fK_text
    have e2 : fR_forgive (mput A 0 10 0) = aT0 A := rfl
    have e3 : aT0 A 2 0 = nI nd := by rw [aT0_fr A 2 0 (by omega)]; exact hA2
    dsimp only
    rw [e2, e3, hA10]
  have eM : fM_text x B = Option.bind (if fK_isWithin x 0 3 = 0 then some ((-1 : Int32), bT0 B) else Option.bind (fM_readsText x (bT0 B)) fun qz9 => if qz9.1 = -1 then some (qz9.1, mput (mput qz9.2 217 30 (qz9.2 217 28)) 217 31 (mput qz9.2 217 30 (qz9.2 217 28) 217 29)) else some (qz9.1, qz9.2)) fun t69 => if t69.1 = -1 then some (-1, mput t69.2 217 10 0) else if x = 0 then Option.bind (fM_takesLaw t69.1 (mput t69.2 217 10 0)) fun Mz18 => some (t69.1, Mz18) else Option.bind (fM_takesOther x t69.1 (mput t69.2 217 10 0)) fun Mz16 => some (t69.1, Mz16) := rfl
  unfold Sim
  rw [eK, eM]
  rcases within_nI1 x (a := 0) (b := 3) (by omega) (by omega) with ⟨q, kd, -, hkd, rfl⟩ | ⟨q, -⟩
  rotate_left
  · have q : fK_isWithin x 0 3 = 0 := q
    refine Go.yes (q) ?_
    refine Go.some ?_
    refine go_bind.mpr ?_
    refine Go.yes (q) ?_
    refine Go.some ?_
    refine Go.yes (rfl) ?_
    refine Go.some ?_
    exact ⟨rfl, text_none h⟩
  have q : fK_isWithin (nI kd) 0 3 = 1 := q
  -- the tokens
  obtain ⟨A3, A3e, tbl, A3f⟩ := scan_go (A := aT0 A) (b := b) hL (fun k hk => by rw [aT0_fr A 178 k (by omega)]; exact ⟨(hb k hk).2.2, (hb k hk).1⟩) (by unfold aT0; rw [mput_same])
  have tp : TPm (mput (bT0 B) 217 23 0) b L := ⟨by rw [mput_s (by omega), bT0_fr B 217 10 (by omega)]; exact hB10, fun k hk => by rw [mput_r (by omega), bT0_fr B 223 k (by omega)]; exact ⟨(hb k hk).2.1, (hb k hk).1⟩, fun k hk => by rw [mput_r (by omega), bT0_fr B 224 k (by omega), hwd k hk]; exact (mWords_eq hk).1⟩
  have bd0 : BD b L 0 0 := ⟨by omega, rfl, Or.inr fun g => by have := (gO_iff.mp g).1; omega⟩
  obtain ⟨B7, B7e, ct, fr7⟩ := reads_go hL tp bd0 (by rw [mput_s (by omega)]; exact (bT0_30 B).2.2.1)
  have a3_1 : A3 146 1 = 0 := by rw [A3f 146 (by omega)]; unfold aT0; rw [mput_s (by omega), mput_same]
  have a3_10 : A3 0 10 = 0 := by rw [A3f 0 (by omega)]; unfold aT0; rw [mput_r (by omega), mput_r (by omega), mput_same]
  have start : ∀ A4 : Mm, (∀ c, c < 147 ∨ 161 < c → A4 c = A3 c) → PS (mput (mput A4 146 4 0) 146 5 (nI nd)) B7 b L 0 := fun A4 f4 => by
    refine ⟨?_, fr7.tp tp, ct, by rw [mput_s (by omega), mput_same]; rfl, by rw [mput_s (by omega), mput_s (by omega), f4 146 (by omega)]; exact a3_1, Nat.zero_le _⟩
    unfold TBL
    rw [mput_r (by omega), mput_r (by omega), mput_r (by omega), mput_r (by omega), mput_r (by omega), mput_r (by omega), mput_r (by omega), mput_r (by omega), mput_s (by omega), mput_s (by omega), f4 162 (by omega), f4 163 (by omega), f4 164 (by omega), f4 165 (by omega), f4 146 (by omega)]
    exact tbl
  have b7_6 : B7 217 6 = nI nd := by rw [fr7 217 6 (by omega), mput_s (by omega), bT0_fr B 217 6 (by omega)]; exact h6
  have b7_24 : B7 217 24 = 0 := by rw [fr7 217 24 (by omega), mput_s (by omega)]; exact (bT0_30 B).2.2.2.1
  have b7_25 : B7 217 25 = 0 := by rw [fr7 217 25 (by omega), mput_s (by omega)]; exact (bT0_30 B).2.2.2.2
  have b7_30 : B7 217 30 = 0 := by rw [fr7 217 30 (by omega), mput_s (by omega)]; exact (bT0_30 B).1
  have b7_31 : B7 217 31 = -1 := by rw [fr7 217 31 (by omega), mput_s (by omega)]; exact (bT0_30 B).2.1
  have b7_23 : B7 217 23 = 0 := by rw [fr7 217 23 (by omega), mput_same]
  have fA : ∀ {A4 A' : Mm}, (∀ c, c < 147 ∨ 161 < c → A4 c = A3 c) → gF (mput (mput A4 146 4 0) 146 5 (nI nd)) A' → tA A A' ∧ A' 0 10 = 0 := fun {A4 A'} f4 g => by
    refine ⟨fun c k w => ?_, ?_⟩
    · rw [g c k (by omega), mput_q (by omega), mput_q (by omega), f4 c (by omega), A3f c (by omega)]; exact aT0_fr A c k (by omega)
    · rw [g 0 10 (by omega), mput_r (by omega), mput_r (by omega), f4 0 (by omega)]; exact a3_10
  have fB : ∀ {B' : Mm}, hF B7 B' → tB B B' ∧ B' 217 30 = 0 ∧ B' 217 31 = -1 ∧ B' 217 23 = 0 := fun {B'} g => by
    refine ⟨fun c k w => ?_, by rw [g 217 30 (by omega)]; exact b7_30, by rw [g 217 31 (by omega)]; exact b7_31, by rw [g 217 23 (by omega)]; exact b7_23⟩
    rw [g c k (by omega), fr7 c k (by omega), mput_q (by omega)]; exact bT0_fr B c k (by omega)
  -- a fault
  have bad : ∀ {A' : Mm} {r : Int32 × Mm}, fR_read (nI kd) (nI L) (nI nd) (aT0 A) = some (0, A') → fM_readsText (nI kd) (bT0 B) = some r → r.1 = -1 → FLT A' r.2 → tA A A' → A' 0 10 = 0 → tB B r.2 → Go (if fK_isWithin (nI kd) 0 3 = 0 then some ((-1 : Int32), aT0 A) else Option.bind (fR_read (nI kd) (nI L) (nI nd) (aT0 A)) fun qz6 => if qz6.1 = 0 then some (-1, qz6.2) else Option.bind (if nI kd = 1 then some (fP_forget (fT_copyOne 123 147 (nI kd) qz6.2)) else if nI kd = 2 then some (fP_forget (fT_copyOne 123 147 (nI kd) qz6.2)) else some (fT_copyOne 123 147 (nI kd) qz6.2)) fun Mz10 => some (fT_linesOf (nI kd) Mz10, Mz10)) (fun p => Go (Option.bind (if fK_isWithin (nI kd) 0 3 = 0 then some ((-1 : Int32), bT0 B) else Option.bind (fM_readsText (nI kd) (bT0 B)) fun qz9 => if qz9.1 = -1 then some (qz9.1, mput (mput qz9.2 217 30 (qz9.2 217 28)) 217 31 (mput qz9.2 217 30 (qz9.2 217 28) 217 29)) else some (qz9.1, qz9.2)) fun t69 => if t69.1 = -1 then some (-1, mput t69.2 217 10 0) else if nI kd = 0 then Option.bind (fM_takesLaw t69.1 (mput t69.2 217 10 0)) fun Mz18 => some (t69.1, Mz18) else Option.bind (fM_takesOther (nI kd) t69.1 (mput t69.2 217 10 0)) fun Mz16 => some (t69.1, Mz16)) (fun q => p.1 = q.1 ∧ RR p.2 q.2 ∧ KF A p.2 ∧ MF B q.2 ∧ CNs B q.2)) := by
    intro A' r e1 e2 r0 fl a a10 m
    rw [e1, e2]
    have e29 : mput r.2 217 30 (r.2 217 28) 217 29 = r.2 217 29 := mput_s (by omega)
    refine Go.no (by rw [q]; decide) ?_
    refine go_bind.mpr ?_
    refine Go.some ?_
    refine Go.yes (rfl) ?_
    refine Go.some ?_
    refine go_bind.mpr ?_
    refine Go.no (by rw [q]; decide) ?_
    refine go_bind.mpr ?_
    refine Go.some ?_
    refine Go.yes (r0) ?_
    refine Go.some ?_
    refine Go.yes (r0) ?_
    refine Go.some ?_
    rw [e29]
    exact ⟨rfl, text_fail h a m ⟨fl.2.1, fl.2.2⟩ a10⟩
  -- a reading that is taken over
  have good : ∀ {A' A'' : Mm} {r : Int32 × Mm} {k : Nat}, fR_read (nI kd) (nI L) (nI nd) (aT0 A) = some (1, A') → fM_readsText (nI kd) (bT0 B) = some r → r.1 = nI k → k ≤ 16 → (if nI kd = 1 then some (fP_forget (fT_copyOne 123 147 (nI kd) A')) else if nI kd = 2 then some (fP_forget (fT_copyOne 123 147 (nI kd) A')) else some (fT_copyOne 123 147 (nI kd) A')) = some A'' → Go (if nI kd = 0 then fM_takesLaw (nI k) (mput r.2 217 10 0) else fM_takesOther (nI kd) (nI k) (mput r.2 217 10 0)) (fun B2 => fT_linesOf (nI kd) A'' = nI k ∧ RR A'' B2 ∧ KF A A'' ∧ MF B B2 ∧ CNs B B2) → Go (if fK_isWithin (nI kd) 0 3 = 0 then some ((-1 : Int32), aT0 A) else Option.bind (fR_read (nI kd) (nI L) (nI nd) (aT0 A)) fun qz6 => if qz6.1 = 0 then some (-1, qz6.2) else Option.bind (if nI kd = 1 then some (fP_forget (fT_copyOne 123 147 (nI kd) qz6.2)) else if nI kd = 2 then some (fP_forget (fT_copyOne 123 147 (nI kd) qz6.2)) else some (fT_copyOne 123 147 (nI kd) qz6.2)) fun Mz10 => some (fT_linesOf (nI kd) Mz10, Mz10)) (fun p => Go (Option.bind (if fK_isWithin (nI kd) 0 3 = 0 then some ((-1 : Int32), bT0 B) else Option.bind (fM_readsText (nI kd) (bT0 B)) fun qz9 => if qz9.1 = -1 then some (qz9.1, mput (mput qz9.2 217 30 (qz9.2 217 28)) 217 31 (mput qz9.2 217 30 (qz9.2 217 28) 217 29)) else some (qz9.1, qz9.2)) fun t69 => if t69.1 = -1 then some (-1, mput t69.2 217 10 0) else if nI kd = 0 then Option.bind (fM_takesLaw t69.1 (mput t69.2 217 10 0)) fun Mz18 => some (t69.1, Mz18) else Option.bind (fM_takesOther (nI kd) t69.1 (mput t69.2 217 10 0)) fun Mz16 => some (t69.1, Mz16)) (fun q => p.1 = q.1 ∧ RR p.2 q.2 ∧ KF A p.2 ∧ MF B q.2 ∧ CNs B q.2)) := by
    intro A' A'' r k e1 e2 r1 k16 e3 hg
    have nn : ¬ r.1 = -1 := by rw [r1]; exact nI_neg1 (by omega)
    rw [e1, e2]
    refine Go.no (by rw [q]; decide) ?_
    refine go_bind.mpr ?_
    refine Go.some ?_
    refine Go.no (by show ¬ (1 : Int32) = 0; decide) ?_
    refine go_bind.mpr ?_
    dsimp only
    rw [e3]
    refine Go.some ?_
    refine Go.some ?_
    refine go_bind.mpr ?_
    refine Go.no (by rw [q]; decide) ?_
    refine go_bind.mpr ?_
    refine Go.some ?_
    refine Go.no (nn) ?_
    refine Go.some ?_
    refine Go.no (nn) ?_
    obtain ⟨B2, B2e, l1, l2⟩ := hg
    dsimp only
    rw [r1]
    by_cases z : nI kd = 0
    · rw [if_pos z] at B2e
      refine Go.yes (z) ?_
      refine go_bind.mpr ?_
      refine ⟨B2, B2e, ?_⟩
      refine Go.some ?_
      exact ⟨l1, l2⟩
    · rw [if_neg z] at B2e
      refine Go.no (z) ?_
      refine go_bind.mpr ?_
      refine ⟨B2, B2e, ?_⟩
      refine Go.some ?_
      exact ⟨l1, l2⟩
  have hk4 : kd = 0 ∨ kd = 1 ∨ kd = 2 ∨ kd = 3 := by omega
  rcases hk4 with rfl | rfl | rfl | rfl
  · -- the law
    have c4 : fT_clearOne (nI 0) A3 = some (fL_clear A3) := rfl
    have f4 : ∀ c, c < 147 ∨ 161 < c → fL_clear A3 c = A3 c := fun c hc => by unfold fL_clear; rw [mput_r (by omega), mput_r (by omega)]
    have ps := start (fL_clear A3) f4
    obtain ⟨y, ye, r, re, A', hy, hr⟩ := law_all hL ps (by rw [mput_r (by omega), mput_r (by omega)]; exact mput_same _ _ _ _) (by rw [mput_r (by omega), mput_r (by omega)]; unfold fL_clear; rw [mput_s (by omega), mput_same]) b7_24 b7_25
    have rk := readK A3e c4 ye hy
    have rt : fM_readsText (nI 0) (bT0 B) = some r := by
      refine Go.eq ?_
      unfold fM_readsText
      dsimp only
      rw [B7e]
      refine go_bind.mpr ?_
      refine Go.some ?_
      refine Go.no (by decide) ?_
      refine Go.no (by decide) ?_
      refine Go.no (by decide) ?_
      refine go_bind.mpr ?_
      refine ⟨r, re, ?_⟩
      refine Go.some ?_
      rfl
    rcases hr with ⟨k, r1, k16, f0, i', n, ps', ed, hn, -, hD, h148, ga, hb'⟩ | ⟨r1, fl, ga, hb'⟩
    · rw [if_pos f0] at rk
      obtain ⟨m, m30, m31, m23⟩ := fB hb'
      obtain ⟨a, a10⟩ := fA f4 ga
      refine good rk rt r1 k16 rfl ?_
      rw [if_pos (show nI 0 = 0 from rfl)]
      refine (takes_law (B := mput r.2 217 10 0) k16 ed.2.2.1 (by rw [mput_s (by omega)]; exact m23) (by rw [mput_s (by omega)]; exact ed.2.1)).mono fun B2 hB => ?_
      obtain ⟨t0, t1, t2, t3⟩ := hB
      exact text_law h a m a10 f0 ps'.1.2.2.2.2 m30 m31 k16 ed hD h148 t0 (fun c j p q w => by rw [t1 c j p q w, mput_r (by omega)]) (fun j hj => by rw [(t2 j hj).1, (t2 j hj).2, mput_r (by omega), mput_r (by omega)]; exact ⟨rfl, rfl⟩) t3
    · rw [if_neg fl.1] at rk
      obtain ⟨a, a10⟩ := fA f4 ga
      exact bad rk rt r1 fl a a10 (fB hb').1
  · -- the post
    have c4 : fT_clearOne (nI 1) A3 = some (mput A3 147 1 0) := rfl
    have f4 : ∀ c, c < 147 ∨ 161 < c → mput A3 147 1 0 c = A3 c := fun c hc => mput_r (by omega)
    have ps := start (mput A3 147 1 0) f4
    obtain ⟨y, ye, r, re, A', hy, hr⟩ := post_all hL hd ps (mput_same _ _ _ _) b7_6 (by rw [mput_r (by omega), mput_r (by omega), mput_same])
    have rk := readK A3e c4 ye hy
    have rt : fM_readsText (nI 1) (bT0 B) = some r := by
      refine Go.eq ?_
      unfold fM_readsText
      dsimp only
      rw [B7e]
      refine go_bind.mpr ?_
      refine Go.some ?_
      refine Go.yes (rfl) ?_
      refine go_bind.mpr ?_
      refine ⟨r, re, ?_⟩
      refine Go.some ?_
      rfl
    rcases hr with ⟨k, r1, k16, f0, ⟨i', ps'⟩, -, -, hD, h147, ga, hb'⟩ | ⟨r1, fl, ga, hb'⟩
    · rw [if_pos f0] at rk
      obtain ⟨m, m30, m31, m23⟩ := fB hb'
      obtain ⟨a, a10⟩ := fA f4 ga
      refine good rk rt r1 k16 rfl ?_
      rw [if_neg (by decide)]
      unfold fM_takesOther
      refine Go.no (by decide) ?_
      refine Go.yes (rfl) ?_
      refine Go.bind (take_row (B := mput r.2 217 10 0) (c := 233) (off := 64) (cnt := 4 * k) (sz := 128) (f := fun x M => fM_takesOther_b49 (nI k) x M) (by omega) (by omega) (by omega) (fun M fM => ?_) (fun j M hj fM => ?_)) ?_
      · refine Go.eq ?_
        unfold fM_takesOther_b49
        refine Go.yes (by rw [(lit_nI _ : (4 : Int32) = nI 4), nI_mul']; exact i32_le.mpr (Int.le_refl _)) ?_
        refine Go.some ?_
        rfl
      · refine Go.eq ?_
        unfold fM_takesOther_b49
        have e : (64 : Int32) + nI j = nI (64 + j) := nI_add 64 j
        rw [e, jix_nI (by omega), jix_nI (by omega), nI_1]
        refine Go.no (by rw [(lit_nI _ : (4 : Int32) = nI 4), nI_mul', nI_le' (by omega) (by omega)]; omega) ?_
        refine Go.gd ((inb_nI (by omega)).mpr (by omega)) ?_
        refine Go.gd ((inb_nI (by omega)).mpr (by omega)) ?_
        refine Go.some ?_
        rfl
      · rintro B2 ⟨t1, t2, t3⟩
        refine Go.some ?_
        exact text_post h a m a10 f0 ps'.1.2.2.2.2 m30 m31 k16 hD h147 (fun j hj => by rw [mput_r (by omega), mput_r (by omega), t1 j hj, mput_r (by omega)]) (by rw [mput_s (by omega), mput_same]) (mput_same _ _ _ _) (fun c j w => by rw [mput_q (by omega), mput_q (by omega), t3 c (by omega)])
    · rw [if_neg fl.1] at rk
      obtain ⟨a, a10⟩ := fA f4 ga
      exact bad rk rt r1 fl a a10 (fB hb').1
  · -- the round
    have c4 : fT_clearOne (nI 2) A3 = some (mput A3 147 6 0) := rfl
    have f4 : ∀ c, c < 147 ∨ 161 < c → mput A3 147 6 0 c = A3 c := fun c hc => mput_r (by omega)
    have ps := start (mput A3 147 6 0) f4
    obtain ⟨y, ye, r, re, A', hy, hr⟩ := walk_all hL hd ps (mput_same _ _ _ _) b7_6 (by rw [mput_r (by omega), mput_r (by omega), mput_same])
    have rk := readK A3e c4 ye hy
    have rt : fM_readsText (nI 2) (bT0 B) = some r := by
      refine Go.eq ?_
      unfold fM_readsText
      dsimp only
      rw [B7e]
      refine go_bind.mpr ?_
      refine Go.some ?_
      refine Go.no (by decide) ?_
      refine Go.yes (rfl) ?_
      refine go_bind.mpr ?_
      refine ⟨r, re, ?_⟩
      refine Go.some ?_
      rfl
    rcases hr with ⟨k, r1, k16, f0, ⟨i', ps'⟩, -, -, hD, h147, ga, hb'⟩ | ⟨r1, fl, ga, hb'⟩
    · rw [if_pos f0] at rk
      obtain ⟨m, m30, m31, m23⟩ := fB hb'
      obtain ⟨a, a10⟩ := fA f4 ga
      refine good rk rt r1 k16 rfl ?_
      rw [if_neg (by decide)]
      unfold fM_takesOther
      refine Go.no (by decide) ?_
      refine Go.no (by decide) ?_
      refine Go.bind (take_row (B := mput r.2 217 10 0) (c := 234) (off := 16) (cnt := k) (sz := 32) (f := fun x M => fM_takesOther_b87 (nI k) x M) (by omega) (by omega) (by omega) (fun M fM => ?_) (fun j M hj fM => ?_)) ?_
      · refine Go.eq ?_
        unfold fM_takesOther_b87
        refine Go.yes (i32_le.mpr (Int.le_refl _)) ?_
        refine Go.some ?_
        rfl
      · refine Go.eq ?_
        unfold fM_takesOther_b87
        have e : (16 : Int32) + nI j = nI (16 + j) := nI_add 16 j
        rw [e, jix_nI (by omega), jix_nI (by omega), nI_1]
        refine Go.no (by rw [nI_le' (by omega) (by omega)]; omega) ?_
        refine Go.gd ((inb_nI (by omega)).mpr (by omega)) ?_
        refine Go.gd ((inb_nI (by omega)).mpr (by omega)) ?_
        refine Go.some ?_
        rfl
      · rintro B2 ⟨t1, t2, t3⟩
        refine Go.some ?_
        exact text_walk h a m a10 f0 ps'.1.2.2.2.2 m30 m31 k16 hD h147 (fun j hj => by rw [mput_r (by omega), mput_r (by omega), t1 j hj, mput_r (by omega)]) (by rw [mput_s (by omega), mput_same]) (mput_same _ _ _ _) (fun c j w => by rw [mput_q (by omega), mput_q (by omega), t3 c (by omega)])
    · rw [if_neg fl.1] at rk
      obtain ⟨a, a10⟩ := fA f4 ga
      exact bad rk rt r1 fl a a10 (fB hb').1
  · -- the streets
    have c4 : fT_clearOne (nI 3) A3 = some (mfill (mput A3 147 8 0) 161 144 0) := by
      refine Go.eq ?_
      unfold fT_clearOne
      refine Go.no (by decide) ?_
      refine Go.no (by decide) ?_
      refine Go.no (by decide) ?_
      refine go_bind.mpr ?_
      rw [fill_eq (by omega)]
      refine Go.some ?_
      refine Go.some ?_
      rfl
    have f4 : ∀ c, c < 147 ∨ 161 < c → mfill (mput A3 147 8 0) 161 144 0 c = A3 c := fun c hc => by rw [mfill_r (by omega), mput_r (by omega)]
    have ps := start (mfill (mput A3 147 8 0) 161 144 0) f4
    obtain ⟨y, ye, r, re, A', hy, hr⟩ := street_all hL hd ps (mput_same _ _ _ _) b7_6 (by rw [mput_r (by omega), mput_r (by omega), mfill_r (by omega), mput_same]) (fun j hj => by rw [mput_r (by omega), mput_r (by omega), mfill_in hj])
    have rk := readK A3e c4 ye hy
    have rt : fM_readsText (nI 3) (bT0 B) = some r := by
      refine Go.eq ?_
      unfold fM_readsText
      dsimp only
      rw [B7e]
      refine go_bind.mpr ?_
      refine Go.some ?_
      refine Go.no (by decide) ?_
      refine Go.no (by decide) ?_
      refine Go.yes (rfl) ?_
      refine go_bind.mpr ?_
      refine ⟨r, re, ?_⟩
      refine Go.some ?_
      rfl
    rcases hr with ⟨k, r1, k16, f0, ⟨i', ps'⟩, -, -, hD, -, h147, ga, hb'⟩ | ⟨r1, fl, ga, hb'⟩
    · rw [if_pos f0] at rk
      obtain ⟨m, m30, m31, m23⟩ := fB hb'
      obtain ⟨a, a10⟩ := fA f4 ga
      refine good rk rt r1 k16 rfl ?_
      rw [if_neg (by decide)]
      unfold fM_takesOther
      refine Go.yes (rfl) ?_
      refine Go.bind (take_row (B := mput r.2 217 10 0) (c := 235) (off := 144) (cnt := 144) (sz := 288) (f := fun x M => fM_takesOther_b7 (nI k) x M) (by omega) (by omega) (by omega) (fun M fM => ?_) (fun j M hj fM => ?_)) ?_
      · refine Go.eq ?_
        unfold fM_takesOther_b7
        refine Go.yes (i32_le.mpr (Int.le_refl _)) ?_
        refine Go.some ?_
        rfl
      · refine Go.eq ?_
        unfold fM_takesOther_b7
        have e : (144 : Int32) + nI j = nI (144 + j) := nI_add 144 j
        rw [e, jix_nI (by omega), jix_nI (by omega), nI_1]
        refine Go.no (by rw [(lit_nI _ : (144 : Int32) = nI 144), nI_le' (by omega) (by omega)]; omega) ?_
        refine Go.gd ((inb_nI (by omega)).mpr (by omega)) ?_
        refine Go.gd ((inb_nI (by omega)).mpr (by omega)) ?_
        refine Go.some ?_
        rfl
      · rintro B2 ⟨t1, t2, t3⟩
        refine Go.some ?_
        exact text_street h a m a10 f0 ps'.1.2.2.2.2 m30 m31 k16 hD h147 (fun j hj => by rw [mput_r (by omega), t1 j hj, mput_r (by omega)]) (mput_same _ _ _ _) (fun c j w => by rw [mput_q (by omega), t3 c (by omega)])
    · rw [if_neg fl.1] at rk
      obtain ⟨a, a10⟩ := fA f4 ga
      exact bad rk rt r1 fl a a10 (fB hb').1
end PmText3
