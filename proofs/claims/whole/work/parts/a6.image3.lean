section PmImage3
theorem copyL_eq (w v : Nat) (M : Mm) : fL_copyFrom w v M = mcp (mcp (mcp (mcp (mcp (scp (scp M w v 0) w v 1) (v + 1) (w + 1) 0 0 16) (v + 2) (w + 2) 0 0 16) (v + 3) (w + 3) 0 0 16) (v + 4) (w + 4) 0 0 16) (v + 5) (w + 5) 0 0 400 := rfl
def cpT0 (w v : Nat) (M : Mm) : Mm := mcp (mcp (mcp (mcp (mcp (scp (scp M (w + 1) (v + 1) 0) (w + 1) (v + 1) 1) (v + 2) (w + 2) 0 0 16) (v + 3) (w + 3) 0 0 16) (v + 4) (w + 4) 0 0 16) (v + 5) (w + 5) 0 0 16) (v + 6) (w + 6) 0 0 400
def cpT1 (w v : Nat) (M : Mm) : Mm := mcp (mcp (mcp (mcp (scp M w v 1) (v + 9) (w + 9) 0 0 16) (v + 10) (w + 10) 0 0 16) (v + 11) (w + 11) 0 0 16) (v + 12) (w + 12) 0 0 16
def cpT2 (w v : Nat) (M : Mm) : Mm := mcp (scp M w v 6) (v + 13) (w + 13) 0 0 16
def cpT3 (w v : Nat) (M : Mm) : Mm := mcp (scp M w v 8) (v + 14) (w + 14) 0 0 144
theorem copyT_eq (w v : Nat) (M : Mm) : fT_copyFrom w v M = some (cpT3 w v (cpT2 w v (cpT1 w v (cpT0 w v M)))) := by
  unfold fT_copyFrom
  have t1 : lp 1000000 (fun s : Int32 × Mm => fT_copyFrom_b2 w v s.1 s.2) (0, M) = lp 999999 (fun s : Int32 × Mm => fT_copyFrom_b2 w v s.1 s.2) (1, cpT0 w v M) := lp_inl (n := 999999) rfl
  have t2 : lp 999999 (fun s : Int32 × Mm => fT_copyFrom_b2 w v s.1 s.2) (1, cpT0 w v M) = lp 999998 (fun s : Int32 × Mm => fT_copyFrom_b2 w v s.1 s.2) (2, cpT1 w v (cpT0 w v M)) := lp_inl (n := 999998) rfl
  have t3 : lp 999998 (fun s : Int32 × Mm => fT_copyFrom_b2 w v s.1 s.2) (2, cpT1 w v (cpT0 w v M)) = lp 999997 (fun s : Int32 × Mm => fT_copyFrom_b2 w v s.1 s.2) (3, cpT2 w v (cpT1 w v (cpT0 w v M))) := lp_inl (n := 999997) rfl
  have t4 : lp 999997 (fun s : Int32 × Mm => fT_copyFrom_b2 w v s.1 s.2) (3, cpT2 w v (cpT1 w v (cpT0 w v M))) = lp 999996 (fun s : Int32 × Mm => fT_copyFrom_b2 w v s.1 s.2) (4, cpT3 w v (cpT2 w v (cpT1 w v (cpT0 w v M)))) := lp_inl (n := 999996) rfl
  have t5 : lp 999996 (fun s : Int32 × Mm => fT_copyFrom_b2 w v s.1 s.2) (4, cpT3 w v (cpT2 w v (cpT1 w v (cpT0 w v M)))) = some (cpT3 w v (cpT2 w v (cpT1 w v (cpT0 w v M)))) := lp_inr (n := 999995) rfl
  rw [t1, t2, t3, t4, t5]; rfl
theorem TxR_cpy {M : Mm} {w v : Nat} {nl np nw ns : Int32} {lw lf lg lh op ar po wa st : Nat → Int32} (hs : w + 14 < v ∨ v + 14 < w) (h : TxR M v nl np nw ns lw lf lg lh op ar po wa st) :
    TxR (cpT3 w v (cpT2 w v (cpT1 w v (cpT0 w v M)))) w nl np nw ns lw lf lg lh op ar po wa st ∧ ∀ c k, (c < w ∨ w + 14 < c) → cpT3 w v (cpT2 w v (cpT1 w v (cpT0 w v M))) c k = M c k := by
  obtain ⟨M', hM⟩ : ∃ M', M' = cpT3 w v (cpT2 w v (cpT1 w v (cpT0 w v M))) := ⟨_, rfl⟩
  rw [← hM]
  have e1 : M' w 1 = M v 1 := by rw [hM]; unfold cpT3 cpT2 cpT1 cpT0; simp (disch := omega) only [mcp_r, scp_r, scp_s, scp_same]
  have e6 : M' w 6 = M v 6 := by rw [hM]; unfold cpT3 cpT2 cpT1 cpT0; simp (disch := omega) only [mcp_r, scp_r, scp_s, scp_same]
  have e8 : M' w 8 = M v 8 := by rw [hM]; unfold cpT3 cpT2 cpT1 cpT0; simp (disch := omega) only [mcp_r, scp_r, scp_s, scp_same]
  have e0 : M' (w + 1) 0 = M (v + 1) 0 := by rw [hM]; unfold cpT3 cpT2 cpT1 cpT0; simp (disch := omega) only [mcp_r, scp_r, scp_s, scp_same]
  have r2 : ∀ k, k < 16 → M' (w + 2) k = M (v + 2) k := fun k hk => by rw [hM]; unfold cpT3 cpT2 cpT1 cpT0; simp (disch := omega) only [mcp_r, mcp_row, scp_r]
  have r3 : ∀ k, k < 16 → M' (w + 3) k = M (v + 3) k := fun k hk => by rw [hM]; unfold cpT3 cpT2 cpT1 cpT0; simp (disch := omega) only [mcp_r, mcp_row, scp_r]
  have r4 : ∀ k, k < 16 → M' (w + 4) k = M (v + 4) k := fun k hk => by rw [hM]; unfold cpT3 cpT2 cpT1 cpT0; simp (disch := omega) only [mcp_r, mcp_row, scp_r]
  have r5 : ∀ k, k < 16 → M' (w + 5) k = M (v + 5) k := fun k hk => by rw [hM]; unfold cpT3 cpT2 cpT1 cpT0; simp (disch := omega) only [mcp_r, mcp_row, scp_r]
  have r6 : ∀ k, k < 400 → M' (w + 6) k = M (v + 6) k := fun k hk => by rw [hM]; unfold cpT3 cpT2 cpT1 cpT0; simp (disch := omega) only [mcp_r, mcp_row, scp_r]
  have r9 : ∀ k, k < 16 → M' (w + 9) k = M (v + 9) k := fun k hk => by rw [hM]; unfold cpT3 cpT2 cpT1 cpT0; simp (disch := omega) only [mcp_r, mcp_row, scp_r]
  have r10 : ∀ k, k < 16 → M' (w + 10) k = M (v + 10) k := fun k hk => by rw [hM]; unfold cpT3 cpT2 cpT1 cpT0; simp (disch := omega) only [mcp_r, mcp_row, scp_r]
  have r11 : ∀ k, k < 16 → M' (w + 11) k = M (v + 11) k := fun k hk => by rw [hM]; unfold cpT3 cpT2 cpT1 cpT0; simp (disch := omega) only [mcp_r, mcp_row, scp_r]
  have r12 : ∀ k, k < 16 → M' (w + 12) k = M (v + 12) k := fun k hk => by rw [hM]; unfold cpT3 cpT2 cpT1 cpT0; simp (disch := omega) only [mcp_r, mcp_row, scp_r]
  have r13 : ∀ k, k < 16 → M' (w + 13) k = M (v + 13) k := fun k hk => by rw [hM]; unfold cpT3 cpT2 cpT1 cpT0; simp (disch := omega) only [mcp_r, mcp_row, scp_r]
  have r14 : ∀ k, k < 144 → M' (w + 14) k = M (v + 14) k := fun k hk => by rw [hM]; unfold cpT3 cpT2 cpT1 cpT0; simp (disch := omega) only [mcp_r, mcp_row, scp_r]
  have rr : ∀ c k, (c < w ∨ w + 14 < c) → M' c k = M c k := fun c k hk => by rw [hM]; unfold cpT3 cpT2 cpT1 cpT0; simp (disch := omega) only [mcp_r, scp_r]
  refine ⟨?_, rr⟩
  obtain ⟨⟨l1, p, p1, p2, p3⟩, ⟨o1, po', po1, po2, po3⟩, ⟨k1, pw, pw1, pw2, pw3⟩, t1, t2⟩ := h
  refine ⟨⟨e0.trans l1, p, p1, p2, fun i hi => ?_⟩, ⟨e1.trans o1, po', po1, po2, fun i hi => ?_⟩, ⟨e6.trans k1, pw, pw1, pw2, fun i hi => ?_⟩, e8.trans t1, fun k hk => ?_⟩
  · obtain ⟨f, g, h, q1, q2, q3, q4, q5, q6, q7, q8, q9, q10, q11, q12⟩ := p3 i hi
    refine ⟨f, g, h, q1, q2, q3, by rw [r2 i (by omega)]; exact q4, by rw [r3 i (by omega)]; exact q5, q6, by rw [r4 i (by omega)]; exact q7, q8, by rw [r5 i (by omega)]; exact q9, q10, fun k h1 h2 => by rw [r6 k (by omega)]; exact q11 k h1 h2, q12⟩
  · rw [r9 i (by omega), r10 i (by omega), r11 i (by omega), r12 i (by omega)]; exact po3 i hi
  · rw [r13 i (by omega)]; exact pw3 i hi
  · rw [r14 k hk]; exact t2 k hk
def cpE (w v : Nat) (M : Mm) : Mm := mcp (mcp (scp (mcp (scp (mcp (scp (mcp (mcp (scp (mcp (scp M w v 0) (v + 1) (w + 1) 0 0 8) w v 2) (v + 2) (w + 2) 0 0 12) (v + 3) (w + 3) 0 0 26) w v 5) (v + 4) (w + 4) 0 0 26) w v 7) (v + 5) (w + 5) 0 0 49) w v 9) (v + 6) (w + 6) 0 0 8) (v + 7) (w + 7) 0 0 8
theorem copyE_eq (w v : Nat) (M : Mm) : fE_copyFrom w v M = cpE w v M := rfl
theorem ToR_cpy {M : Mm} {w v : Nat} {c0 c1 c2 c3 c4 : Int32} {bl ne st wo an fs fb : Nat → Int32} (hs : w + 7 < v ∨ v + 7 < w) (h : ToR M v c0 c1 c2 c3 c4 bl ne st wo an fs fb) :
    ToR (cpE w v M) w c0 c1 c2 c3 c4 bl ne st wo an fs fb ∧ ∀ c k, (c < w ∨ w + 7 < c) → cpE w v M c k = M c k := by
  obtain ⟨M', hM⟩ : ∃ M', M' = cpE w v M := ⟨_, rfl⟩
  rw [← hM]
  have e0 : M' w 0 = M v 0 := by rw [hM]; unfold cpE; simp (disch := omega) only [mcp_r, scp_r, scp_s, scp_same]
  have e2 : M' w 2 = M v 2 := by rw [hM]; unfold cpE; simp (disch := omega) only [mcp_r, scp_r, scp_s, scp_same]
  have e5 : M' w 5 = M v 5 := by rw [hM]; unfold cpE; simp (disch := omega) only [mcp_r, scp_r, scp_s, scp_same]
  have e7 : M' w 7 = M v 7 := by rw [hM]; unfold cpE; simp (disch := omega) only [mcp_r, scp_r, scp_s, scp_same]
  have e9 : M' w 9 = M v 9 := by rw [hM]; unfold cpE; simp (disch := omega) only [mcp_r, scp_r, scp_s, scp_same]
  have r1 : ∀ k, k < 8 → M' (w + 1) k = M (v + 1) k := fun k hk => by rw [hM]; unfold cpE; simp (disch := omega) only [mcp_r, mcp_row, scp_r]
  have r2 : ∀ k, k < 12 → M' (w + 2) k = M (v + 2) k := fun k hk => by rw [hM]; unfold cpE; simp (disch := omega) only [mcp_r, mcp_row, scp_r]
  have r3 : ∀ k, k < 26 → M' (w + 3) k = M (v + 3) k := fun k hk => by rw [hM]; unfold cpE; simp (disch := omega) only [mcp_r, mcp_row, scp_r]
  have r4 : ∀ k, k < 26 → M' (w + 4) k = M (v + 4) k := fun k hk => by rw [hM]; unfold cpE; simp (disch := omega) only [mcp_r, mcp_row, scp_r]
  have r5 : ∀ k, k < 49 → M' (w + 5) k = M (v + 5) k := fun k hk => by rw [hM]; unfold cpE; simp (disch := omega) only [mcp_r, mcp_row, scp_r]
  have r6 : ∀ k, k < 8 → M' (w + 6) k = M (v + 6) k := fun k hk => by rw [hM]; unfold cpE; simp (disch := omega) only [mcp_r, mcp_row, scp_r]
  have r7 : ∀ k, k < 8 → M' (w + 7) k = M (v + 7) k := fun k hk => by rw [hM]; unfold cpE; simp (disch := omega) only [mcp_r, mcp_row, scp_r]
  have rr : ∀ c k, (c < w ∨ w + 7 < c) → M' c k = M c k := fun c k hk => by rw [hM]; unfold cpE; simp (disch := omega) only [mcp_r, scp_r]
  refine ⟨?_, rr⟩
  obtain ⟨⟨a1, p, p1, p2, p3⟩, ⟨b1, b2, b3⟩, d1, ⟨f1, q, q1, q2, q3, q4⟩, ⟨g1, g2, g3⟩, ⟨h1, u, u1, u2, u3⟩⟩ := h
  refine ⟨⟨e0.trans a1, p, p1, p2, fun i hi => by rw [r1 i (by omega)]; exact p3 i hi⟩, ⟨e2.trans b1, b2, fun d hd => by rw [r2 d hd]; exact b3 d hd⟩, fun k hk => by rw [r3 k hk]; exact d1 k hk, ⟨e5.trans f1, q, q1, q2, q3, fun l hl => by rw [r4 l hl]; exact q4 l hl⟩, ⟨e7.trans g1, g2, fun k hk => by rw [r5 k hk]; exact g3 k hk⟩, ⟨e9.trans h1, u, u1, u2, fun i hi => by rw [r6 i (by omega), r7 i (by omega)]; exact u3 i hi⟩⟩
end PmImage3
