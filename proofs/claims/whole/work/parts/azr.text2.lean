section PmText2
/-- what both have touched when a text is read -/
def tA (A A' : Mm) : Prop := ∀ c k, ¬ ((c = 0 ∧ k = 10) ∨ (146 ≤ c ∧ c ≤ 167)) → A' c k = A c k
def tB (B B' : Mm) : Prop := ∀ c k, ¬ ((c = 217 ∧ (k = 0 ∨ (11 ≤ k ∧ k ≤ 14) ∨ (23 ≤ k ∧ k ≤ 31))) ∨ (226 ≤ c ∧ c ≤ 229 ∧ 32 ≤ k) ∨ ((c = 230 ∨ c = 231) ∧ 800 ≤ k) ∨ c = 232 ∨ (c = 233 ∧ 64 ≤ k) ∨ (c = 234 ∧ 16 ≤ k) ∨ (c = 235 ∧ 144 ≤ k)) → B' c k = B c k
theorem RT_0 {A B : Mm} (a : A 0 10 = 0) (m : B 217 10 = 0) : RT A B := ⟨0, by omega, a, m, fun k hk => by omega⟩
theorem text_fail {A B A' B1 : Mm} (h : RR A B) (a : tA A A') (m : tB B B1) (fl : A' 146 1 = B1 217 28 ∧ A' 146 2 = B1 217 29) (h10 : A' 0 10 = 0) : RR A' (mput (mput (mput B1 217 30 (B1 217 28)) 217 31 (B1 217 29)) 217 10 0) ∧ KF A A' ∧ MF B (mput (mput (mput B1 217 30 (B1 217 28)) 217 31 (B1 217 29)) 217 10 0) ∧ CNs B (mput (mput (mput B1 217 30 (B1 217 28)) 217 31 (B1 217 29)) 217 10 0) := by
  have m2 : ∀ c k, ¬ ((c = 217 ∧ (k = 0 ∨ (10 ≤ k ∧ k ≤ 14) ∨ (23 ≤ k ∧ k ≤ 31))) ∨ (226 ≤ c ∧ c ≤ 229 ∧ 32 ≤ k) ∨ ((c = 230 ∨ c = 231) ∧ 800 ≤ k) ∨ c = 232 ∨ (c = 233 ∧ 64 ≤ k) ∨ (c = 234 ∧ 16 ≤ k) ∨ (c = 235 ∧ 144 ≤ k)) → mput (mput (mput B1 217 30 (B1 217 28)) 217 31 (B1 217 29)) 217 10 0 c k = B c k := fun c k q => by
    rw [mput_q (by omega), mput_q (by omega), mput_q (by omega)]; exact m c k (by omega)
  have hX := h.2.1
  refine fin_text h ⟨Lw_low (fun c k p q => a c k (by omega)) (m2 225 0 (by omega)) (fun c k p q r => m2 c k (by omega)) (fun k hk => ⟨m2 230 k (by omega), m2 231 k (by omega)⟩) hX.1, Po_low (fun c k q => a c k (by omega)) (m2 217 32 (by omega)) (fun k hk => m2 233 k (by omega)) hX.2.1, Wk_low (fun c k q => a c k (by omega)) (m2 217 34 (by omega)) (fun k hk => m2 234 k (by omega)) hX.2.2.1, St_low (fun c k q => a c k (by omega)) (m2 217 36 (by omega)) (fun k hk => m2 235 k (by omega)) hX.2.2.2⟩ (RT_0 h10 (mput_same _ _ _ _)) ⟨?_, ?_⟩ (RP_same (fun c k q => a c k (by omega)) (fun c k q => m2 c k (by omega))) (fun c k q => a c k (by omega)) (fun c k q => m2 c k (by omega))
  · rw [mput_s (by omega), mput_s (by omega), mput_same]; exact fl.1
  · rw [mput_s (by omega), mput_same]; exact fl.2
/-- the law is taken over -/
theorem text_law {A B A' B1 B2 : Mm} {k n : Nat} (h : RR A B) (a : tA A A') (m : tB B B1) (h10 : A' 0 10 = 0) (f1 : A' 146 1 = 0) (f2 : A' 146 2 = -1) (g1 : B1 217 30 = 0) (g2 : B1 217 31 = -1) (hk : k ≤ 16) (ed : ED A' B1 n) (hD : ∀ j, j < k → LD A' B1 j n) (h0 : A' 148 0 = nI k)
    (t0 : B2 225 0 = nI k) (t1 : ∀ c j, 226 ≤ c → c ≤ 229 → j < k → B2 c j = B1 c (32 + j)) (t2 : ∀ j, j < n → B2 230 j = B1 230 (800 + j) ∧ B2 231 j = B1 231 (800 + j)) (t3 : ∀ c j, ¬ (225 ≤ c ∧ c ≤ 231) → B2 c j = mput B1 217 10 0 c j) :
    (fT_copyOne 123 147 0 A') 124 0 = nI k ∧ (RR (fT_copyOne 123 147 0 A') B2 ∧ KF A (fT_copyOne 123 147 0 A') ∧ MF B B2 ∧ CNs B B2) := by
  have e : fT_copyOne 123 147 0 A' = mcp (mcp (mcp (mcp (mcp (mput (mput A' 124 0 (A' 148 0)) 124 1 (mput A' 124 0 (A' 148 0) 148 1)) 149 125 0 0 16) 150 126 0 0 16) 151 127 0 0 16) 152 128 0 0 16) 153 129 0 0 400 := rfl
  have out : ∀ c j, ¬ (124 ≤ c ∧ c ≤ 129) → fT_copyOne 123 147 0 A' c j = A' c j := fun c j q => by
    rw [e, mcp_r (by omega), mcp_r (by omega), mcp_r (by omega), mcp_r (by omega), mcp_r (by omega), mput_r (by omega), mput_r (by omega)]
  have c0 : fT_copyOne 123 147 0 A' 124 0 = nI k := by
    rw [e, mcp_r (by omega), mcp_r (by omega), mcp_r (by omega), mcp_r (by omega), mcp_r (by omega), mput_s (by omega), mput_same]; exact h0
  have c1 : ∀ j, j < 16 → fT_copyOne 123 147 0 A' 125 j = A' 149 j := fun j hj => by
    rw [e, mcp_r (by omega), mcp_r (by omega), mcp_r (by omega), mcp_r (by omega), mcp_row _ _ _ _ _ hj, mput_r (by omega), mput_r (by omega)]
  have c2 : ∀ j, j < 16 → fT_copyOne 123 147 0 A' 126 j = A' 150 j := fun j hj => by
    rw [e, mcp_r (by omega), mcp_r (by omega), mcp_r (by omega), mcp_row _ _ _ _ _ hj, mcp_r (by omega), mput_r (by omega), mput_r (by omega)]
  have c3 : ∀ j, j < 16 → fT_copyOne 123 147 0 A' 127 j = A' 151 j := fun j hj => by
    rw [e, mcp_r (by omega), mcp_r (by omega), mcp_row _ _ _ _ _ hj, mcp_r (by omega), mcp_r (by omega), mput_r (by omega), mput_r (by omega)]
  have c4 : ∀ j, j < 16 → fT_copyOne 123 147 0 A' 128 j = A' 152 j := fun j hj => by
    rw [e, mcp_r (by omega), mcp_row _ _ _ _ _ hj, mcp_r (by omega), mcp_r (by omega), mcp_r (by omega), mput_r (by omega), mput_r (by omega)]
  have c5 : ∀ j, j < 400 → fT_copyOne 123 147 0 A' 129 j = A' 153 j := fun j hj => by
    rw [e, mcp_row _ _ _ _ _ hj, mcp_r (by omega), mcp_r (by omega), mcp_r (by omega), mcp_r (by omega), mput_r (by omega), mput_r (by omega)]
  have hX := h.2.1
  have mm : ∀ c j, ¬ ((c = 217 ∧ (j = 0 ∨ (10 ≤ j ∧ j ≤ 14) ∨ (23 ≤ j ∧ j ≤ 31))) ∨ (225 ≤ c ∧ c ≤ 232) ∨ (c = 233 ∧ 64 ≤ j) ∨ (c = 234 ∧ 16 ≤ j) ∨ (c = 235 ∧ 144 ≤ j)) → B2 c j = B c j := fun c j q => by
    rw [t3 c j (by omega), mput_q (by omega)]; exact m c j (by omega)
  refine ⟨c0, fin_text h ⟨⟨by rw [t0]; exact c0, k, hk, t0, fun i hi => ?_⟩, Po_low (fun c j q => by rw [out c j (by omega)]; exact a c j (by omega)) (mm 217 32 (by omega)) (fun j hj => mm 233 j (by omega)) hX.2.1, Wk_low (fun c j q => by rw [out c j (by omega)]; exact a c j (by omega)) (mm 217 34 (by omega)) (fun j hj => mm 234 j (by omega)) hX.2.2.1, St_low (fun c j q => by rw [out c j (by omega)]; exact a c j (by omega)) (mm 217 36 (by omega)) (fun j hj => mm 235 j (by omega)) hX.2.2.2⟩ (RT_0 (by rw [out 0 10 (by omega)]; exact h10) (by rw [t3 217 10 (by omega), mput_same])) ⟨?_, ?_⟩ (RP_same (fun c j q => by rw [out c j (by omega)]; exact a c j (by omega)) (fun c j q => mm c j (by omega))) (fun c j q => by rw [out c j (by omega)]; exact a c j (by omega)) (fun c j q => mm c j (by omega))⟩
  · obtain ⟨f, g, hh, k1, k2, k3, k4, k5, k6, k7, k8, k9, k10, ⟨z, hz, k11⟩, k12⟩ := hD i hi
    have d3 := ed.2.2.1
    refine ⟨f, g, hh, k1, k2, by omega, ?_, ?_, ?_, ?_, ?_, ?_, ?_, fun j p q => ?_, ⟨z, hz, Trn_cg (fun j p q => t2 j (by omega)) k11⟩, k12.imp id fun w => Trn_cg (fun j p q => t2 j (by omega)) w⟩
    · show fT_copyOne 123 147 0 A' 125 i = B2 226 i
      rw [c1 i (by omega), t1 226 i (by omega) (by omega) hi]; exact k4
    · show fT_copyOne 123 147 0 A' 126 i = nI f
      rw [c2 i (by omega)]; exact k5
    · rw [t1 227 i (by omega) (by omega) hi]; exact k6
    · show fT_copyOne 123 147 0 A' 127 i = nI g
      rw [c3 i (by omega)]; exact k7
    · rw [t1 228 i (by omega) (by omega) hi]; exact k8
    · show fT_copyOne 123 147 0 A' 128 i = nI hh
      rw [c4 i (by omega)]; exact k9
    · rw [t1 229 i (by omega) (by omega) hi]; exact k10
    · show Enc (fT_copyOne 123 147 0 A' 129 j) _ _
      rw [c5 j (by omega), (t2 j (by omega)).1, (t2 j (by omega)).2]; exact ed.2.2.2 j (by omega)
  · rw [out 146 1 (by omega), f1, t3 217 30 (by omega), mput_s (by omega)]; exact g1.symm
  · rw [out 146 2 (by omega), f2, t3 217 31 (by omega), mput_s (by omega)]; exact g2.symm
/-- the post -/
theorem text_post {A B A' B1 B2 : Mm} {k : Nat} (h : RR A B) (a : tA A A') (m : tB B B1) (h10 : A' 0 10 = 0) (f1 : A' 146 1 = 0) (f2 : A' 146 2 = -1) (g1 : B1 217 30 = 0) (g2 : B1 217 31 = -1) (hk : k ≤ 16) (hD : ∀ j, j < k → A' 156 j = B1 233 (64 + 4 * j) ∧ A' 157 j = B1 233 (65 + 4 * j) ∧ A' 158 j = B1 233 (66 + 4 * j) ∧ A' 159 j = B1 233 (67 + 4 * j) ∧ Lok (B1 233 (65 + 4 * j)) (B1 233 (66 + 4 * j)) (B1 233 (67 + 4 * j))) (h0 : A' 147 1 = nI k)
    (t1 : ∀ j, j < 4 * k → B2 233 j = B1 233 (64 + j)) (t2 : B2 217 32 = nI k) (t4 : B2 217 3 = 0) (t3 : ∀ c j, ¬ (c = 233 ∨ (c = 217 ∧ (j = 3 ∨ j = 32))) → B2 c j = mput B1 217 10 0 c j) :
    (fP_forget (fT_copyOne 123 147 1 A')) 123 1 = nI k ∧ (RR (fP_forget (fT_copyOne 123 147 1 A')) B2 ∧ KF A (fP_forget (fT_copyOne 123 147 1 A')) ∧ MF B B2 ∧ CNs B B2) := by
  have e : fP_forget (fT_copyOne 123 147 1 A') = mput (mcp (mcp (mcp (mcp (mput A' 123 1 (A' 147 1)) 156 132 0 0 16) 157 133 0 0 16) 158 134 0 0 16) 159 135 0 0 16) 31 0 0 := rfl
  generalize fP_forget (fT_copyOne 123 147 1 A') = X at e ⊢
  have out : ∀ c j, ¬ ((132 ≤ c ∧ c ≤ 135) ∨ (c = 123 ∧ j = 1) ∨ (c = 31 ∧ j = 0)) → X c j = A' c j := fun c j q => by
    rw [e, mput_q (by omega), mcp_r (by omega), mcp_r (by omega), mcp_r (by omega), mcp_r (by omega), mput_q (by omega)]
  have c0 : X 123 1 = nI k := by
    rw [e, mput_r (by omega), mcp_r (by omega), mcp_r (by omega), mcp_r (by omega), mcp_r (by omega), mput_same]; exact h0
  have c1 : ∀ j, j < 16 → X 132 j = A' 156 j := fun j hj => by
    rw [e, mput_r (by omega), mcp_r (by omega), mcp_r (by omega), mcp_r (by omega), mcp_row _ _ _ _ _ hj, mput_r (by omega)]
  have c2 : ∀ j, j < 16 → X 133 j = A' 157 j := fun j hj => by
    rw [e, mput_r (by omega), mcp_r (by omega), mcp_r (by omega), mcp_row _ _ _ _ _ hj, mcp_r (by omega), mput_r (by omega)]
  have c3 : ∀ j, j < 16 → X 134 j = A' 158 j := fun j hj => by
    rw [e, mput_r (by omega), mcp_r (by omega), mcp_row _ _ _ _ _ hj, mcp_r (by omega), mcp_r (by omega), mput_r (by omega)]
  have c4 : ∀ j, j < 16 → X 135 j = A' 159 j := fun j hj => by
    rw [e, mput_r (by omega), mcp_row _ _ _ _ _ hj, mcp_r (by omega), mcp_r (by omega), mcp_r (by omega), mput_r (by omega)]
  have c31 : X 31 0 = 0 := by rw [e, mput_same]
  have hX := h.2.1
  have mm : ∀ c j, ¬ ((c = 217 ∧ (j = 0 ∨ j = 3 ∨ j = 32 ∨ (10 ≤ j ∧ j ≤ 14) ∨ (23 ≤ j ∧ j ≤ 31))) ∨ (226 ≤ c ∧ c ≤ 229 ∧ 32 ≤ j) ∨ ((c = 230 ∨ c = 231) ∧ 800 ≤ j) ∨ c = 232 ∨ c = 233 ∨ (c = 234 ∧ 16 ≤ j) ∨ (c = 235 ∧ 144 ≤ j)) → B2 c j = B c j := fun c j q => by
    rw [t3 c j (by omega), mput_q (by omega)]; exact m c j (by omega)
  refine ⟨c0, fin_text h ⟨Lw_low (fun c j p q => by rw [out c j (by omega)]; exact a c j (by omega)) (mm 225 0 (by omega)) (fun c j p q r => mm c j (by omega)) (fun j hj => ⟨mm 230 j (by omega), mm 231 j (by omega)⟩) hX.1, ⟨by rw [t2]; exact c0, k, hk, t2, fun i hi => ?_⟩, Wk_low (fun c j q => by rw [out c j (by omega)]; exact a c j (by omega)) (mm 217 34 (by omega)) (fun j hj => mm 234 j (by omega)) hX.2.2.1, St_low (fun c j q => by rw [out c j (by omega)]; exact a c j (by omega)) (mm 217 36 (by omega)) (fun j hj => mm 235 j (by omega)) hX.2.2.2⟩ (RT_0 (by rw [out 0 10 (by omega)]; exact h10) (by rw [t3 217 10 (by omega), mput_same])) ⟨?_, ?_⟩ (RP_none c31 (by rw [out 31 1 (by omega)]; exact a 31 1 (by omega)) t4) (fun c j q => by rw [out c j (by omega)]; exact a c j (by omega)) (fun c j q => mm c j (by omega))⟩
  · obtain ⟨d1, d2, d3, d4, d5⟩ := hD i hi
    have e0 : B2 233 (4 * i) = B1 233 (64 + 4 * i) := t1 _ (by omega)
    have e1 : B2 233 (4 * i + 1) = B1 233 (65 + 4 * i) := by rw [t1 _ (by omega)]; exact congrArg (B1 233) (by omega)
    have e2 : B2 233 (4 * i + 2) = B1 233 (66 + 4 * i) := by rw [t1 _ (by omega)]; exact congrArg (B1 233) (by omega)
    have e3 : B2 233 (4 * i + 3) = B1 233 (67 + 4 * i) := by rw [t1 _ (by omega)]; exact congrArg (B1 233) (by omega)
    rw [e0, e1, e2, e3]
    exact ⟨(c1 i (by omega)).trans d1, (c2 i (by omega)).trans d2, (c3 i (by omega)).trans d3, (c4 i (by omega)).trans d4, d5⟩
  · rw [out 146 1 (by omega), f1, t3 217 30 (by omega), mput_s (by omega)]; exact g1.symm
  · rw [out 146 2 (by omega), f2, t3 217 31 (by omega), mput_s (by omega)]; exact g2.symm
/-- the round -/
theorem text_walk {A B A' B1 B2 : Mm} {k : Nat} (h : RR A B) (a : tA A A') (m : tB B B1) (h10 : A' 0 10 = 0) (f1 : A' 146 1 = 0) (f2 : A' 146 2 = -1) (g1 : B1 217 30 = 0) (g2 : B1 217 31 = -1) (hk : k ≤ 16) (hD : ∀ j, j < k → A' 160 j = B1 234 (16 + j) ∧ ∃ d, d < 12 ∧ B1 234 (16 + j) = nI d) (h0 : A' 147 6 = nI k)
    (t1 : ∀ j, j < k → B2 234 j = B1 234 (16 + j)) (t2 : B2 217 34 = nI k) (t4 : B2 217 3 = 0) (t3 : ∀ c j, ¬ (c = 234 ∨ (c = 217 ∧ (j = 3 ∨ j = 34))) → B2 c j = mput B1 217 10 0 c j) :
    (fP_forget (fT_copyOne 123 147 2 A')) 123 6 = nI k ∧ (RR (fP_forget (fT_copyOne 123 147 2 A')) B2 ∧ KF A (fP_forget (fT_copyOne 123 147 2 A')) ∧ MF B B2 ∧ CNs B B2) := by
  have e : fP_forget (fT_copyOne 123 147 2 A') = mput (mcp (mput A' 123 6 (A' 147 6)) 160 136 0 0 16) 31 0 0 := rfl
  generalize fP_forget (fT_copyOne 123 147 2 A') = X at e ⊢
  have out : ∀ c j, ¬ (c = 136 ∨ (c = 123 ∧ j = 6) ∨ (c = 31 ∧ j = 0)) → X c j = A' c j := fun c j q => by
    rw [e, mput_q (by omega), mcp_r (by omega), mput_q (by omega)]
  have c0 : X 123 6 = nI k := by
    rw [e, mput_r (by omega), mcp_r (by omega), mput_same]; exact h0
  have c1 : ∀ j, j < 16 → X 136 j = A' 160 j := fun j hj => by
    rw [e, mput_r (by omega), mcp_row _ _ _ _ _ hj, mput_r (by omega)]
  have c31 : X 31 0 = 0 := by rw [e, mput_same]
  have hX := h.2.1
  have mm : ∀ c j, ¬ ((c = 217 ∧ (j = 0 ∨ j = 3 ∨ j = 34 ∨ (10 ≤ j ∧ j ≤ 14) ∨ (23 ≤ j ∧ j ≤ 31))) ∨ (226 ≤ c ∧ c ≤ 229 ∧ 32 ≤ j) ∨ ((c = 230 ∨ c = 231) ∧ 800 ≤ j) ∨ c = 232 ∨ (c = 233 ∧ 64 ≤ j) ∨ c = 234 ∨ (c = 235 ∧ 144 ≤ j)) → B2 c j = B c j := fun c j q => by
    rw [t3 c j (by omega), mput_q (by omega)]; exact m c j (by omega)
  refine ⟨c0, fin_text h ⟨Lw_low (fun c j p q => by rw [out c j (by omega)]; exact a c j (by omega)) (mm 225 0 (by omega)) (fun c j p q r => mm c j (by omega)) (fun j hj => ⟨mm 230 j (by omega), mm 231 j (by omega)⟩) hX.1, Po_low (fun c j q => by rw [out c j (by omega)]; exact a c j (by omega)) (mm 217 32 (by omega)) (fun j hj => mm 233 j (by omega)) hX.2.1, ⟨by rw [t2]; exact c0, k, hk, t2, fun i hi => ?_⟩, St_low (fun c j q => by rw [out c j (by omega)]; exact a c j (by omega)) (mm 217 36 (by omega)) (fun j hj => mm 235 j (by omega)) hX.2.2.2⟩ (RT_0 (by rw [out 0 10 (by omega)]; exact h10) (by rw [t3 217 10 (by omega), mput_same])) ⟨?_, ?_⟩ (RP_none c31 (by rw [out 31 1 (by omega)]; exact a 31 1 (by omega)) t4) (fun c j q => by rw [out c j (by omega)]; exact a c j (by omega)) (fun c j q => mm c j (by omega))⟩
  · obtain ⟨d1, d2⟩ := hD i hi
    rw [t1 i hi]
    exact ⟨(c1 i (by omega)).trans d1, d2⟩
  · rw [out 146 1 (by omega), f1, t3 217 30 (by omega), mput_s (by omega)]; exact g1.symm
  · rw [out 146 2 (by omega), f2, t3 217 31 (by omega), mput_s (by omega)]; exact g2.symm
/-- the streets -/
theorem text_street {A B A' B1 B2 : Mm} {k : Nat} (h : RR A B) (a : tA A A') (m : tB B B1) (h10 : A' 0 10 = 0) (f1 : A' 146 1 = 0) (f2 : A' 146 2 = -1) (g1 : B1 217 30 = 0) (g2 : B1 217 31 = -1) (hk : k ≤ 16) (hD : ∀ j, j < 144 → A' 161 j = B1 235 (144 + j) ∧ ∃ s, s ≤ 99 ∧ B1 235 (144 + j) = nI s) (h0 : A' 147 8 = nI k)
    (t1 : ∀ j, j < 144 → B2 235 j = B1 235 (144 + j)) (t2 : B2 217 36 = nI k) (t3 : ∀ c j, ¬ (c = 235 ∨ (c = 217 ∧ j = 36)) → B2 c j = mput B1 217 10 0 c j) :
    (fT_copyOne 123 147 3 A') 123 8 = nI k ∧ (RR (fT_copyOne 123 147 3 A') B2 ∧ KF A (fT_copyOne 123 147 3 A') ∧ MF B B2 ∧ CNs B B2) := by
  have e : fT_copyOne 123 147 3 A' = mcp (mput A' 123 8 (A' 147 8)) 161 137 0 0 144 := rfl
  generalize fT_copyOne 123 147 3 A' = X at e ⊢
  have out : ∀ c j, ¬ (c = 137 ∨ (c = 123 ∧ j = 8)) → X c j = A' c j := fun c j q => by
    rw [e, mcp_r (by omega), mput_q (by omega)]
  have c0 : X 123 8 = nI k := by
    rw [e, mcp_r (by omega), mput_same]; exact h0
  have c1 : ∀ j, j < 144 → X 137 j = A' 161 j := fun j hj => by
    rw [e, mcp_row _ _ _ _ _ hj, mput_r (by omega)]
  have hX := h.2.1
  have mm : ∀ c j, ¬ ((c = 217 ∧ (j = 0 ∨ j = 36 ∨ (10 ≤ j ∧ j ≤ 14) ∨ (23 ≤ j ∧ j ≤ 31))) ∨ (226 ≤ c ∧ c ≤ 229 ∧ 32 ≤ j) ∨ ((c = 230 ∨ c = 231) ∧ 800 ≤ j) ∨ c = 232 ∨ (c = 233 ∧ 64 ≤ j) ∨ (c = 234 ∧ 16 ≤ j) ∨ c = 235) → B2 c j = B c j := fun c j q => by
    rw [t3 c j (by omega), mput_q (by omega)]; exact m c j (by omega)
  refine ⟨c0, fin_text h ⟨Lw_low (fun c j p q => by rw [out c j (by omega)]; exact a c j (by omega)) (mm 225 0 (by omega)) (fun c j p q r => mm c j (by omega)) (fun j hj => ⟨mm 230 j (by omega), mm 231 j (by omega)⟩) hX.1, Po_low (fun c j q => by rw [out c j (by omega)]; exact a c j (by omega)) (mm 217 32 (by omega)) (fun j hj => mm 233 j (by omega)) hX.2.1, Wk_low (fun c j q => by rw [out c j (by omega)]; exact a c j (by omega)) (mm 217 34 (by omega)) (fun j hj => mm 234 j (by omega)) hX.2.2.1, ⟨by rw [t2]; exact c0, fun i hi => ?_⟩⟩ (RT_0 (by rw [out 0 10 (by omega)]; exact h10) (by rw [t3 217 10 (by omega), mput_same])) ⟨?_, ?_⟩ (RP_same (fun c j q => by rw [out c j (by omega)]; exact a c j (by omega)) (fun c j q => mm c j (by omega))) (fun c j q => by rw [out c j (by omega)]; exact a c j (by omega)) (fun c j q => mm c j (by omega))⟩
  · obtain ⟨d1, d2⟩ := hD i hi
    rw [t1 i hi]
    exact ⟨(c1 i hi).trans d1, d2⟩
  · rw [out 146 1 (by omega), f1, t3 217 30 (by omega), mput_s (by omega)]; exact g1.symm
  · rw [out 146 2 (by omega), f2, t3 217 31 (by omega), mput_s (by omega)]; exact g2.symm
end PmText2
