section PmSimple
theorem WD_congr {A A' : Mm} {w n : Nat} {ρ ρ' lv lv' : Nat → Int32} (a : ∀ c, w + 1 ≤ c → c ≤ w + 5 → A' c = A c) (b : ∀ k, 18 ≤ k → k < 54 → ρ' k = ρ k) (l : ∀ k, k < 12 → lv' k = lv k) (h : WD A w ρ lv n) : WD A' w ρ' lv' n := by
  obtain ⟨d1, d2, d3⟩ := h
  refine ⟨d1, by rw [a (w + 1) (by omega) (by omega)]; exact d2, fun d hd => ?_⟩
  rw [a (w + 2) (by omega) (by omega), a (w + 3) (by omega) (by omega), a (w + 4) (by omega) (by omega), a (w + 5) (by omega) (by omega), b (18 + d) (by omega) (by omega), b (30 + d) (by omega) (by omega), b (42 + d) (by omega) (by omega), l d hd]
  exact d3 d hd
theorem WL_congr {A A' : Mm} {w i : Nat} {ρ ρ' : Nat → Int32} (a : ∀ c, w + 8 ≤ c → c ≤ w + 12 → A' c i = A c i) (b : ∀ k, k < 5 → ρ' (54 + 5 * i + k) = ρ (54 + 5 * i + k)) (h : WL A w ρ i) : WL A' w ρ' i := by
  have b0 := b 0 (by omega)
  have b1 := b 1 (by omega)
  have b2 := b 2 (by omega)
  have b3 := b 3 (by omega)
  have b4 := b 4 (by omega)
  rw [show 54 + 5 * i + 0 = 54 + 5 * i by omega] at b0
  rw [show 54 + 5 * i + 1 = 55 + 5 * i by omega] at b1
  rw [show 54 + 5 * i + 2 = 56 + 5 * i by omega] at b2
  rw [show 54 + 5 * i + 3 = 57 + 5 * i by omega] at b3
  rw [show 54 + 5 * i + 4 = 58 + 5 * i by omega] at b4
  unfold WL
  rw [a (w + 8) (by omega) (by omega), a (w + 9) (by omega) (by omega), a (w + 10) (by omega) (by omega), a (w + 11) (by omega) (by omega), a (w + 12) (by omega) (by omega), b0, b1, b2, b3, b4]
  exact h
theorem WB_congr {A A' : Mm} {w m : Nat} {ρ ρ' : Nat → Int32} (a : ∀ c, w + 7 ≤ c → c ≤ w + 12 → A' c = A c) (b : ∀ k, k = 9 ∨ k = 10 ∨ 54 ≤ k → ρ' k = ρ k) (h : WB A w ρ m) : WB A' w ρ' m := by
  obtain ⟨b1, b2, b3, b4, b5⟩ := h
  refine ⟨b1, by rw [a (w + 7) (by omega) (by omega)]; exact b2, by rw [b 10 (by omega)]; exact b3, by rw [a (w + 7) (by omega) (by omega), b 9 (by omega)]; exact b4, fun i hi => ?_⟩
  exact WL_congr (fun c h1 h2 => by rw [a c (by omega) h2]) (fun k hk => b _ (by omega)) (b5 i hi)
theorem WS_congr {A A' : Mm} {w r hh : Nat} {ρ ρ' : Nat → Int32} (a : A' (w + 13) = A (w + 13)) (a2 : ∀ k, 4 ≤ k → k ≤ 12 → A' w k = A w k) (b : ∀ k, k < 9 ∨ (11 ≤ k ∧ k < 18) → ρ' k = ρ k) (h : WS A w ρ r hh) : WS A' w ρ' r hh := by
  obtain ⟨s1, s2, s3, s4, s5, s6, s7, s8, s9, s10, s11, s12, s13, s14⟩ := h
  refine ⟨s1, s2, fun k hk => by rw [a, b _ (by omega)]; exact s3 k hk, ?_⟩
  rw [a2 4 (by omega) (by omega), a2 5 (by omega) (by omega), a2 6 (by omega) (by omega), a2 7 (by omega) (by omega), a2 8 (by omega) (by omega), a2 9 (by omega) (by omega), a2 10 (by omega) (by omega), a2 11 (by omega) (by omega), a2 12 (by omega) (by omega), b 0 (by omega), b 1 (by omega), b 2 (by omega), b 3 (by omega), b 4 (by omega), b 5 (by omega), b 6 (by omega), b 7 (by omega), b 8 (by omega)]
  exact ⟨s4, s5, s6, s7, s8, s9, s10, s11, s12, s13, s14⟩
theorem RP_forget {A A' B B' : Mm} {n n' : Nat} (h : RP A B n) (a : A' 31 0 = 0) (a1 : A' 31 1 = A 31 1) (b : B' 217 3 = 0) : RP A' B' n' := by
  obtain ⟨p, q, h1, h2, h3, h4, h5, h6⟩ := h
  exact ⟨0, q, by omega, h2, a, by rw [a1]; exact h4, b, fun j hj => by omega⟩
theorem sim_state {A B : Mm} (x : Int32) (h : RR A B) : Sim A B (some (fK_state x A)) (some (fM_state x B)) := by
  obtain ⟨⟨n, ⟨⟨m, r, hh, hD, hB, hS⟩, hd, hk⟩, hP⟩, hX, hE, hT, hF, hI, hM⟩ := h
  refine Go.some (Go.some ?_)
  simp only [fK_state, fM_state, fP_forget]
  have hS2 := hS
  obtain ⟨s1, s2, s3, s4, s5, s6, s7, s8, s9, s10, s11, s12, s13, s14⟩ := hS2
  refine ⟨by rw [mput_r (by omega)]; exact s14, ⟨⟨n, ⟨⟨m, r, hh, ?_, ?_, ?_⟩, ?_, ?_⟩, ?_⟩, ?_, ?_, ?_, ?_, ?_, ?_⟩, ?_, ?_, CNs_of (by simp [mput]) (by simp (disch := omega) only [mput_r]) (by simp [mput])⟩
  · exact WD_congr (fun c h1 h2 => by simp (disch := omega) only [mput_r]) (fun k h1 h2 => by simp (disch := omega) only [mput_q]) (fun k h1 => by simp (disch := omega) only [mput_q]) hD
  · exact WB_congr (fun c h1 h2 => by simp (disch := omega) only [mput_r]) (fun k h1 => by simp (disch := omega) only [mput_q]) hB
  · refine ⟨s1, s2, fun k hk => ?_, ?_⟩
    · simp (disch := omega) only [mput_q]; exact s3 k hk
    · simp [mput]; exact ⟨s4, s5, s6, s7, s8, s9, s10, s11, s12, s13⟩
  · simp [mput]; exact hd
  · intro k h1; simp (disch := omega) only [mput_q]; exact hk k h1
  · exact RP_forget hP (by simp [mput]) (by simp [mput]) (by simp [mput])
  · exact RX_congr (fb_put (fb_put (fb_rfl _ _) rfl) rfl) (fb_put (fb_put (fb_put (fb_rfl _ _) rfl) rfl) rfl) hX
  · exact RE_congr (fb_put (fb_put (fb_rfl _ _) rfl) rfl) (fb_put (fb_put (fb_put (fb_rfl _ _) rfl) rfl) rfl) hE
  · exact RT_congr (fb_put (fb_put (fb_rfl _ _) rfl) rfl) (fb_put (fb_put (fb_put (fb_rfl _ _) rfl) rfl) rfl) hT
  · exact RF_congr (fb_put (fb_put (fb_rfl _ _) rfl) rfl) (fb_put (fb_put (fb_put (fb_rfl _ _) rfl) rfl) rfl) hF
  · exact RI_congr (fb_put (fb_put (fb_rfl _ _) rfl) rfl) (fb_put (fb_put (fb_put (fb_rfl _ _) rfl) rfl) rfl) hI
  · exact RM_congr (fb_put (fb_put (fb_rfl _ _) rfl) rfl) (fb_put (fb_put (fb_put (fb_rfl _ _) rfl) rfl) rfl) hM
  · exact fb_put (fb_put (fb_rfl _ _) rfl) rfl
  · exact fb_put (fb_put (fb_put (fb_rfl _ _) rfl) rfl) rfl
end PmSimple
