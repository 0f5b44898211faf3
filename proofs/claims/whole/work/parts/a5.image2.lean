section PmImage2
theorem lp_image_b35 {z : Bool} {M0 M : Mm} (z1 : Int32) (h : Kp z M0 M 0) : Go (lp 1000000 (fun s => fM_image_b35 z1 s.1 s.2) (0, M)) (fun M' => Kp z M0 M' 174) := by
  refine go_for (fun i s => ∃ M', s = (nI i, M') ∧ Kp z M0 M' (0 + 1 * i)) 174 ?_ ?_ (i := 0) (by omega) ⟨M, rfl, h⟩ (by omega)
  · rintro s ⟨M', rfl, h⟩
    exact Go.yes (show (174 : Int32) ≤ nI 174 by decide) (Go.some h)
  · rintro i s hi ⟨M', rfl, h⟩
    unfold fM_image_b35
    have ii : inb (nI i) 174 := (inb_nI (by omega)).mpr (by omega)
    have ji : jix (nI i) = i := jix_nI (by omega)
    dsimp only
    simp only [ji]
    refine Go.no (by rw [lit_nI, nI_le' (by omega) (by omega)]; omega) ?_
    refine Go.gd (ii) ?_
    refine Go.bind (kp_step (a := 218) (k := i) (by unfold ivd; omega) (by show i = _; omega) h) (fun q0 h0 => ?_)
    refine Go.gd (ii) ?_
    refine Go.some ?_
    refine ⟨_, by rw [nI_1], ?_⟩
    have e : 0 + 1 * i + 1 = 0 + 1 * (i + 1) := by omega
    rw [← e]; exact h0
theorem lp_keepsTold_b2 {z : Bool} {M0 M : Mm} (h : Kp z M0 M 183) : Go (lp 1000000 (fun s => fM_keepsTold_b2 s.1 s.2) (0, M)) (fun M' => Kp z M0 M' 207) := by
  refine go_for (fun i s => ∃ M', s = (nI i, M') ∧ Kp z M0 M' (183 + 2 * i)) 12 ?_ ?_ (i := 0) (by omega) ⟨M, rfl, h⟩ (by omega)
  · rintro s ⟨M', rfl, h⟩
    exact Go.yes (show (12 : Int32) ≤ nI 12 by decide) (Go.some h)
  · rintro i s hi ⟨M', rfl, h⟩
    unfold fM_keepsTold_b2
    have ii : inb (nI i) 12 := (inb_nI (by omega)).mpr (by omega)
    have ji : jix (nI i) = i := jix_nI (by omega)
    dsimp only
    simp only [ji]
    refine Go.no (by rw [lit_nI, nI_le' (by omega) (by omega)]; omega) ?_
    refine Go.gd (ii) ?_
    refine Go.bind (kp_step (a := 221) (k := i) (by unfold ivd; omega) (by show 183 + 2 * i = _; omega) h) (fun q0 h0 => ?_)
    refine Go.gd (ii) ?_
    refine Go.gd (ii) ?_
    refine Go.bind (kp_step (a := 244) (k := i) (by unfold ivd; omega) (by show 184 + 2 * i = _; omega) h0) (fun q1 h1 => ?_)
    refine Go.gd (ii) ?_
    refine Go.some ?_
    refine ⟨_, by rw [nI_1], ?_⟩
    have e : 183 + 2 * i + 1 + 1 = 183 + 2 * (i + 1) := by omega
    rw [← e]; exact h1
theorem lp_keepsTold_b48 {z : Bool} {M0 M : Mm} (h : Kp z M0 M 207) : Go (lp 1000000 (fun s => fM_keepsTold_b48 s.1 s.2) (0, M)) (fun M' => Kp z M0 M' 239) := by
  refine go_for (fun i s => ∃ M', s = (nI i, M') ∧ Kp z M0 M' (207 + 4 * i)) 8 ?_ ?_ (i := 0) (by omega) ⟨M, rfl, h⟩ (by omega)
  · rintro s ⟨M', rfl, h⟩
    exact Go.yes (show (8 : Int32) ≤ nI 8 by decide) (Go.some h)
  · rintro i s hi ⟨M', rfl, h⟩
    unfold fM_keepsTold_b48
    have ii : inb (nI i) 8 := (inb_nI (by omega)).mpr (by omega)
    have ji : jix (nI i) = i := jix_nI (by omega)
    dsimp only
    simp only [ji]
    refine Go.no (by rw [lit_nI, nI_le' (by omega) (by omega)]; omega) ?_
    refine Go.gd (ii) ?_
    refine Go.bind (kp_step (a := 241) (k := i) (by unfold ivd; omega) (by show 207 + 4 * i = _; omega) h) (fun q0 h0 => ?_)
    refine Go.gd (ii) ?_
    refine Go.gd (ii) ?_
    refine Go.bind (kp_step (a := 247) (k := i) (by unfold ivd; omega) (by show 208 + 4 * i = _; omega) h0) (fun q1 h1 => ?_)
    refine Go.gd (ii) ?_
    refine Go.gd (ii) ?_
    refine Go.bind (kp_step (a := 249) (k := i) (by unfold ivd; omega) (by show 209 + 4 * i = _; omega) h1) (fun q2 h2 => ?_)
    refine Go.gd (ii) ?_
    refine Go.gd (ii) ?_
    refine Go.bind (kp_step (a := 250) (k := i) (by unfold ivd; omega) (by show 210 + 4 * i = _; omega) h2) (fun q3 h3 => ?_)
    refine Go.gd (ii) ?_
    refine Go.some ?_
    refine ⟨_, by rw [nI_1], ?_⟩
    have e : 207 + 4 * i + 1 + 1 + 1 + 1 = 207 + 4 * (i + 1) := by omega
    rw [← e]; exact h3
theorem lp_keepsTold_b126 {z : Bool} {M0 M : Mm} (h : Kp z M0 M 239) : Go (lp 1000000 (fun s => fM_keepsTold_b126 s.1 s.2) (0, M)) (fun M' => Kp z M0 M' 265) := by
  refine go_for (fun i s => ∃ M', s = (nI i, M') ∧ Kp z M0 M' (239 + 1 * i)) 26 ?_ ?_ (i := 0) (by omega) ⟨M, rfl, h⟩ (by omega)
  · rintro s ⟨M', rfl, h⟩
    exact Go.yes (show (26 : Int32) ≤ nI 26 by decide) (Go.some h)
  · rintro i s hi ⟨M', rfl, h⟩
    unfold fM_keepsTold_b126
    have ii : inb (nI i) 26 := (inb_nI (by omega)).mpr (by omega)
    have ji : jix (nI i) = i := jix_nI (by omega)
    dsimp only
    simp only [ji]
    refine Go.no (by rw [lit_nI, nI_le' (by omega) (by omega)]; omega) ?_
    refine Go.gd (ii) ?_
    refine Go.bind (kp_step (a := 246) (k := i) (by unfold ivd; omega) (by show 239 + i = _; omega) h) (fun q0 h0 => ?_)
    refine Go.gd (ii) ?_
    refine Go.some ?_
    refine ⟨_, by rw [nI_1], ?_⟩
    have e : 239 + 1 * i + 1 = 239 + 1 * (i + 1) := by omega
    rw [← e]; exact h0
theorem lp_keepsTold_b156 {z : Bool} {M0 M : Mm} (h : Kp z M0 M 265) : Go (lp 1000000 (fun s => fM_keepsTold_b156 s.1 s.2) (0, M)) (fun M' => Kp z M0 M' 314) := by
  refine go_for (fun i s => ∃ M', s = (nI i, M') ∧ Kp z M0 M' (265 + 1 * i)) 49 ?_ ?_ (i := 0) (by omega) ⟨M, rfl, h⟩ (by omega)
  · rintro s ⟨M', rfl, h⟩
    exact Go.yes (show (49 : Int32) ≤ nI 49 by decide) (Go.some h)
  · rintro i s hi ⟨M', rfl, h⟩
    unfold fM_keepsTold_b156
    have ii : inb (nI i) 49 := (inb_nI (by omega)).mpr (by omega)
    have ji : jix (nI i) = i := jix_nI (by omega)
    dsimp only
    simp only [ji]
    refine Go.no (by rw [lit_nI, nI_le' (by omega) (by omega)]; omega) ?_
    refine Go.gd (ii) ?_
    refine Go.bind (kp_step (a := 248) (k := i) (by unfold ivd; omega) (by show 265 + i = _; omega) h) (fun q0 h0 => ?_)
    refine Go.gd (ii) ?_
    refine Go.some ?_
    refine ⟨_, by rw [nI_1], ?_⟩
    have e : 265 + 1 * i + 1 = 265 + 1 * (i + 1) := by omega
    rw [← e]; exact h0
theorem lp_keepsTold_b186 {z : Bool} {M0 M : Mm} (h : Kp z M0 M 314) : Go (lp 1000000 (fun s => fM_keepsTold_b186 s.1 s.2) (0, M)) (fun M' => Kp z M0 M' 378) := by
  refine go_for (fun i s => ∃ M', s = (nI i, M') ∧ Kp z M0 M' (314 + 1 * i)) 64 ?_ ?_ (i := 0) (by omega) ⟨M, rfl, h⟩ (by omega)
  · rintro s ⟨M', rfl, h⟩
    exact Go.yes (show (64 : Int32) ≤ nI 64 by decide) (Go.some h)
  · rintro i s hi ⟨M', rfl, h⟩
    unfold fM_keepsTold_b186
    have ii : inb (nI i) 128 := (inb_nI (by omega)).mpr (by omega)
    have ji : jix (nI i) = i := jix_nI (by omega)
    dsimp only
    simp only [ji]
    refine Go.no (by rw [lit_nI, nI_le' (by omega) (by omega)]; omega) ?_
    refine Go.gd (ii) ?_
    refine Go.bind (kp_step (a := 233) (k := i) (by unfold ivd; omega) (by show 314 + i = _; omega) h) (fun q0 h0 => ?_)
    refine Go.gd (ii) ?_
    refine Go.some ?_
    refine ⟨_, by rw [nI_1], ?_⟩
    have e : 314 + 1 * i + 1 = 314 + 1 * (i + 1) := by omega
    rw [← e]; exact h0
theorem lp_keepsTold_b216 {z : Bool} {M0 M : Mm} (h : Kp z M0 M 378) : Go (lp 1000000 (fun s => fM_keepsTold_b216 s.1 s.2) (0, M)) (fun M' => Kp z M0 M' 394) := by
  refine go_for (fun i s => ∃ M', s = (nI i, M') ∧ Kp z M0 M' (378 + 1 * i)) 16 ?_ ?_ (i := 0) (by omega) ⟨M, rfl, h⟩ (by omega)
  · rintro s ⟨M', rfl, h⟩
    exact Go.yes (show (16 : Int32) ≤ nI 16 by decide) (Go.some h)
  · rintro i s hi ⟨M', rfl, h⟩
    unfold fM_keepsTold_b216
    have ii : inb (nI i) 32 := (inb_nI (by omega)).mpr (by omega)
    have ji : jix (nI i) = i := jix_nI (by omega)
    dsimp only
    simp only [ji]
    refine Go.no (by rw [lit_nI, nI_le' (by omega) (by omega)]; omega) ?_
    refine Go.gd (ii) ?_
    refine Go.bind (kp_step (a := 234) (k := i) (by unfold ivd; omega) (by show 378 + i = _; omega) h) (fun q0 h0 => ?_)
    refine Go.gd (ii) ?_
    refine Go.some ?_
    refine ⟨_, by rw [nI_1], ?_⟩
    have e : 378 + 1 * i + 1 = 378 + 1 * (i + 1) := by omega
    rw [← e]; exact h0
theorem lp_keepsTold_b246 {z : Bool} {M0 M : Mm} (h : Kp z M0 M 394) : Go (lp 1000000 (fun s => fM_keepsTold_b246 s.1 s.2) (0, M)) (fun M' => Kp z M0 M' 538) := by
  refine go_for (fun i s => ∃ M', s = (nI i, M') ∧ Kp z M0 M' (394 + 1 * i)) 144 ?_ ?_ (i := 0) (by omega) ⟨M, rfl, h⟩ (by omega)
  · rintro s ⟨M', rfl, h⟩
    exact Go.yes (show (144 : Int32) ≤ nI 144 by decide) (Go.some h)
  · rintro i s hi ⟨M', rfl, h⟩
    unfold fM_keepsTold_b246
    have ii : inb (nI i) 288 := (inb_nI (by omega)).mpr (by omega)
    have ji : jix (nI i) = i := jix_nI (by omega)
    dsimp only
    simp only [ji]
    refine Go.no (by rw [lit_nI, nI_le' (by omega) (by omega)]; omega) ?_
    refine Go.gd (ii) ?_
    refine Go.bind (kp_step (a := 235) (k := i) (by unfold ivd; omega) (by show 394 + i = _; omega) h) (fun q0 h0 => ?_)
    refine Go.gd (ii) ?_
    refine Go.some ?_
    refine ⟨_, by rw [nI_1], ?_⟩
    have e : 394 + 1 * i + 1 = 394 + 1 * (i + 1) := by omega
    rw [← e]; exact h0
theorem lp_image_b74 {z : Bool} {M0 M : Mm} (z1 : Int32) (h : Kp z M0 M 538) : Go (lp 1000000 (fun s => fM_image_b74 z1 s.1 s.2) (0, M)) (fun M' => Kp z M0 M' 1138) := by
  refine go_for (fun i s => ∃ M', s = (nI i, M') ∧ Kp z M0 M' (538 + 1 * i)) 600 ?_ ?_ (i := 0) (by omega) ⟨M, rfl, h⟩ (by omega)
  · rintro s ⟨M', rfl, h⟩
    exact Go.yes (show (600 : Int32) ≤ nI 600 by decide) (Go.some h)
  · rintro i s hi ⟨M', rfl, h⟩
    unfold fM_image_b74
    have ii : inb (nI i) 600 := (inb_nI (by omega)).mpr (by omega)
    have ji : jix (nI i) = i := jix_nI (by omega)
    dsimp only
    simp only [ji]
    refine Go.no (by rw [lit_nI, nI_le' (by omega) (by omega)]; omega) ?_
    refine Go.gd (ii) ?_
    refine Go.bind (kp_step (a := 222) (k := i) (by unfold ivd; omega) (by show 538 + i = _; omega) h) (fun q0 h0 => ?_)
    refine Go.gd (ii) ?_
    refine Go.some ?_
    refine ⟨_, by rw [nI_1], ?_⟩
    have e : 538 + 1 * i + 1 = 538 + 1 * (i + 1) := by omega
    rw [← e]; exact h0
theorem lp_keepsLaw_b18 {z : Bool} {M0 M : Mm} (h : Kp z M0 M 1139) : Go (lp 1000000 (fun s => fM_keepsLaw_b18 s.1 s.2) (0, M)) (fun M' => Kp z M0 M' 1203) := by
  refine go_for (fun i s => ∃ M', s = (nI i, M') ∧ Kp z M0 M' (1139 + 4 * i)) 16 ?_ ?_ (i := 0) (by omega) ⟨M, rfl, h⟩ (by omega)
  · rintro s ⟨M', rfl, h⟩
    exact Go.yes (show (16 : Int32) ≤ nI 16 by decide) (Go.some h)
  · rintro i s hi ⟨M', rfl, h⟩
    unfold fM_keepsLaw_b18
    have ii : inb (nI i) 48 := (inb_nI (by omega)).mpr (by omega)
    have ji : jix (nI i) = i := jix_nI (by omega)
    dsimp only
    simp only [ji]
    refine Go.no (by rw [lit_nI, nI_le' (by omega) (by omega)]; omega) ?_
    refine Go.gd (ii) ?_
    refine Go.bind (kp_step (a := 226) (k := i) (by unfold ivd; omega) (by show 1139 + 4 * i = _; omega) h) (fun q0 h0 => ?_)
    refine Go.gd (ii) ?_
    refine Go.gd (ii) ?_
    refine Go.bind (kp_step (a := 227) (k := i) (by unfold ivd; omega) (by show 1140 + 4 * i = _; omega) h0) (fun q1 h1 => ?_)
    refine Go.gd (ii) ?_
    refine Go.gd (ii) ?_
    refine Go.bind (kp_step (a := 228) (k := i) (by unfold ivd; omega) (by show 1141 + 4 * i = _; omega) h1) (fun q2 h2 => ?_)
    refine Go.gd (ii) ?_
    refine Go.gd (ii) ?_
    refine Go.bind (kp_step (a := 229) (k := i) (by unfold ivd; omega) (by show 1142 + 4 * i = _; omega) h2) (fun q3 h3 => ?_)
    refine Go.gd (ii) ?_
    refine Go.some ?_
    refine ⟨_, by rw [nI_1], ?_⟩
    have e : 1139 + 4 * i + 1 + 1 + 1 + 1 = 1139 + 4 * (i + 1) := by omega
    rw [← e]; exact h3
theorem lp_keepsLaw_b96 {z : Bool} {M0 M : Mm} (h : Kp z M0 M 1203) : Go (lp 1000000 (fun s => fM_keepsLaw_b96 s.1 s.2) (0, M)) (fun M' => Kp z M0 M' 2003) := by
  refine go_for (fun i s => ∃ M', s = (nI i, M') ∧ Kp z M0 M' (1203 + 2 * i)) 400 ?_ ?_ (i := 0) (by omega) ⟨M, rfl, h⟩ (by omega)
  · rintro s ⟨M', rfl, h⟩
    exact Go.yes (show (400 : Int32) ≤ nI 400 by decide) (Go.some h)
  · rintro i s hi ⟨M', rfl, h⟩
    unfold fM_keepsLaw_b96
    have ii : inb (nI i) 1200 := (inb_nI (by omega)).mpr (by omega)
    have ji : jix (nI i) = i := jix_nI (by omega)
    dsimp only
    simp only [ji]
    refine Go.no (by rw [lit_nI, nI_le' (by omega) (by omega)]; omega) ?_
    refine Go.gd (ii) ?_
    refine Go.bind (kp_step (a := 230) (k := i) (by unfold ivd; omega) (by show 1203 + 2 * i = _; omega) h) (fun q0 h0 => ?_)
    refine Go.gd (ii) ?_
    refine Go.gd (ii) ?_
    refine Go.bind (kp_step (a := 231) (k := i) (by unfold ivd; omega) (by show 1204 + 2 * i = _; omega) h0) (fun q1 h1 => ?_)
    refine Go.gd (ii) ?_
    refine Go.some ?_
    refine ⟨_, by rw [nI_1], ?_⟩
    have e : 1203 + 2 * i + 1 + 1 = 1203 + 2 * (i + 1) := by omega
    rw [← e]; exact h1
theorem many_go {z : Bool} {M0 M : Mm} (h : Kp z M0 M 174) : Go (fM_keepsMany M) (fun M' => Kp z M0 M' 183) := by
  unfold fM_keepsMany
  refine Go.bind (kp_step (a := 217) (k := 6) (by unfold ivd; omega) rfl h) (fun q0 h0 => ?_)
  refine Go.bind (kp_step (a := 217) (k := 32) (by unfold ivd; omega) rfl h0) (fun q1 h1 => ?_)
  refine Go.bind (kp_step (a := 217) (k := 34) (by unfold ivd; omega) rfl h1) (fun q2 h2 => ?_)
  refine Go.bind (kp_step (a := 217) (k := 36) (by unfold ivd; omega) rfl h2) (fun q3 h3 => ?_)
  refine Go.bind (kp_step (a := 217) (k := 45) (by unfold ivd; omega) rfl h3) (fun q4 h4 => ?_)
  refine Go.bind (kp_step (a := 217) (k := 49) (by unfold ivd; omega) rfl h4) (fun q5 h5 => ?_)
  refine Go.bind (kp_step (a := 217) (k := 53) (by unfold ivd; omega) rfl h5) (fun q6 h6 => ?_)
  refine Go.bind (kp_step (a := 217) (k := 55) (by unfold ivd; omega) rfl h6) (fun q7 h7 => ?_)
  refine Go.bind (kp_step (a := 217) (k := 57) (by unfold ivd; omega) rfl h7) (fun q8 h8 => ?_)
  exact Go.some h8
theorem told_go {z : Bool} {M0 M : Mm} (h : Kp z M0 M 183) : Go (fM_keepsTold M) (fun M' => Kp z M0 M' 538) := by
  unfold fM_keepsTold
  refine Go.bind (lp_keepsTold_b2 h) (fun M1 h1 => ?_)
  refine Go.bind (lp_keepsTold_b48 h1) (fun M2 h2 => ?_)
  refine Go.bind (lp_keepsTold_b126 h2) (fun M3 h3 => ?_)
  refine Go.bind (lp_keepsTold_b156 h3) (fun M4 h4 => ?_)
  refine Go.bind (lp_keepsTold_b186 h4) (fun M5 h5 => ?_)
  refine Go.bind (lp_keepsTold_b216 h5) (fun M6 h6 => ?_)
  refine Go.bind (lp_keepsTold_b246 h6) (fun M7 h7 => ?_)
  exact Go.some h7
theorem law_go {z : Bool} {M0 M : Mm} (h : Kp z M0 M 1138) : Go (fM_keepsLaw M) (fun M' => Kp z M0 M' 2003) := by
  unfold fM_keepsLaw
  refine Go.bind (kp_step (a := 225) (k := 0) (by unfold ivd; omega) rfl h) (fun q0 h0 => ?_)
  refine Go.bind (lp_keepsLaw_b18 h0) (fun M1 h1 => ?_)
  refine Go.bind (lp_keepsLaw_b96 h1) (fun M2 h2 => ?_)
  exact Go.some h2
/-- the model's image, whole -/
theorem image_go {z : Bool} {B : Mm} : Go (fM_image_j18 (if z then 1 else 0) B) (fun q => q.1 = 1 ∧ (q.2 217 61 = 1) ∧ (if z then (∀ c k, ivd c k → q.2 251 (ips c k) = B c k) ∧ (∀ c k, c ≠ 251 → (c ≠ 217 ∨ (k ≠ 60 ∧ k ≠ 61 ∧ k ≠ 62)) → q.2 c k = B c k)
    else (∀ c k, ivd c k → q.2 c k = B 251 (ips c k)) ∧ (q.2 217 3 = 0) ∧ (∀ c k, ¬ ivd c k → (c ≠ 217 ∨ (k ≠ 60 ∧ k ≠ 61 ∧ k ≠ 62 ∧ k ≠ 3)) → q.2 c k = B c k))) := by
  obtain ⟨M0, hM0⟩ : ∃ M0, M0 = mput (mput (mput B 217 60 (if z then 1 else 0)) 217 61 1) 217 62 0 := ⟨_, rfl⟩
  have f0 : ∀ c k, (c ≠ 217 ∨ (k ≠ 60 ∧ k ≠ 61 ∧ k ≠ 62)) → M0 c k = B c k := fun c k q => by rw [hM0, mput_q (by omega), mput_q (by omega), mput_q (by omega)]
  have k0 : Kp z M0 M0 0 := by
    cases z with
    | true =>
      show KpT M0 M0 0
      refine ⟨?_, ?_, fun c k _ q => by omega, fun _ _ _ _ => rfl⟩
      · rw [hM0, mput_s (by omega), mput_s (by omega), mput_same]; rfl
      · rw [hM0, mput_same]; rfl
    | false =>
      show KpB M0 M0 0
      refine ⟨?_, ?_, fun c k _ q => by omega, fun _ _ _ _ => rfl⟩
      · rw [hM0, mput_s (by omega), mput_s (by omega), mput_same]; rfl
      · rw [hM0, mput_same]; rfl
  have m61 : M0 217 61 = 1 := by rw [hM0, mput_s (by omega), mput_same]
  unfold fM_image_j18
  refine Go.gd (by cases z <;> decide) ?_
  dsimp only
  rw [← hM0]
  refine Go.bind (lp_image_b35 (if z then 1 else 0) k0) (fun M1 h1 => ?_)
  refine Go.bind (many_go h1) (fun M2 h2 => ?_)
  refine Go.bind (told_go h2) (fun M3 h3 => ?_)
  refine Go.bind (lp_image_b74 (if z then 1 else 0) h3) (fun M4 h4 => ?_)
  refine Go.bind (law_go h4) (fun M5 h5 => ?_)
  cases z with
  | true =>
    obtain ⟨k1, k2, k3, k4⟩ : KpT M0 M5 2003 := h5
    refine Go.no (by first | decide | (simp; done)) ?_
    refine Go.some ?_
    refine ⟨rfl, ?_, fun c k v => ?_, fun c k q1 q2 => ?_⟩
    · show M5 217 61 = 1
      rw [k4 217 61 (by omega) (by omega)]; exact m61
    · have := ivd_row v
      show M5 251 _ = _
      rw [k3 c k v (ifr_ips v).2, f0 c k (by omega)]
    · show M5 c k = _
      rw [k4 c k q1 (by omega), f0 c k (by omega)]
  | false =>
    obtain ⟨k1, k2, k3, k4⟩ : KpB M0 M5 2003 := h5
    refine Go.yes (by first | rfl | (simp; done)) ?_
    refine Go.some ?_
    have n61 : ¬ ivd 217 61 := by unfold ivd; omega
    refine ⟨rfl, ?_, fun c k v => ?_, (show mput M5 217 3 0 217 3 = 0 from mput_same _ _ _ _), fun c k q1 q2 => ?_⟩
    · show mput M5 217 3 0 217 61 = 1
      rw [mput_s (by omega), k4 217 61 (fun z => n61 z.1) (by omega)]; exact m61
    · have := ivd_row v
      show mput M5 217 3 0 c k = _
      rw [mput_q (by omega), k3 c k v (ifr_ips v).2, f0 251 _ (by omega)]
    · show mput M5 217 3 0 c k = _
      rw [mput_q (by omega), k4 c k (fun z => q1 z.1) (by omega), f0 c k (by omega)]

end PmImage2
