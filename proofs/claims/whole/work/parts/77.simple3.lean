section PmSimple3
theorem held_in {x a b : Int32} (h1 : a.toInt ≤ x.toInt) (h2 : x.toInt ≤ b.toInt) : fM_held x a b = x := by
  unfold fM_held
  rw [if_pos (i32_le.mpr h1), if_pos (i32_le.mpr h2)]
theorem sim_set {A B : Mm} (x y z : Int32) (h : RR A B) : Sim A B (fK_set x y z A) (fM_set x y z B) := by
  have h0 := h
  obtain ⟨⟨n, ⟨⟨m, r, hh, hD, hB, hS⟩, hd, hk⟩, hP⟩, -⟩ := h0
  have hD0 := hD
  obtain ⟨n1, n2, n3⟩ := hD0
  have hS0 := hS
  obtain ⟨s1, s2, s3, s4, s5, s6, s7, s8, s9, s10, s11, s12, s13, s14⟩ := hS0
  have n2' : A 2 0 = nI n := n2
  have m1 : mput B 217 0 0 217 6 = nI n := hd
  unfold Sim fK_set fM_set
  by_cases x3 : x = 3
  · subst x3
    unfold fK_setPostman fM_canSet fM_canSet_j86
    rcases within_cases z 0 99 with ⟨w, w1, w2⟩ | ⟨w, -⟩
    · simp only [w, isIn_eq, if_neg (show ¬ (1 : Int32) = 0 by decide)]
      refine go_bind.mpr ?_
      refine Go.yes (by first | rfl | (simp; done)) ?_
      refine Go.some ?_
      refine Go.no (by first | decide | (simp; done)) ?_
      refine Go.gd (by first | decide | (simp; done)) ?_
      refine Go.some ?_
      refine go_bind.mpr ?_
      refine Go.no (by first | decide | (simp; done)) ?_
      refine Go.no (by first | decide | (simp; done)) ?_
      refine Go.no (by first | decide | (simp; done)) ?_
      refine Go.yes (by first | rfl | (simp; done)) ?_
      refine Go.some ?_
      refine Go.no (by first | decide | (simp; done)) ?_
      refine go_bind.mpr ?_
      refine Go.no (by first | decide | (simp; done)) ?_
      refine Go.some ?_
      refine go_bind.mpr ?_
      refine Go.no (by first | decide | (simp; done)) ?_
      refine Go.some ?_
      refine go_bind.mpr ?_
      refine Go.no (by first | decide | (simp; done)) ?_
      refine Go.some ?_
      refine go_bind.mpr ?_
      refine Go.yes (by first | rfl | (simp; done)) ?_
      refine Go.some ?_
      refine go_bind.mpr ?_
      refine Go.no (by first | decide | (simp; done)) ?_
      refine Go.some ?_
      refine Go.some ?_
      unfold fM_hasHealth fP_forget
      rw [held_in w1 w2]
      obtain ⟨a, rfl, a1, -⟩ := i32_ofs (x := z) (by simpa using w1)
      have ha : a ≤ 99 := by have : Int32.toInt 99 = 99 := by decide
                             omega
      refine ⟨rfl, fin_sc (n := n) (m := m) (r := r) (hh := a) h ?_ ?_ ?_ ?_ ?_ ?_ ?_ ?_ ?_ ?_⟩
      · exact WD_congr (fun c h1 h2 => by simp (disch := omega) [mput_r]) (fun k h1 h2 => by simp (disch := omega) only [mput_q]) (fun k h1 => by simp (disch := omega) only [mput_q]) hD
      · exact WB_congr (fun c h1 h2 => by simp (disch := omega) [mput_r]) (fun k h1 => by simp (disch := omega) only [mput_q]) hB
      · refine ⟨s1, ha, fun k hk => ?_, ?_⟩
        · have := s3 k hk
          simp (disch := omega) only [mput_q]
          simpa (disch := omega) [mput_q] using this
        · simp [mput]
          refine ⟨s4, s5, ?_, s8, s9, s10, s11, s12, s13, s14⟩
          exact nI_sub' (a := 99) ha
      · simp [mput]; exact hd
      · intro k h1; simp (disch := omega) [mput_q]; simpa using hk k h1
      · simp [mput]
      · simp [mput]
      · simp [mput]
      · simp only [if_true]
        exact fb_put (fb_put (fb_rfl _ _) rfl) rfl
      · exact fb_put (fb_put (fb_put (fb_rfl _ _) rfl) rfl) rfl
    · simp only [w, isIn_eq]
      refine go_bind.mpr ?_
      refine Go.yes (by first | rfl | (simp; done)) ?_
      refine Go.some ?_
      refine Go.yes (by first | rfl | (simp; done)) ?_
      refine Go.gd (by first | decide | (simp; done)) ?_
      refine Go.some ?_
      refine go_bind.mpr ?_
      refine Go.no (by first | decide | (simp; done)) ?_
      refine Go.no (by first | decide | (simp; done)) ?_
      refine Go.no (by first | decide | (simp; done)) ?_
      refine Go.yes (by first | rfl | (simp; done)) ?_
      refine Go.some ?_
      refine Go.yes (by first | rfl | (simp; done)) ?_
      refine Go.some ?_
      exact ⟨rfl, fin_0 h⟩
  by_cases x4 : x = 4
  · subst x4
    unfold fK_setPostman fM_canSet fM_canSet_j86
    rcases within_cases z 0 99 with ⟨w, w1, w2⟩ | ⟨w, -⟩
    · simp only [w, isIn_eq, if_neg (show ¬ (1 : Int32) = 0 by decide), if_neg (show ¬ (4 : Int32) = 3 by decide)]
      refine go_bind.mpr ?_
      refine Go.yes (by first | rfl | (simp; done)) ?_
      refine Go.some ?_
      refine Go.no (by first | decide | (simp; done)) ?_
      refine Go.gd (by first | decide | (simp; done)) ?_
      refine Go.some ?_
      refine go_bind.mpr ?_
      refine Go.no (by first | decide | (simp; done)) ?_
      refine Go.no (by first | decide | (simp; done)) ?_
      refine Go.no (by first | decide | (simp; done)) ?_
      refine Go.yes (by first | rfl | (simp; done)) ?_
      refine Go.some ?_
      refine Go.no (by first | decide | (simp; done)) ?_
      refine go_bind.mpr ?_
      refine Go.no (by first | decide | (simp; done)) ?_
      refine Go.some ?_
      refine go_bind.mpr ?_
      refine Go.no (by first | decide | (simp; done)) ?_
      refine Go.some ?_
      refine go_bind.mpr ?_
      refine Go.no (by first | decide | (simp; done)) ?_
      refine Go.some ?_
      refine go_bind.mpr ?_
      refine Go.some ?_
      refine go_bind.mpr ?_
      refine Go.yes (by first | rfl | (simp; done)) ?_
      refine Go.some ?_
      refine Go.some ?_
      unfold fP_forget
      refine ⟨rfl, fin_sc (n := n) (m := m) (r := r) (hh := hh) h ?_ ?_ ?_ ?_ ?_ ?_ ?_ ?_ ?_ ?_⟩
      · exact WD_congr (fun c h1 h2 => by simp (disch := omega) [mput_r]) (fun k h1 h2 => by simp (disch := omega) only [mput_q]) (fun k h1 => by simp (disch := omega) only [mput_q]) hD
      · exact WB_congr (fun c h1 h2 => by simp (disch := omega) [mput_r]) (fun k h1 => by simp (disch := omega) only [mput_q]) hB
      · refine ⟨s1, s2, fun k hk => ?_, ?_⟩
        · have := s3 k hk
          simp (disch := omega) only [mput_q]
          simpa (disch := omega) [mput_q] using this
        · simp [mput]
          exact ⟨s4, s5, s6, s7, s9, s10, s11, s12, s13, s14⟩
      · simp [mput]; exact hd
      · intro k h1; simp (disch := omega) [mput_q]; simpa using hk k h1
      · simp [mput]
      · simp [mput]
      · simp [mput]
      · exact fb_put (fb_put (fb_rfl _ _) rfl) rfl
      · exact fb_put (fb_put (fb_put (fb_rfl _ _) rfl) rfl) rfl
    · simp only [w, isIn_eq, if_neg (show ¬ (4 : Int32) = 3 by decide)]
      refine go_bind.mpr ?_
      refine Go.yes (by first | rfl | (simp; done)) ?_
      refine Go.some ?_
      refine Go.yes (by first | rfl | (simp; done)) ?_
      refine Go.gd (by first | decide | (simp; done)) ?_
      refine Go.some ?_
      refine go_bind.mpr ?_
      refine Go.no (by first | decide | (simp; done)) ?_
      refine Go.no (by first | decide | (simp; done)) ?_
      refine Go.no (by first | decide | (simp; done)) ?_
      refine Go.yes (by first | rfl | (simp; done)) ?_
      refine Go.some ?_
      refine Go.yes (by first | rfl | (simp; done)) ?_
      refine Go.some ?_
      exact ⟨rfl, fin_0 h⟩
  refine go_bind.mpr ?_
  refine Go.no (x3) ?_
  refine Go.no (x4) ?_
  refine go_bind.mpr ?_
  unfold fK_setDoor fM_canSet fM_canSet_j40
  refine go_bind.mpr ?_
  by_cases x012 : x = 0 ∨ x = 1 ∨ x = 2
  rotate_left
  · have x0 : ¬ x = 0 := fun e => x012 (Or.inl e)
    have x1 : ¬ x = 1 := fun e => x012 (Or.inr (Or.inl e))
    have x2 : ¬ x = 2 := fun e => x012 (Or.inr (Or.inr e))
    rcases isDoor_eq n1 n2' m1 y with ⟨i1, i2, d, d1, rfl⟩ | ⟨i1, i2⟩
    · rw [i1]
      refine Go.some ?_
      refine Go.no (by first | decide | (simp; done)) ?_
      refine Go.no (x0) ?_
      unfold fK_setDoor_j36
      refine Go.no (x1) ?_
      unfold fK_setDoor_j66
      refine Go.no (x2) ?_
      refine Go.some ?_
      refine Go.some ?_
      refine Go.yes (by first | rfl | (simp; done)) ?_
      refine Go.gd (by first | decide | (simp; done)) ?_
      refine Go.some ?_
      refine go_bind.mpr ?_
      refine Go.no (x0) ?_
      refine Go.no (x1) ?_
      refine Go.no (x2) ?_
      refine Go.no (x3) ?_
      refine Go.no (x4) ?_
      refine Go.some ?_
      refine Go.yes (by first | rfl | (simp; done)) ?_
      refine Go.some ?_
      exact ⟨rfl, fin_0 h⟩
    · rw [i1]
      refine Go.some ?_
      refine Go.yes (by first | rfl | (simp; done)) ?_
      refine Go.some ?_
      refine Go.some ?_
      refine Go.yes (by first | rfl | (simp; done)) ?_
      refine Go.gd (by first | decide | (simp; done)) ?_
      refine Go.some ?_
      refine go_bind.mpr ?_
      refine Go.no (x0) ?_
      refine Go.no (x1) ?_
      refine Go.no (x2) ?_
      refine Go.no (x3) ?_
      refine Go.no (x4) ?_
      refine Go.some ?_
      refine Go.yes (by first | rfl | (simp; done)) ?_
      refine Go.some ?_
      exact ⟨rfl, fin_0 h⟩
  rcases isDoor_eq n1 n2' m1 y with ⟨i1, i2, d, d1, rfl⟩ | ⟨i1, i2⟩
  rotate_left
  · rw [i1]
    refine Go.some ?_
    refine Go.yes (by first | rfl | (simp; done)) ?_
    refine Go.some ?_
    refine Go.some ?_
    refine Go.yes (by first | rfl | (simp; done)) ?_
    refine Go.gd (by first | decide | (simp; done)) ?_
    refine Go.some ?_
    refine go_bind.mpr ?_
    rcases x012 with rfl | rfl | rfl
    · refine Go.yes (by first | rfl | (simp; done)) ?_
      refine Go.yes (i2) ?_
      refine Go.some ?_
      refine Go.yes (by first | rfl | (simp; done)) ?_
      refine Go.some ?_
      exact ⟨rfl, fin_0 h⟩
    · refine Go.no (by first | decide | (simp; done)) ?_
      refine Go.yes (by first | rfl | (simp; done)) ?_
      refine Go.yes (i2) ?_
      refine Go.some ?_
      refine Go.yes (by first | rfl | (simp; done)) ?_
      refine Go.some ?_
      exact ⟨rfl, fin_0 h⟩
    · refine Go.no (by first | decide | (simp; done)) ?_
      refine Go.no (by first | decide | (simp; done)) ?_
      refine Go.yes (by first | rfl | (simp; done)) ?_
      refine Go.yes (i2) ?_
      refine Go.some ?_
      refine Go.yes (by first | rfl | (simp; done)) ?_
      refine Go.some ?_
      exact ⟨rfl, fin_0 h⟩
  rw [i1]
  have i2' : ¬ fM_isDoor (nI d) (mput B 217 0 0) = 0 := by rw [i2]; decide
  have jd : jix (nI d) = d := jix_nI (by omega)
  have bd : inb (nI d) 12 := (inb_nI (by omega)).mpr (by omega)
  rcases x012 with rfl | rfl | rfl
  · refine Go.some ?_
    refine Go.no (by first | decide | (simp; done)) ?_
    refine Go.yes (by first | rfl | (simp; done)) ?_
    refine go_bind.mpr ?_
    rw [face_some]
    simp only [isIn_eq]
    rcases within_cases z (-9) 9 with ⟨w, w1, w2⟩ | ⟨w, -⟩
    rotate_left
    · refine Go.some ?_
      refine Go.yes (w) ?_
      unfold fK_setDoor_j36
      refine Go.no (by first | decide | (simp; done)) ?_
      unfold fK_setDoor_j66
      refine Go.no (by first | decide | (simp; done)) ?_
      refine Go.some ?_
      refine Go.some ?_
      refine Go.yes (by first | rfl | (simp; done)) ?_
      refine Go.gd (by first | decide | (simp; done)) ?_
      refine Go.some ?_
      refine go_bind.mpr ?_
      refine Go.yes (by first | rfl | (simp; done)) ?_
      refine Go.no (i2') ?_
      refine Go.yes (w) ?_
      refine Go.some ?_
      refine Go.yes (by first | rfl | (simp; done)) ?_
      refine Go.some ?_
      exact ⟨rfl, fin_0 h⟩
    have i18 : (18 : Int32) + nI d = nI (18 + d) := nI_add 18 d
    refine Go.some ?_
    refine Go.no (by rw [w]; decide) ?_
    refine Go.gd (bd) ?_
    refine Go.some ?_
    refine Go.some ?_
    refine Go.no (by first | decide | (simp; done)) ?_
    refine Go.gd (by first | decide | (simp; done)) ?_
    refine Go.some ?_
    refine go_bind.mpr ?_
    refine Go.yes (by first | rfl | (simp; done)) ?_
    refine Go.no (i2') ?_
    refine Go.no (by rw [w]; decide) ?_
    refine Go.some ?_
    refine Go.no (by first | decide | (simp; done)) ?_
    refine go_bind.mpr ?_
    refine Go.yes (by first | rfl | (simp; done)) ?_
    refine Go.gd (by rw [i18, inb_nI (by omega)]; omega) ?_
    refine Go.some ?_
    refine go_bind.mpr ?_
    refine Go.no (by first | decide | (simp; done)) ?_
    refine Go.some ?_
    refine go_bind.mpr ?_
    refine Go.no (by first | decide | (simp; done)) ?_
    refine Go.some ?_
    refine go_bind.mpr ?_
    refine Go.no (by first | decide | (simp; done)) ?_
    refine Go.some ?_
    refine go_bind.mpr ?_
    refine Go.no (by first | decide | (simp; done)) ?_
    refine Go.some ?_
    refine Go.some ?_
    unfold fP_forget
    have j18 : jix ((18 : Int32) + nI d) = 18 + d := by rw [i18, jix_nI (by omega)]
    rw [jd, j18]
    refine ⟨rfl, fin_sc (n := n) (m := m) (r := r) (hh := hh) h ?_ ?_ ?_ ?_ ?_ ?_ ?_ ?_ ?_ ?_⟩
    · refine ⟨n1, by simp [mput]; exact n2', fun e he => ?_⟩
      have q := n3 e he
      simp only [Nat.reduceAdd] at q
      by_cases ed : e = d
      · subst ed
        have t3 : (30 : Nat) + e ≠ 18 + e := by omega
        have t5 : (42 : Nat) + e ≠ 18 + e := by omega
        simp [mput, t3, t5]
        exact ⟨q.2.1, q.2.2.1, q.2.2.2.1, ⟨w1, w2⟩, q.2.2.2.2.2⟩
      · have t3 : (30 : Nat) + e ≠ 18 + d := by omega
        have t5 : (42 : Nat) + e ≠ 18 + d := by omega
        simp [mput, ed, t3, t5]
        exact q
    · exact WB_congr (fun c h1 h2 => by simp (disch := omega) only [mput_r]) (fun k h1 => by simp (disch := omega) only [mput_q]) hB
    · exact WS_congr (by simp (disch := omega) only [mput_r]) (fun k h1 h2 => by simp (disch := omega) only [mput_q]) (fun k h1 => by simp (disch := omega) only [mput_q]) hS
    · simp [mput]; exact hd
    · intro k h1; simp (disch := omega) only [mput_q]; exact hk k h1
    · simp [mput]
    · simp [mput]
    · simp [mput]
    · exact fb_put (fb_put (fb_rfl _ _) rfl) rfl
    · exact fb_put (fb_put (fb_put (fb_rfl _ _) rfl) rfl) rfl
  · refine Go.some ?_
    refine Go.no (by first | decide | (simp; done)) ?_
    refine Go.no (by first | decide | (simp; done)) ?_
    unfold fK_setDoor_j36
    refine Go.yes (by first | rfl | (simp; done)) ?_
    have w9 : (if (1 : Int32) = 1 then (9 : Int32) else 999) = 9 := rfl
    simp only [isIn_eq, w9]
    rcases within_cases z 0 9 with ⟨w, w1, w2⟩ | ⟨w, -⟩
    rotate_left
    · refine Go.yes (w) ?_
      unfold fK_setDoor_j66
      refine Go.no (by first | decide | (simp; done)) ?_
      refine Go.some ?_
      refine Go.some ?_
      refine Go.yes (by first | rfl | (simp; done)) ?_
      refine Go.gd (by first | decide | (simp; done)) ?_
      refine Go.some ?_
      refine go_bind.mpr ?_
      refine Go.no (by first | decide | (simp; done)) ?_
      refine Go.yes (by first | rfl | (simp; done)) ?_
      refine Go.no (i2') ?_
      refine Go.yes (by rw [if_pos trivial, w]) ?_
      refine Go.some ?_
      refine Go.yes (by first | rfl | (simp; done)) ?_
      refine Go.some ?_
      exact ⟨rfl, fin_0 h⟩
    refine Go.no (by rw [w]; decide) ?_
    refine Go.gd (bd) ?_
    refine Go.some ?_
    refine Go.some ?_
    refine Go.no (by first | decide | (simp; done)) ?_
    refine Go.gd (by first | decide | (simp; done)) ?_
    refine Go.some ?_
    refine go_bind.mpr ?_
    refine Go.no (by first | decide | (simp; done)) ?_
    refine Go.yes (by first | rfl | (simp; done)) ?_
    refine Go.no (i2') ?_
    refine Go.no (by rw [if_pos trivial, w]; decide) ?_
    refine Go.some ?_
    refine Go.no (by first | decide | (simp; done)) ?_
    refine go_bind.mpr ?_
    refine Go.no (by first | decide | (simp; done)) ?_
    refine Go.some ?_
    refine go_bind.mpr ?_
    refine Go.yes (by first | rfl | (simp; done)) ?_
    refine Go.gd (bd) ?_
    refine Go.some ?_
    refine go_bind.mpr ?_
    refine Go.no (by first | decide | (simp; done)) ?_
    refine Go.some ?_
    refine go_bind.mpr ?_
    refine Go.no (by first | decide | (simp; done)) ?_
    refine Go.some ?_
    refine go_bind.mpr ?_
    refine Go.no (by first | decide | (simp; done)) ?_
    refine Go.some ?_
    refine Go.some ?_
    unfold fP_forget
    rw [jd]
    refine ⟨rfl, fin_sc (n := n) (m := m) (r := r) (hh := hh) h ?_ ?_ ?_ ?_ ?_ ?_ ?_ ?_ ?_ ?_⟩
    · refine ⟨n1, by simp [mput]; exact n2', fun e he => ?_⟩
      have q := n3 e he
      simp only [Nat.reduceAdd] at q
      by_cases ed : e = d
      · subst ed
        simp [mput]
        exact ⟨q.1, q.2.2⟩
      · simp [mput, ed]
        exact q
    · exact WB_congr (fun c h1 h2 => by simp (disch := omega) only [mput_r]) (fun k h1 => by simp (disch := omega) only [mput_q]) hB
    · exact WS_congr (by simp (disch := omega) only [mput_r]) (fun k h1 h2 => by simp (disch := omega) only [mput_q]) (fun k h1 => by simp (disch := omega) only [mput_q]) hS
    · simp [mput]; exact hd
    · intro k h1; simp (disch := omega) only [mput_q]; exact hk k h1
    · simp [mput]
    · simp [mput]
    · simp [mput]
    · exact fb_put (fb_put (fb_rfl _ _) rfl) rfl
    · exact fb_put (fb_put (fb_put (fb_rfl _ _) rfl) rfl) rfl
  · refine Go.some ?_
    refine Go.no (by first | decide | (simp; done)) ?_
    refine Go.no (by first | decide | (simp; done)) ?_
    unfold fK_setDoor_j36
    refine Go.no (by first | decide | (simp; done)) ?_
    unfold fK_setDoor_j66
    refine Go.yes (by first | rfl | (simp; done)) ?_
    have w9 : (if (2 : Int32) = 1 then (9 : Int32) else 999) = 999 := rfl
    simp only [isIn_eq, w9]
    rcases within_cases z 0 999 with ⟨w, w1, w2⟩ | ⟨w, -⟩
    rotate_left
    · refine Go.yes (w) ?_
      refine Go.some ?_
      refine Go.some ?_
      refine Go.yes (by first | rfl | (simp; done)) ?_
      refine Go.gd (by first | decide | (simp; done)) ?_
      refine Go.some ?_
      refine go_bind.mpr ?_
      refine Go.no (by first | decide | (simp; done)) ?_
      refine Go.no (by first | decide | (simp; done)) ?_
      refine Go.yes (by first | rfl | (simp; done)) ?_
      refine Go.no (i2') ?_
      refine Go.yes (w) ?_
      refine Go.some ?_
      refine Go.yes (by first | rfl | (simp; done)) ?_
      refine Go.some ?_
      exact ⟨rfl, fin_0 h⟩
    have i30 : (30 : Int32) + nI d = nI (30 + d) := nI_add 30 d
    refine Go.no (by rw [w]; decide) ?_
    refine Go.gd (bd) ?_
    refine Go.some ?_
    refine Go.some ?_
    refine Go.no (by first | decide | (simp; done)) ?_
    refine Go.gd (by first | decide | (simp; done)) ?_
    refine Go.some ?_
    refine go_bind.mpr ?_
    refine Go.no (by first | decide | (simp; done)) ?_
    refine Go.no (by first | decide | (simp; done)) ?_
    refine Go.yes (by first | rfl | (simp; done)) ?_
    refine Go.no (i2') ?_
    refine Go.no (by rw [w]; decide) ?_
    refine Go.some ?_
    refine Go.no (by first | decide | (simp; done)) ?_
    refine go_bind.mpr ?_
    refine Go.no (by first | decide | (simp; done)) ?_
    refine Go.some ?_
    refine go_bind.mpr ?_
    refine Go.no (by first | decide | (simp; done)) ?_
    refine Go.some ?_
    refine go_bind.mpr ?_
    refine Go.yes (by first | rfl | (simp; done)) ?_
    refine Go.gd (by rw [i30, inb_nI (by omega)]; omega) ?_
    refine Go.some ?_
    refine go_bind.mpr ?_
    refine Go.no (by first | decide | (simp; done)) ?_
    refine Go.some ?_
    refine go_bind.mpr ?_
    refine Go.no (by first | decide | (simp; done)) ?_
    refine Go.some ?_
    refine Go.some ?_
    unfold fP_forget
    have j30 : jix ((30 : Int32) + nI d) = 30 + d := by rw [i30, jix_nI (by omega)]
    rw [jd, j30]
    refine ⟨rfl, fin_sc (n := n) (m := m) (r := r) (hh := hh) h ?_ ?_ ?_ ?_ ?_ ?_ ?_ ?_ ?_ ?_⟩
    · refine ⟨n1, by simp [mput]; exact n2', fun e he => ?_⟩
      have q := n3 e he
      simp only [Nat.reduceAdd] at q
      by_cases ed : e = d
      · subst ed
        have t3 : (18 : Nat) + e ≠ 30 + e := by omega
        have t5 : (42 : Nat) + e ≠ 30 + e := by omega
        simp [mput, t3, t5]
        exact ⟨q.1, q.2.1, q.2.2.2.1, q.2.2.2.2.1, by simpa using w1⟩
      · have t3 : (18 : Nat) + e ≠ 30 + d := by omega
        have t5 : (42 : Nat) + e ≠ 30 + d := by omega
        simp [mput, ed, t3, t5]
        exact q
    · exact WB_congr (fun c h1 h2 => by simp (disch := omega) only [mput_r]) (fun k h1 => by simp (disch := omega) only [mput_q]) hB
    · exact WS_congr (by simp (disch := omega) only [mput_r]) (fun k h1 h2 => by simp (disch := omega) only [mput_q]) (fun k h1 => by simp (disch := omega) only [mput_q]) hS
    · simp [mput]; exact hd
    · intro k h1; simp (disch := omega) only [mput_q]; exact hk k h1
    · simp [mput]
    · simp [mput]
    · simp [mput]
    · exact fb_put (fb_put (fb_rfl _ _) rfl) rfl
    · exact fb_put (fb_put (fb_put (fb_rfl _ _) rfl) rfl) rfl
/-! how many letters lie for a door -/
theorem countFor_eq {A : Mm} {w m : Nat} (d : Int32) (hm : m ≤ 24) (h : A w 0 = nI m) : fB_countFor w d A = some (nI (cnt (A (w + 2)) d m)) := by
  apply Go.eq
  unfold fB_countFor
  refine Go.bind (P := fun e => e = nI (cnt (A (w + 2)) d m)) ?_ (fun e he => Go.some he)
  refine go_for (fun i s => s = (nI (cnt (A (w + 2)) d i), nI i)) m ?_ ?_ (i := 0) (by omega) rfl (by omega)
  · intro s hs
    subst hs
    exact Go.yes (by rw [h]; exact i32_le.mpr (Int.le_refl _)) (Go.some rfl)
  · intro i s hi hs
    subst hs
    refine Go.no (by rw [h, nI_le' (by omega) (by omega)]; omega) (Go.gd ((inb_nI (by omega)).mpr (by omega)) (Go.some ?_))
    show (_, _) = (_, _)
    rw [jix_nI (by omega), nI_1]
    simp only [cnt]
    by_cases q : A (w + 2) i = d
    · simp only [if_pos q, nI_1]
    · simp only [if_neg q, Nat.add_zero, nI_1]
theorem lettersFor_eq {B : Mm} {m : Nat} (d : Int32) (hm : m ≤ 24) (h : B 218 10 = nI m) : fM_lettersFor d B = some (nI (cnt (fun i => B 218 (55 + 5 * i)) d m)) := by
  apply Go.eq
  unfold fM_lettersFor
  refine Go.bind (P := fun e => e = nI (cnt (fun i => B 218 (55 + 5 * i)) d m)) ?_ (fun e he => Go.some he)
  refine go_for (fun i s => s = (nI (cnt (fun i => B 218 (55 + 5 * i)) d i), nI i)) m ?_ ?_ (i := 0) (by omega) rfl (by omega)
  · intro s hs
    subst hs
    exact Go.yes (by rw [h]; exact i32_le.mpr (Int.le_refl _)) (Go.some rfl)
  · intro i s hi hs
    subst hs
    have e1 : fM_letterAt (nI i) + 1 = nI (55 + 5 * i) := by
      unfold fM_letterAt
      rw [lit_nI, lit_nI, nI_mul', nI_add, nI_1]
      congr 1; omega
    refine Go.no (by rw [h, nI_le' (by omega) (by omega)]; omega) (go_bind.mpr ?_)
    unfold fM_doorOf
    refine Go.gd (by rw [e1, inb_nI (by omega)]; omega) (Go.some ?_)
    simp only [e1, jix_nI (show 55 + 5 * i < 2147483648 by omega)]
    refine go_bind.mpr ?_
    by_cases q : B 218 (55 + 5 * i) = d
    · refine Go.yes q (Go.some (Go.some ?_))
      show (_, _) = (_, _)
      simp only [cnt, if_pos q, nI_1]
    · refine Go.no q (Go.some (Go.some ?_))
      show (_, _) = (_, _)
      simp only [cnt, if_neg q, nI_1, Nat.add_zero]
end PmSimple3
