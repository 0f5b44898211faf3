section RnMeth
theorem rnIn1 {w : Cond} (h : w ∈ tables_1_1) : w ∈ lw_tbl := List.mem_append_right _ (List.mem_append_left _ h)
theorem rnIn2 {w : Cond} (h : w ∈ tables_1_2) : w ∈ lw_tbl := List.mem_append_right _ (List.mem_append_right _ (List.mem_append_left _ h))
theorem rnIn3 {w : Cond} (h : w ∈ tables_1_3) : w ∈ lw_tbl := List.mem_append_right _ (List.mem_append_right _ (List.mem_append_right _ (List.mem_append_left _ h)))
theorem rnIn4 {w : Cond} (h : w ∈ tables_1_4) : w ∈ lw_tbl := List.mem_append_right _ (List.mem_append_right _ (List.mem_append_right _ (List.mem_append_right _ (List.mem_append_left _ h))))
theorem rnIn5 {w : Cond} (h : w ∈ tables_1_5) : w ∈ lw_tbl := List.mem_append_right _ (List.mem_append_right _ (List.mem_append_right _ (List.mem_append_right _ (List.mem_append_right _ (List.mem_append_left _ h)))))
theorem rnIn6 {w : Cond} (h : w ∈ tables_1_6) : w ∈ lw_tbl := List.mem_append_right _ (List.mem_append_right _ (List.mem_append_right _ (List.mem_append_right _ (List.mem_append_right _ (List.mem_append_right _ (List.mem_append_left _ h))))))
theorem rnIn7 {w : Cond} (h : w ∈ tables_1_7) : w ∈ lw_tbl := List.mem_append_right _ (List.mem_append_right _ (List.mem_append_right _ (List.mem_append_right _ (List.mem_append_right _ (List.mem_append_right _ (List.mem_append_right _ (List.mem_append_left _ h)))))))
theorem rnIn8 {w : Cond} (h : w ∈ tables_1_8) : w ∈ lw_tbl := List.mem_append_right _ (List.mem_append_right _ (List.mem_append_right _ (List.mem_append_right _ (List.mem_append_right _ (List.mem_append_right _ (List.mem_append_right _ (List.mem_append_right _ (List.mem_append_left _ h))))))))
theorem rnIn9 {w : Cond} (h : w ∈ tables_1_9) : w ∈ lw_tbl := List.mem_append_right _ (List.mem_append_right _ (List.mem_append_right _ (List.mem_append_right _ (List.mem_append_right _ (List.mem_append_right _ (List.mem_append_right _ (List.mem_append_right _ (List.mem_append_right _ (h)))))))))
theorem rnK_mk {K : Kx} (h : rnCode K ∈ lw_tbl) (h2 : (decide ((kNm K).cls = rnOwn (kOc K)) && plainName (kNm K).cls && decide (kOc K < 20) && decide ((kNm K).cls ≠ "java/lang/invoke/MethodHandle") && decide ((kNm K).cls ≠ "java/lang/invoke/VarHandle") && decide (kML K ≤ 10)) = true) : rnKok K := by
  simp only [Bool.and_eq_true, decide_eq_true_eq] at h2
  obtain ⟨⟨⟨⟨⟨b, c⟩, d⟩, e⟩, f⟩, g⟩ := h2
  exact ⟨h, b, c, List.mem_append_right _ (by rw [b]; exact List.contains_iff_mem.mp (rnIni_all _ d)), e, f, g⟩
theorem oX0_init : rnKok kX0_init := rnK_mk (rnIn1 (List.mem_of_getElem? (i := 78) rfl)) (by decide +kernel)
theorem vX0_init : Cond.instanceMethod (kNm kX0_init) ∈ lw_tbl := rnIn1 (List.mem_of_getElem? (i := 77) rfl)
theorem oX0_add : rnKok kX0_add := rnK_mk (rnIn3 (List.mem_of_getElem? (i := 91) rfl)) (by decide +kernel)
theorem vX0_add : Cond.instanceMethod (kNm kX0_add) ∈ lw_tbl ∧ Cond.selects (kNm kX0_add).cls (kNm kX0_add) (kNm kX0_add) ∈ lw_tbl := ⟨rnIn3 (List.mem_of_getElem? (i := 89) rfl), rnIn3 (List.mem_of_getElem? (i := 90) rfl)⟩
theorem oX0_remove : rnKok kX0_remove := rnK_mk (rnIn3 (List.mem_of_getElem? (i := 155) rfl)) (by decide +kernel)
theorem vX0_remove : Cond.instanceMethod (kNm kX0_remove) ∈ lw_tbl ∧ Cond.selects (kNm kX0_remove).cls (kNm kX0_remove) (kNm kX0_remove) ∈ lw_tbl := ⟨rnIn3 (List.mem_of_getElem? (i := 153) rfl), rnIn3 (List.mem_of_getElem? (i := 154) rfl)⟩
theorem oX0_placeOf : rnKok kX0_placeOf := rnK_mk (rnIn3 (List.mem_of_getElem? (i := 103) rfl)) (by decide +kernel)
theorem vX0_placeOf : Cond.instanceMethod (kNm kX0_placeOf) ∈ lw_tbl ∧ Cond.selects (kNm kX0_placeOf).cls (kNm kX0_placeOf) (kNm kX0_placeOf) ∈ lw_tbl := ⟨rnIn3 (List.mem_of_getElem? (i := 101) rfl), rnIn3 (List.mem_of_getElem? (i := 102) rfl)⟩
theorem oX0_countFor : rnKok kX0_countFor := rnK_mk (rnIn4 (List.mem_of_getElem? (i := 230) rfl)) (by decide +kernel)
theorem vX0_countFor : Cond.instanceMethod (kNm kX0_countFor) ∈ lw_tbl ∧ Cond.selects (kNm kX0_countFor).cls (kNm kX0_countFor) (kNm kX0_countFor) ∈ lw_tbl := ⟨rnIn4 (List.mem_of_getElem? (i := 228) rfl), rnIn4 (List.mem_of_getElem? (i := 229) rfl)⟩
theorem oX0_copyFrom : rnKok kX0_copyFrom := rnK_mk (rnIn3 (List.mem_of_getElem? (i := 77) rfl)) (by decide +kernel)
theorem vX0_copyFrom : Cond.instanceMethod (kNm kX0_copyFrom) ∈ lw_tbl ∧ Cond.selects (kNm kX0_copyFrom).cls (kNm kX0_copyFrom) (kNm kX0_copyFrom) ∈ lw_tbl := ⟨rnIn3 (List.mem_of_getElem? (i := 75) rfl), rnIn3 (List.mem_of_getElem? (i := 76) rfl)⟩
theorem oX1_init : rnKok kX1_init := rnK_mk (rnIn1 (List.mem_of_getElem? (i := 41) rfl)) (by decide +kernel)
theorem vX1_init : Cond.instanceMethod (kNm kX1_init) ∈ lw_tbl := rnIn1 (List.mem_of_getElem? (i := 40) rfl)
theorem oX1_add : rnKok kX1_add := rnK_mk (rnIn3 (List.mem_of_getElem? (i := 35) rfl)) (by decide +kernel)
theorem vX1_add : Cond.instanceMethod (kNm kX1_add) ∈ lw_tbl ∧ Cond.selects (kNm kX1_add).cls (kNm kX1_add) (kNm kX1_add) ∈ lw_tbl := ⟨rnIn3 (List.mem_of_getElem? (i := 33) rfl), rnIn3 (List.mem_of_getElem? (i := 34) rfl)⟩
theorem oX1_beginRound : rnKok kX1_beginRound := rnK_mk (rnIn3 (List.mem_of_getElem? (i := 176) rfl)) (by decide +kernel)
theorem vX1_beginRound : Cond.instanceMethod (kNm kX1_beginRound) ∈ lw_tbl ∧ Cond.selects (kNm kX1_beginRound).cls (kNm kX1_beginRound) (kNm kX1_beginRound) ∈ lw_tbl := ⟨rnIn3 (List.mem_of_getElem? (i := 174) rfl), rnIn3 (List.mem_of_getElem? (i := 175) rfl)⟩
theorem oX1_calmTheUnvisited : rnKok kX1_calmTheUnvisited := rnK_mk (rnIn3 (List.mem_of_getElem? (i := 189) rfl)) (by decide +kernel)
theorem vX1_calmTheUnvisited : Cond.instanceMethod (kNm kX1_calmTheUnvisited) ∈ lw_tbl ∧ Cond.selects (kNm kX1_calmTheUnvisited).cls (kNm kX1_calmTheUnvisited) (kNm kX1_calmTheUnvisited) ∈ lw_tbl := ⟨rnIn3 (List.mem_of_getElem? (i := 187) rfl), rnIn3 (List.mem_of_getElem? (i := 188) rfl)⟩
theorem oX1_copyFrom : rnKok kX1_copyFrom := rnK_mk (rnIn3 (List.mem_of_getElem? (i := 70) rfl)) (by decide +kernel)
theorem vX1_copyFrom : Cond.instanceMethod (kNm kX1_copyFrom) ∈ lw_tbl ∧ Cond.selects (kNm kX1_copyFrom).cls (kNm kX1_copyFrom) (kNm kX1_copyFrom) ∈ lw_tbl := ⟨rnIn3 (List.mem_of_getElem? (i := 68) rfl), rnIn3 (List.mem_of_getElem? (i := 69) rfl)⟩
theorem oX2_init : rnKok kX2_init := rnK_mk (rnIn1 (List.mem_of_getElem? (i := 204) rfl)) (by decide +kernel)
theorem vX2_init : Cond.instanceMethod (kNm kX2_init) ∈ lw_tbl := rnIn1 (List.mem_of_getElem? (i := 203) rfl)
theorem oX2_tells : rnKok kX2_tells := rnK_mk (rnIn3 (List.mem_of_getElem? (i := 115) rfl)) (by decide +kernel)
theorem vX2_tells : Cond.instanceMethod (kNm kX2_tells) ∈ lw_tbl ∧ Cond.selects (kNm kX2_tells).cls (kNm kX2_tells) (kNm kX2_tells) ∈ lw_tbl := ⟨rnIn3 (List.mem_of_getElem? (i := 113) rfl), rnIn3 (List.mem_of_getElem? (i := 114) rfl)⟩
theorem oX2_clear : rnKok kX2_clear := rnK_mk (rnIn4 (List.mem_of_getElem? (i := 108) rfl)) (by decide +kernel)
theorem vX2_clear : Cond.instanceMethod (kNm kX2_clear) ∈ lw_tbl ∧ Cond.selects (kNm kX2_clear).cls (kNm kX2_clear) (kNm kX2_clear) ∈ lw_tbl := ⟨rnIn4 (List.mem_of_getElem? (i := 106) rfl), rnIn4 (List.mem_of_getElem? (i := 107) rfl)⟩
theorem oX2_addStep : rnKok kX2_addStep := rnK_mk (rnIn4 (List.mem_of_getElem? (i := 147) rfl)) (by decide +kernel)
theorem vX2_addStep : Cond.instanceMethod (kNm kX2_addStep) ∈ lw_tbl ∧ Cond.selects (kNm kX2_addStep).cls (kNm kX2_addStep) (kNm kX2_addStep) ∈ lw_tbl := ⟨rnIn4 (List.mem_of_getElem? (i := 145) rfl), rnIn4 (List.mem_of_getElem? (i := 146) rfl)⟩
theorem oX2_copyFrom : rnKok kX2_copyFrom := rnK_mk (rnIn4 (List.mem_of_getElem? (i := 212) rfl)) (by decide +kernel)
theorem vX2_copyFrom : Cond.instanceMethod (kNm kX2_copyFrom) ∈ lw_tbl ∧ Cond.selects (kNm kX2_copyFrom).cls (kNm kX2_copyFrom) (kNm kX2_copyFrom) ∈ lw_tbl := ⟨rnIn4 (List.mem_of_getElem? (i := 210) rfl), rnIn4 (List.mem_of_getElem? (i := 211) rfl)⟩
theorem oX2_plainly : rnKok kX2_plainly := rnK_mk (rnIn3 (List.mem_of_getElem? (i := 119) rfl)) (by decide +kernel)
theorem vX2_plainly : Cond.instanceMethod (kNm kX2_plainly) ∈ lw_tbl ∧ Cond.selects (kNm kX2_plainly).cls (kNm kX2_plainly) (kNm kX2_plainly) ∈ lw_tbl := ⟨rnIn3 (List.mem_of_getElem? (i := 118) rfl), List.mem_append_left _ (List.mem_of_getElem? (i := 4) rfl)⟩
theorem oX2_worked : rnKok kX2_worked := rnK_mk (rnIn3 (List.mem_of_getElem? (i := 123) rfl)) (by decide +kernel)
theorem vX2_worked : Cond.instanceMethod (kNm kX2_worked) ∈ lw_tbl ∧ Cond.selects (kNm kX2_worked).cls (kNm kX2_worked) (kNm kX2_worked) ∈ lw_tbl := ⟨rnIn3 (List.mem_of_getElem? (i := 122) rfl), List.mem_append_left _ (List.mem_of_getElem? (i := 5) rfl)⟩
theorem oX2_joined : rnKok kX2_joined := rnK_mk (rnIn3 (List.mem_of_getElem? (i := 126) rfl)) (by decide +kernel)
theorem vX2_joined : Cond.static (kNm kX2_joined) ∈ lw_tbl := rnIn3 (List.mem_of_getElem? (i := 125) rfl)
theorem oX3_init : rnKok kX3_init := rnK_mk (rnIn2 (List.mem_of_getElem? (i := 175) rfl)) (by decide +kernel)
theorem vX3_init : Cond.instanceMethod (kNm kX3_init) ∈ lw_tbl := rnIn2 (List.mem_of_getElem? (i := 174) rfl)
theorem oX3_firstBlow : rnKok kX3_firstBlow := rnK_mk (rnIn5 (List.mem_of_getElem? (i := 67) rfl)) (by decide +kernel)
theorem vX3_firstBlow : Cond.instanceMethod (kNm kX3_firstBlow) ∈ lw_tbl ∧ Cond.selects (kNm kX3_firstBlow).cls (kNm kX3_firstBlow) (kNm kX3_firstBlow) ∈ lw_tbl := ⟨rnIn5 (List.mem_of_getElem? (i := 65) rfl), rnIn5 (List.mem_of_getElem? (i := 66) rfl)⟩
theorem oX3_healthLeft : rnKok kX3_healthLeft := rnK_mk (rnIn5 (List.mem_of_getElem? (i := 77) rfl)) (by decide +kernel)
theorem vX3_healthLeft : Cond.instanceMethod (kNm kX3_healthLeft) ∈ lw_tbl ∧ Cond.selects (kNm kX3_healthLeft).cls (kNm kX3_healthLeft) (kNm kX3_healthLeft) ∈ lw_tbl := ⟨rnIn5 (List.mem_of_getElem? (i := 75) rfl), rnIn5 (List.mem_of_getElem? (i := 76) rfl)⟩
theorem oX3_leftBehindAll : rnKok kX3_leftBehindAll := rnK_mk (rnIn5 (List.mem_of_getElem? (i := 72) rfl)) (by decide +kernel)
theorem vX3_leftBehindAll : Cond.instanceMethod (kNm kX3_leftBehindAll) ∈ lw_tbl ∧ Cond.selects (kNm kX3_leftBehindAll).cls (kNm kX3_leftBehindAll) (kNm kX3_leftBehindAll) ∈ lw_tbl := ⟨rnIn5 (List.mem_of_getElem? (i := 71) rfl), List.mem_append_left _ (List.mem_of_getElem? (i := 40) rfl)⟩
theorem oX3_fewestPayments : rnKok kX3_fewestPayments := rnK_mk (rnIn5 (List.mem_of_getElem? (i := 106) rfl)) (by decide +kernel)
theorem vX3_fewestPayments : Cond.instanceMethod (kNm kX3_fewestPayments) ∈ lw_tbl ∧ Cond.selects (kNm kX3_fewestPayments).cls (kNm kX3_fewestPayments) (kNm kX3_fewestPayments) ∈ lw_tbl := ⟨rnIn5 (List.mem_of_getElem? (i := 104) rfl), rnIn5 (List.mem_of_getElem? (i := 105) rfl)⟩
theorem oX3_groupUp : rnKok kX3_groupUp := rnK_mk (rnIn5 (List.mem_of_getElem? (i := 110) rfl)) (by decide +kernel)
theorem vX3_groupUp : Cond.instanceMethod (kNm kX3_groupUp) ∈ lw_tbl ∧ Cond.selects (kNm kX3_groupUp).cls (kNm kX3_groupUp) (kNm kX3_groupUp) ∈ lw_tbl := ⟨rnIn5 (List.mem_of_getElem? (i := 109) rfl), List.mem_append_left _ (List.mem_of_getElem? (i := 42) rfl)⟩
theorem oX3_chainHad : rnKok kX3_chainHad := rnK_mk (rnIn5 (List.mem_of_getElem? (i := 119) rfl)) (by decide +kernel)
theorem vX3_chainHad : Cond.instanceMethod (kNm kX3_chainHad) ∈ lw_tbl ∧ Cond.selects (kNm kX3_chainHad).cls (kNm kX3_chainHad) (kNm kX3_chainHad) ∈ lw_tbl := ⟨rnIn5 (List.mem_of_getElem? (i := 117) rfl), rnIn5 (List.mem_of_getElem? (i := 118) rfl)⟩
theorem oX3_chainFull : rnKok kX3_chainFull := rnK_mk (rnIn5 (List.mem_of_getElem? (i := 123) rfl)) (by decide +kernel)
theorem vX3_chainFull : Cond.instanceMethod (kNm kX3_chainFull) ∈ lw_tbl ∧ Cond.selects (kNm kX3_chainFull).cls (kNm kX3_chainFull) (kNm kX3_chainFull) ∈ lw_tbl := ⟨rnIn5 (List.mem_of_getElem? (i := 121) rfl), rnIn5 (List.mem_of_getElem? (i := 122) rfl)⟩
theorem oX3_timesLaid : rnKok kX3_timesLaid := rnK_mk (rnIn5 (List.mem_of_getElem? (i := 144) rfl)) (by decide +kernel)
theorem vX3_timesLaid : Cond.instanceMethod (kNm kX3_timesLaid) ∈ lw_tbl ∧ Cond.selects (kNm kX3_timesLaid).cls (kNm kX3_timesLaid) (kNm kX3_timesLaid) ∈ lw_tbl := ⟨rnIn5 (List.mem_of_getElem? (i := 142) rfl), rnIn5 (List.mem_of_getElem? (i := 143) rfl)⟩
theorem oX3_orders : rnKok kX3_orders := rnK_mk (rnIn5 (List.mem_of_getElem? (i := 148) rfl)) (by decide +kernel)
theorem vX3_orders : Cond.instanceMethod (kNm kX3_orders) ∈ lw_tbl ∧ Cond.selects (kNm kX3_orders).cls (kNm kX3_orders) (kNm kX3_orders) ∈ lw_tbl := ⟨rnIn5 (List.mem_of_getElem? (i := 146) rfl), rnIn5 (List.mem_of_getElem? (i := 147) rfl)⟩
theorem oX3_likelyAnswer : rnKok kX3_likelyAnswer := rnK_mk (rnIn5 (List.mem_of_getElem? (i := 165) rfl)) (by decide +kernel)
theorem vX3_likelyAnswer : Cond.instanceMethod (kNm kX3_likelyAnswer) ∈ lw_tbl ∧ Cond.selects (kNm kX3_likelyAnswer).cls (kNm kX3_likelyAnswer) (kNm kX3_likelyAnswer) ∈ lw_tbl := ⟨rnIn5 (List.mem_of_getElem? (i := 163) rfl), rnIn5 (List.mem_of_getElem? (i := 164) rfl)⟩
theorem oX3_follows : rnKok kX3_follows := rnK_mk (rnIn5 (List.mem_of_getElem? (i := 169) rfl)) (by decide +kernel)
theorem vX3_follows : Cond.instanceMethod (kNm kX3_follows) ∈ lw_tbl ∧ Cond.selects (kNm kX3_follows).cls (kNm kX3_follows) (kNm kX3_follows) ∈ lw_tbl := ⟨rnIn5 (List.mem_of_getElem? (i := 167) rfl), rnIn5 (List.mem_of_getElem? (i := 168) rfl)⟩
theorem oX3_waysOfFaces : rnKok kX3_waysOfFaces := rnK_mk (rnIn5 (List.mem_of_getElem? (i := 195) rfl)) (by decide +kernel)
theorem vX3_waysOfFaces : Cond.instanceMethod (kNm kX3_waysOfFaces) ∈ lw_tbl ∧ Cond.selects (kNm kX3_waysOfFaces).cls (kNm kX3_waysOfFaces) (kNm kX3_waysOfFaces) ∈ lw_tbl := ⟨rnIn5 (List.mem_of_getElem? (i := 193) rfl), rnIn5 (List.mem_of_getElem? (i := 194) rfl)⟩
theorem oX3_waysFrom : rnKok kX3_waysFrom := rnK_mk (rnIn5 (List.mem_of_getElem? (i := 207) rfl)) (by decide +kernel)
theorem vX3_waysFrom : Cond.static (kNm kX3_waysFrom) ∈ lw_tbl := rnIn5 (List.mem_of_getElem? (i := 206) rfl)
theorem oX3_sureLetters : rnKok kX3_sureLetters := rnK_mk (rnIn5 (List.mem_of_getElem? (i := 213) rfl)) (by decide +kernel)
theorem vX3_sureLetters : Cond.instanceMethod (kNm kX3_sureLetters) ∈ lw_tbl ∧ Cond.selects (kNm kX3_sureLetters).cls (kNm kX3_sureLetters) (kNm kX3_sureLetters) ∈ lw_tbl := ⟨rnIn5 (List.mem_of_getElem? (i := 211) rfl), rnIn5 (List.mem_of_getElem? (i := 212) rfl)⟩
theorem oX4_init : rnKok kX4_init := rnK_mk (rnIn1 (List.mem_of_getElem? (i := 178) rfl)) (by decide +kernel)
theorem vX4_init : Cond.instanceMethod (kNm kX4_init) ∈ lw_tbl := rnIn1 (List.mem_of_getElem? (i := 177) rfl)
theorem oX4_keep : rnKok kX4_keep := rnK_mk (rnIn3 (List.mem_of_getElem? (i := 62) rfl)) (by decide +kernel)
theorem vX4_keep : Cond.instanceMethod (kNm kX4_keep) ∈ lw_tbl ∧ Cond.selects (kNm kX4_keep).cls (kNm kX4_keep) (kNm kX4_keep) ∈ lw_tbl := ⟨rnIn3 (List.mem_of_getElem? (i := 60) rfl), rnIn3 (List.mem_of_getElem? (i := 61) rfl)⟩
theorem oX4_goBack : rnKok kX4_goBack := rnK_mk (rnIn5 (List.mem_of_getElem? (i := 238) rfl)) (by decide +kernel)
theorem vX4_goBack : Cond.instanceMethod (kNm kX4_goBack) ∈ lw_tbl ∧ Cond.selects (kNm kX4_goBack).cls (kNm kX4_goBack) (kNm kX4_goBack) ∈ lw_tbl := ⟨rnIn5 (List.mem_of_getElem? (i := 236) rfl), rnIn5 (List.mem_of_getElem? (i := 237) rfl)⟩
theorem oX4_forget : rnKok kX4_forget := rnK_mk (rnIn3 (List.mem_of_getElem? (i := 21) rfl)) (by decide +kernel)
theorem vX4_forget : Cond.instanceMethod (kNm kX4_forget) ∈ lw_tbl ∧ Cond.selects (kNm kX4_forget).cls (kNm kX4_forget) (kNm kX4_forget) ∈ lw_tbl := ⟨rnIn3 (List.mem_of_getElem? (i := 19) rfl), rnIn3 (List.mem_of_getElem? (i := 20) rfl)⟩
theorem oX5_init : rnKok kX5_init := rnK_mk (rnIn2 (List.mem_of_getElem? (i := 110) rfl)) (by decide +kernel)
theorem vX5_init : Cond.instanceMethod (kNm kX5_init) ∈ lw_tbl := rnIn2 (List.mem_of_getElem? (i := 109) rfl)
theorem oX5_forgive : rnKok kX5_forgive := rnK_mk (rnIn3 (List.mem_of_getElem? (i := 209) rfl)) (by decide +kernel)
theorem vX5_forgive : Cond.instanceMethod (kNm kX5_forgive) ∈ lw_tbl ∧ Cond.selects (kNm kX5_forgive).cls (kNm kX5_forgive) (kNm kX5_forgive) ∈ lw_tbl := ⟨rnIn3 (List.mem_of_getElem? (i := 207) rfl), rnIn3 (List.mem_of_getElem? (i := 208) rfl)⟩
theorem oX5_read : rnKok kX5_read := rnK_mk (rnIn3 (List.mem_of_getElem? (i := 213) rfl)) (by decide +kernel)
theorem vX5_read : Cond.instanceMethod (kNm kX5_read) ∈ lw_tbl ∧ Cond.selects (kNm kX5_read).cls (kNm kX5_read) (kNm kX5_read) ∈ lw_tbl := ⟨rnIn3 (List.mem_of_getElem? (i := 211) rfl), rnIn3 (List.mem_of_getElem? (i := 212) rfl)⟩
theorem oX5_begins : rnKok kX5_begins := rnK_mk (rnIn4 (List.mem_of_getElem? (i := 119) rfl)) (by decide +kernel)
theorem vX5_begins : Cond.instanceMethod (kNm kX5_begins) ∈ lw_tbl ∧ Cond.selects (kNm kX5_begins).cls (kNm kX5_begins) (kNm kX5_begins) ∈ lw_tbl := ⟨rnIn4 (List.mem_of_getElem? (i := 118) rfl), List.mem_append_left _ (List.mem_of_getElem? (i := 16) rfl)⟩
theorem oX5_isFirstWord : rnKok kX5_isFirstWord := rnK_mk (rnIn4 (List.mem_of_getElem? (i := 122) rfl)) (by decide +kernel)
theorem vX5_isFirstWord : Cond.static (kNm kX5_isFirstWord) ∈ lw_tbl := rnIn4 (List.mem_of_getElem? (i := 121) rfl)
theorem oX5_lawLine : rnKok kX5_lawLine := rnK_mk (rnIn4 (List.mem_of_getElem? (i := 131) rfl)) (by decide +kernel)
theorem vX5_lawLine : Cond.instanceMethod (kNm kX5_lawLine) ∈ lw_tbl ∧ Cond.selects (kNm kX5_lawLine).cls (kNm kX5_lawLine) (kNm kX5_lawLine) ∈ lw_tbl := ⟨rnIn4 (List.mem_of_getElem? (i := 130) rfl), List.mem_append_left _ (List.mem_of_getElem? (i := 18) rfl)⟩
theorem oX5_postLine : rnKok kX5_postLine := rnK_mk (rnIn4 (List.mem_of_getElem? (i := 187) rfl)) (by decide +kernel)
theorem vX5_postLine : Cond.instanceMethod (kNm kX5_postLine) ∈ lw_tbl ∧ Cond.selects (kNm kX5_postLine).cls (kNm kX5_postLine) (kNm kX5_postLine) ∈ lw_tbl := ⟨rnIn4 (List.mem_of_getElem? (i := 186) rfl), List.mem_append_left _ (List.mem_of_getElem? (i := 31) rfl)⟩
theorem oX5_walkLine : rnKok kX5_walkLine := rnK_mk (rnIn4 (List.mem_of_getElem? (i := 196) rfl)) (by decide +kernel)
theorem vX5_walkLine : Cond.instanceMethod (kNm kX5_walkLine) ∈ lw_tbl ∧ Cond.selects (kNm kX5_walkLine).cls (kNm kX5_walkLine) (kNm kX5_walkLine) ∈ lw_tbl := ⟨rnIn4 (List.mem_of_getElem? (i := 195) rfl), List.mem_append_left _ (List.mem_of_getElem? (i := 33) rfl)⟩
theorem oX5_streetLine : rnKok kX5_streetLine := rnK_mk (rnIn4 (List.mem_of_getElem? (i := 200) rfl)) (by decide +kernel)
theorem vX5_streetLine : Cond.instanceMethod (kNm kX5_streetLine) ∈ lw_tbl ∧ Cond.selects (kNm kX5_streetLine).cls (kNm kX5_streetLine) (kNm kX5_streetLine) ∈ lw_tbl := ⟨rnIn4 (List.mem_of_getElem? (i := 199) rfl), List.mem_append_left _ (List.mem_of_getElem? (i := 34) rfl)⟩
theorem oX5_condition : rnKok kX5_condition := rnK_mk (rnIn4 (List.mem_of_getElem? (i := 155) rfl)) (by decide +kernel)
theorem vX5_condition : Cond.instanceMethod (kNm kX5_condition) ∈ lw_tbl ∧ Cond.selects (kNm kX5_condition).cls (kNm kX5_condition) (kNm kX5_condition) ∈ lw_tbl := ⟨rnIn4 (List.mem_of_getElem? (i := 154) rfl), List.mem_append_left _ (List.mem_of_getElem? (i := 23) rfl)⟩
theorem oX5_openOne : rnKok kX5_openOne := rnK_mk (rnIn4 (List.mem_of_getElem? (i := 159) rfl)) (by decide +kernel)
theorem vX5_openOne : Cond.instanceMethod (kNm kX5_openOne) ∈ lw_tbl ∧ Cond.selects (kNm kX5_openOne).cls (kNm kX5_openOne) (kNm kX5_openOne) ∈ lw_tbl := ⟨rnIn4 (List.mem_of_getElem? (i := 158) rfl), List.mem_append_left _ (List.mem_of_getElem? (i := 24) rfl)⟩
theorem oX5_relation : rnKok kX5_relation := rnK_mk (rnIn4 (List.mem_of_getElem? (i := 167) rfl)) (by decide +kernel)
theorem vX5_relation : Cond.instanceMethod (kNm kX5_relation) ∈ lw_tbl ∧ Cond.selects (kNm kX5_relation).cls (kNm kX5_relation) (kNm kX5_relation) ∈ lw_tbl := ⟨rnIn4 (List.mem_of_getElem? (i := 166) rfl), List.mem_append_left _ (List.mem_of_getElem? (i := 26) rfl)⟩
theorem oX5_closeAll : rnKok kX5_closeAll := rnK_mk (rnIn4 (List.mem_of_getElem? (i := 171) rfl)) (by decide +kernel)
theorem vX5_closeAll : Cond.instanceMethod (kNm kX5_closeAll) ∈ lw_tbl ∧ Cond.selects (kNm kX5_closeAll).cls (kNm kX5_closeAll) (kNm kX5_closeAll) ∈ lw_tbl := ⟨rnIn4 (List.mem_of_getElem? (i := 170) rfl), List.mem_append_left _ (List.mem_of_getElem? (i := 27) rfl)⟩
theorem oX5_goesOn : rnKok kX5_goesOn := rnK_mk (rnIn4 (List.mem_of_getElem? (i := 179) rfl)) (by decide +kernel)
theorem vX5_goesOn : Cond.instanceMethod (kNm kX5_goesOn) ∈ lw_tbl ∧ Cond.selects (kNm kX5_goesOn).cls (kNm kX5_goesOn) (kNm kX5_goesOn) ∈ lw_tbl := ⟨rnIn4 (List.mem_of_getElem? (i := 178) rfl), List.mem_append_left _ (List.mem_of_getElem? (i := 29) rfl)⟩
theorem oX5_putOff : rnKok kX5_putOff := rnK_mk (rnIn4 (List.mem_of_getElem? (i := 163) rfl)) (by decide +kernel)
theorem vX5_putOff : Cond.instanceMethod (kNm kX5_putOff) ∈ lw_tbl ∧ Cond.selects (kNm kX5_putOff).cls (kNm kX5_putOff) (kNm kX5_putOff) ∈ lw_tbl := ⟨rnIn4 (List.mem_of_getElem? (i := 162) rfl), List.mem_append_left _ (List.mem_of_getElem? (i := 25) rfl)⟩
theorem oX5_settle : rnKok kX5_settle := rnK_mk (rnIn4 (List.mem_of_getElem? (i := 175) rfl)) (by decide +kernel)
theorem vX5_settle : Cond.instanceMethod (kNm kX5_settle) ∈ lw_tbl ∧ Cond.selects (kNm kX5_settle).cls (kNm kX5_settle) (kNm kX5_settle) ∈ lw_tbl := ⟨rnIn4 (List.mem_of_getElem? (i := 174) rfl), List.mem_append_left _ (List.mem_of_getElem? (i := 28) rfl)⟩
theorem oX5_sum : rnKok kX5_sum := rnK_mk (rnIn4 (List.mem_of_getElem? (i := 135) rfl)) (by decide +kernel)
theorem vX5_sum : Cond.instanceMethod (kNm kX5_sum) ∈ lw_tbl ∧ Cond.selects (kNm kX5_sum).cls (kNm kX5_sum) (kNm kX5_sum) ∈ lw_tbl := ⟨rnIn4 (List.mem_of_getElem? (i := 134) rfl), List.mem_append_left _ (List.mem_of_getElem? (i := 19) rfl)⟩
theorem oX5_product : rnKok kX5_product := rnK_mk (rnIn4 (List.mem_of_getElem? (i := 139) rfl)) (by decide +kernel)
theorem vX5_product : Cond.instanceMethod (kNm kX5_product) ∈ lw_tbl ∧ Cond.selects (kNm kX5_product).cls (kNm kX5_product) (kNm kX5_product) ∈ lw_tbl := ⟨rnIn4 (List.mem_of_getElem? (i := 138) rfl), List.mem_append_left _ (List.mem_of_getElem? (i := 20) rfl)⟩
theorem oX5_operand : rnKok kX5_operand := rnK_mk (rnIn4 (List.mem_of_getElem? (i := 143) rfl)) (by decide +kernel)
theorem vX5_operand : Cond.instanceMethod (kNm kX5_operand) ∈ lw_tbl ∧ Cond.selects (kNm kX5_operand).cls (kNm kX5_operand) (kNm kX5_operand) ∈ lw_tbl := ⟨rnIn4 (List.mem_of_getElem? (i := 142) rfl), List.mem_append_left _ (List.mem_of_getElem? (i := 21) rfl)⟩
theorem oX5_kindWord : rnKok kX5_kindWord := rnK_mk (rnIn4 (List.mem_of_getElem? (i := 191) rfl)) (by decide +kernel)
theorem vX5_kindWord : Cond.instanceMethod (kNm kX5_kindWord) ∈ lw_tbl ∧ Cond.selects (kNm kX5_kindWord).cls (kNm kX5_kindWord) (kNm kX5_kindWord) ∈ lw_tbl := ⟨rnIn4 (List.mem_of_getElem? (i := 190) rfl), List.mem_append_left _ (List.mem_of_getElem? (i := 32) rfl)⟩
theorem oX5_number : rnKok kX5_number := rnK_mk (rnIn4 (List.mem_of_getElem? (i := 151) rfl)) (by decide +kernel)
theorem vX5_number : Cond.instanceMethod (kNm kX5_number) ∈ lw_tbl ∧ Cond.selects (kNm kX5_number).cls (kNm kX5_number) (kNm kX5_number) ∈ lw_tbl := ⟨rnIn4 (List.mem_of_getElem? (i := 150) rfl), List.mem_append_left _ (List.mem_of_getElem? (i := 22) rfl)⟩
theorem oX5_need : rnKok kX5_need := rnK_mk (rnIn4 (List.mem_of_getElem? (i := 183) rfl)) (by decide +kernel)
theorem vX5_need : Cond.instanceMethod (kNm kX5_need) ∈ lw_tbl ∧ Cond.selects (kNm kX5_need).cls (kNm kX5_need) (kNm kX5_need) ∈ lw_tbl := ⟨rnIn4 (List.mem_of_getElem? (i := 182) rfl), List.mem_append_left _ (List.mem_of_getElem? (i := 30) rfl)⟩
theorem oX5_sort : rnKok kX5_sort := rnK_mk (rnIn4 (List.mem_of_getElem? (i := 115) rfl)) (by decide +kernel)
theorem vX5_sort : Cond.instanceMethod (kNm kX5_sort) ∈ lw_tbl ∧ Cond.selects (kNm kX5_sort).cls (kNm kX5_sort) (kNm kX5_sort) ∈ lw_tbl := ⟨rnIn4 (List.mem_of_getElem? (i := 114) rfl), List.mem_append_left _ (List.mem_of_getElem? (i := 15) rfl)⟩
theorem oX5_blame : rnKok kX5_blame := rnK_mk (rnIn4 (List.mem_of_getElem? (i := 127) rfl)) (by decide +kernel)
theorem vX5_blame : Cond.instanceMethod (kNm kX5_blame) ∈ lw_tbl ∧ Cond.selects (kNm kX5_blame).cls (kNm kX5_blame) (kNm kX5_blame) ∈ lw_tbl := ⟨rnIn4 (List.mem_of_getElem? (i := 126) rfl), List.mem_append_left _ (List.mem_of_getElem? (i := 17) rfl)⟩
theorem oX6_init : rnKok kX6_init := rnK_mk (rnIn1 (List.mem_of_getElem? (i := 198) rfl)) (by decide +kernel)
theorem vX6_init : Cond.instanceMethod (kNm kX6_init) ∈ lw_tbl := rnIn1 (List.mem_of_getElem? (i := 197) rfl)
theorem oX6_linesOf : rnKok kX6_linesOf := rnK_mk (rnIn4 (List.mem_of_getElem? (i := 218) rfl)) (by decide +kernel)
theorem vX6_linesOf : Cond.instanceMethod (kNm kX6_linesOf) ∈ lw_tbl ∧ Cond.selects (kNm kX6_linesOf).cls (kNm kX6_linesOf) (kNm kX6_linesOf) ∈ lw_tbl := ⟨rnIn4 (List.mem_of_getElem? (i := 216) rfl), rnIn4 (List.mem_of_getElem? (i := 217) rfl)⟩
theorem oX6_streetBetween : rnKok kX6_streetBetween := rnK_mk (rnIn4 (List.mem_of_getElem? (i := 234) rfl)) (by decide +kernel)
theorem vX6_streetBetween : Cond.instanceMethod (kNm kX6_streetBetween) ∈ lw_tbl ∧ Cond.selects (kNm kX6_streetBetween).cls (kNm kX6_streetBetween) (kNm kX6_streetBetween) ∈ lw_tbl := ⟨rnIn4 (List.mem_of_getElem? (i := 232) rfl), rnIn4 (List.mem_of_getElem? (i := 233) rfl)⟩
theorem oX6_addStreet : rnKok kX6_addStreet := rnK_mk (rnIn4 (List.mem_of_getElem? (i := 204) rfl)) (by decide +kernel)
theorem vX6_addStreet : Cond.instanceMethod (kNm kX6_addStreet) ∈ lw_tbl ∧ Cond.selects (kNm kX6_addStreet).cls (kNm kX6_addStreet) (kNm kX6_addStreet) ∈ lw_tbl := ⟨rnIn4 (List.mem_of_getElem? (i := 202) rfl), rnIn4 (List.mem_of_getElem? (i := 203) rfl)⟩
theorem oX6_clearOne : rnKok kX6_clearOne := rnK_mk (rnIn4 (List.mem_of_getElem? (i := 104) rfl)) (by decide +kernel)
theorem vX6_clearOne : Cond.instanceMethod (kNm kX6_clearOne) ∈ lw_tbl ∧ Cond.selects (kNm kX6_clearOne).cls (kNm kX6_clearOne) (kNm kX6_clearOne) ∈ lw_tbl := ⟨rnIn4 (List.mem_of_getElem? (i := 102) rfl), rnIn4 (List.mem_of_getElem? (i := 103) rfl)⟩
theorem oX6_copyFrom : rnKok kX6_copyFrom := rnK_mk (rnIn6 (List.mem_of_getElem? (i := 6) rfl)) (by decide +kernel)
theorem vX6_copyFrom : Cond.instanceMethod (kNm kX6_copyFrom) ∈ lw_tbl ∧ Cond.selects (kNm kX6_copyFrom).cls (kNm kX6_copyFrom) (kNm kX6_copyFrom) ∈ lw_tbl := ⟨rnIn6 (List.mem_of_getElem? (i := 4) rfl), rnIn6 (List.mem_of_getElem? (i := 5) rfl)⟩
theorem oX6_copyOne : rnKok kX6_copyOne := rnK_mk (rnIn4 (List.mem_of_getElem? (i := 208) rfl)) (by decide +kernel)
theorem vX6_copyOne : Cond.instanceMethod (kNm kX6_copyOne) ∈ lw_tbl ∧ Cond.selects (kNm kX6_copyOne).cls (kNm kX6_copyOne) (kNm kX6_copyOne) ∈ lw_tbl := ⟨rnIn4 (List.mem_of_getElem? (i := 206) rfl), rnIn4 (List.mem_of_getElem? (i := 207) rfl)⟩
theorem oX7_init : rnKok kX7_init := rnK_mk (rnIn2 (List.mem_of_getElem? (i := 118) rfl)) (by decide +kernel)
theorem vX7_init : Cond.instanceMethod (kNm kX7_init) ∈ lw_tbl := rnIn2 (List.mem_of_getElem? (i := 117) rfl)
theorem oX7_scan : rnKok kX7_scan := rnK_mk (rnIn3 (List.mem_of_getElem? (i := 217) rfl)) (by decide +kernel)
theorem vX7_scan : Cond.instanceMethod (kNm kX7_scan) ∈ lw_tbl ∧ Cond.selects (kNm kX7_scan).cls (kNm kX7_scan) (kNm kX7_scan) ∈ lw_tbl := ⟨rnIn3 (List.mem_of_getElem? (i := 215) rfl), rnIn3 (List.mem_of_getElem? (i := 216) rfl)⟩
theorem oX7_add : rnKok kX7_add := rnK_mk (rnIn4 (List.mem_of_getElem? (i := 68) rfl)) (by decide +kernel)
theorem vX7_add : Cond.instanceMethod (kNm kX7_add) ∈ lw_tbl ∧ Cond.selects (kNm kX7_add).cls (kNm kX7_add) (kNm kX7_add) ∈ lw_tbl := ⟨rnIn4 (List.mem_of_getElem? (i := 67) rfl), List.mem_append_left _ (List.mem_of_getElem? (i := 13) rfl)⟩
theorem oX7_sortOf : rnKok kX7_sortOf := rnK_mk (rnIn3 (List.mem_of_getElem? (i := 220) rfl)) (by decide +kernel)
theorem vX7_sortOf : Cond.static (kNm kX7_sortOf) ∈ lw_tbl := rnIn3 (List.mem_of_getElem? (i := 219) rfl)
theorem oX7_weigh : rnKok kX7_weigh := rnK_mk (rnIn4 (List.mem_of_getElem? (i := 72) rfl)) (by decide +kernel)
theorem vX7_weigh : Cond.instanceMethod (kNm kX7_weigh) ∈ lw_tbl ∧ Cond.selects (kNm kX7_weigh).cls (kNm kX7_weigh) (kNm kX7_weigh) ∈ lw_tbl := ⟨rnIn4 (List.mem_of_getElem? (i := 71) rfl), List.mem_append_left _ (List.mem_of_getElem? (i := 14) rfl)⟩
theorem oX7_wordOf : rnKok kX7_wordOf := rnK_mk (rnIn4 (List.mem_of_getElem? (i := 75) rfl)) (by decide +kernel)
theorem vX7_wordOf : Cond.static (kNm kX7_wordOf) ∈ lw_tbl := rnIn4 (List.mem_of_getElem? (i := 74) rfl)
theorem oX7_isWordAt : rnKok kX7_isWordAt := rnK_mk (rnIn4 (List.mem_of_getElem? (i := 100) rfl)) (by decide +kernel)
theorem vX7_isWordAt : Cond.static (kNm kX7_isWordAt) ∈ lw_tbl := rnIn4 (List.mem_of_getElem? (i := 99) rfl)
theorem oX8_init : rnKok kX8_init := rnK_mk (rnIn2 (List.mem_of_getElem? (i := 55) rfl)) (by decide +kernel)
theorem vX8_init : Cond.instanceMethod (kNm kX8_init) ∈ lw_tbl := rnIn2 (List.mem_of_getElem? (i := 54) rfl)
theorem oX8_addBlow : rnKok kX8_addBlow := rnK_mk (rnIn5 (List.mem_of_getElem? (i := 58) rfl)) (by decide +kernel)
theorem vX8_addBlow : Cond.instanceMethod (kNm kX8_addBlow) ∈ lw_tbl ∧ Cond.selects (kNm kX8_addBlow).cls (kNm kX8_addBlow) (kNm kX8_addBlow) ∈ lw_tbl := ⟨rnIn5 (List.mem_of_getElem? (i := 56) rfl), rnIn5 (List.mem_of_getElem? (i := 57) rfl)⟩
theorem oX8_addDebt : rnKok kX8_addDebt := rnK_mk (rnIn5 (List.mem_of_getElem? (i := 97) rfl)) (by decide +kernel)
theorem vX8_addDebt : Cond.instanceMethod (kNm kX8_addDebt) ∈ lw_tbl ∧ Cond.selects (kNm kX8_addDebt).cls (kNm kX8_addDebt) (kNm kX8_addDebt) ∈ lw_tbl := ⟨rnIn5 (List.mem_of_getElem? (i := 95) rfl), rnIn5 (List.mem_of_getElem? (i := 96) rfl)⟩
theorem oX8_addSpelled : rnKok kX8_addSpelled := rnK_mk (rnIn5 (List.mem_of_getElem? (i := 136) rfl)) (by decide +kernel)
theorem vX8_addSpelled : Cond.instanceMethod (kNm kX8_addSpelled) ∈ lw_tbl ∧ Cond.selects (kNm kX8_addSpelled).cls (kNm kX8_addSpelled) (kNm kX8_addSpelled) ∈ lw_tbl := ⟨rnIn5 (List.mem_of_getElem? (i := 134) rfl), rnIn5 (List.mem_of_getElem? (i := 135) rfl)⟩
theorem oX8_addAnswer : rnKok kX8_addAnswer := rnK_mk (rnIn5 (List.mem_of_getElem? (i := 156) rfl)) (by decide +kernel)
theorem vX8_addAnswer : Cond.instanceMethod (kNm kX8_addAnswer) ∈ lw_tbl ∧ Cond.selects (kNm kX8_addAnswer).cls (kNm kX8_addAnswer) (kNm kX8_addAnswer) ∈ lw_tbl := ⟨rnIn5 (List.mem_of_getElem? (i := 154) rfl), rnIn5 (List.mem_of_getElem? (i := 155) rfl)⟩
theorem oX8_addChange : rnKok kX8_addChange := rnK_mk (rnIn5 (List.mem_of_getElem? (i := 187) rfl)) (by decide +kernel)
theorem vX8_addChange : Cond.instanceMethod (kNm kX8_addChange) ∈ lw_tbl ∧ Cond.selects (kNm kX8_addChange).cls (kNm kX8_addChange) (kNm kX8_addChange) ∈ lw_tbl := ⟨rnIn5 (List.mem_of_getElem? (i := 185) rfl), rnIn5 (List.mem_of_getElem? (i := 186) rfl)⟩
theorem oX8_copyFrom : rnKok kX8_copyFrom := rnK_mk (rnIn6 (List.mem_of_getElem? (i := 11) rfl)) (by decide +kernel)
theorem vX8_copyFrom : Cond.instanceMethod (kNm kX8_copyFrom) ∈ lw_tbl ∧ Cond.selects (kNm kX8_copyFrom).cls (kNm kX8_copyFrom) (kNm kX8_copyFrom) ∈ lw_tbl := ⟨rnIn6 (List.mem_of_getElem? (i := 9) rfl), rnIn6 (List.mem_of_getElem? (i := 10) rfl)⟩
theorem oX9_init : rnKok kX9_init := rnK_mk (rnIn2 (List.mem_of_getElem? (i := 195) rfl)) (by decide +kernel)
theorem vX9_init : Cond.instanceMethod (kNm kX9_init) ∈ lw_tbl := rnIn2 (List.mem_of_getElem? (i := 194) rfl)
theorem oX9_walkAll : rnKok kX9_walkAll := rnK_mk (rnIn5 (List.mem_of_getElem? (i := 24) rfl)) (by decide +kernel)
theorem vX9_walkAll : Cond.instanceMethod (kNm kX9_walkAll) ∈ lw_tbl ∧ Cond.selects (kNm kX9_walkAll).cls (kNm kX9_walkAll) (kNm kX9_walkAll) ∈ lw_tbl := ⟨rnIn5 (List.mem_of_getElem? (i := 22) rfl), rnIn5 (List.mem_of_getElem? (i := 23) rfl)⟩
theorem oX9_walkSets : rnKok kX9_walkSets := rnK_mk (rnIn5 (List.mem_of_getElem? (i := 36) rfl)) (by decide +kernel)
theorem vX9_walkSets : Cond.instanceMethod (kNm kX9_walkSets) ∈ lw_tbl ∧ Cond.selects (kNm kX9_walkSets).cls (kNm kX9_walkSets) (kNm kX9_walkSets) ∈ lw_tbl := ⟨rnIn5 (List.mem_of_getElem? (i := 35) rfl), List.mem_append_left _ (List.mem_of_getElem? (i := 37) rfl)⟩
theorem oX9_walkOn : rnKok kX9_walkOn := rnK_mk (rnIn5 (List.mem_of_getElem? (i := 46) rfl)) (by decide +kernel)
theorem vX9_walkOn : Cond.instanceMethod (kNm kX9_walkOn) ∈ lw_tbl ∧ Cond.selects (kNm kX9_walkOn).cls (kNm kX9_walkOn) (kNm kX9_walkOn) ∈ lw_tbl := ⟨rnIn5 (List.mem_of_getElem? (i := 45) rfl), List.mem_append_left _ (List.mem_of_getElem? (i := 38) rfl)⟩
theorem oX9_shortestEnd : rnKok kX9_shortestEnd := rnK_mk (rnIn5 (List.mem_of_getElem? (i := 50) rfl)) (by decide +kernel)
theorem vX9_shortestEnd : Cond.instanceMethod (kNm kX9_shortestEnd) ∈ lw_tbl ∧ Cond.selects (kNm kX9_shortestEnd).cls (kNm kX9_shortestEnd) (kNm kX9_shortestEnd) ∈ lw_tbl := ⟨rnIn5 (List.mem_of_getElem? (i := 49) rfl), List.mem_append_left _ (List.mem_of_getElem? (i := 39) rfl)⟩
theorem oX9_measure : rnKok kX9_measure := rnK_mk (rnIn5 (List.mem_of_getElem? (i := 29) rfl)) (by decide +kernel)
theorem vX9_measure : Cond.instanceMethod (kNm kX9_measure) ∈ lw_tbl ∧ Cond.selects (kNm kX9_measure).cls (kNm kX9_measure) (kNm kX9_measure) ∈ lw_tbl := ⟨rnIn5 (List.mem_of_getElem? (i := 28) rfl), List.mem_append_left _ (List.mem_of_getElem? (i := 36) rfl)⟩
theorem oX9_newBox : rnKok kX9_newBox := rnK_mk (rnIn5 (List.mem_of_getElem? (i := 178) rfl)) (by decide +kernel)
theorem vX9_newBox : Cond.instanceMethod (kNm kX9_newBox) ∈ lw_tbl ∧ Cond.selects (kNm kX9_newBox).cls (kNm kX9_newBox) (kNm kX9_newBox) ∈ lw_tbl := ⟨rnIn5 (List.mem_of_getElem? (i := 176) rfl), rnIn5 (List.mem_of_getElem? (i := 177) rfl)⟩
theorem oX9_loads : rnKok kX9_loads := rnK_mk (rnIn5 (List.mem_of_getElem? (i := 85) rfl)) (by decide +kernel)
theorem vX9_loads : Cond.instanceMethod (kNm kX9_loads) ∈ lw_tbl ∧ Cond.selects (kNm kX9_loads).cls (kNm kX9_loads) (kNm kX9_loads) ∈ lw_tbl := ⟨rnIn5 (List.mem_of_getElem? (i := 83) rfl), rnIn5 (List.mem_of_getElem? (i := 84) rfl)⟩
theorem oX9_addLoad : rnKok kX9_addLoad := rnK_mk (rnIn5 (List.mem_of_getElem? (i := 89) rfl)) (by decide +kernel)
theorem vX9_addLoad : Cond.instanceMethod (kNm kX9_addLoad) ∈ lw_tbl ∧ Cond.selects (kNm kX9_addLoad).cls (kNm kX9_addLoad) (kNm kX9_addLoad) ∈ lw_tbl := ⟨rnIn5 (List.mem_of_getElem? (i := 88) rfl), List.mem_append_left _ (List.mem_of_getElem? (i := 41) rfl)⟩
theorem oX9_joyOfRow : rnKok kX9_joyOfRow := rnK_mk (rnIn5 (List.mem_of_getElem? (i := 222) rfl)) (by decide +kernel)
theorem vX9_joyOfRow : Cond.instanceMethod (kNm kX9_joyOfRow) ∈ lw_tbl ∧ Cond.selects (kNm kX9_joyOfRow).cls (kNm kX9_joyOfRow) (kNm kX9_joyOfRow) ∈ lw_tbl := ⟨rnIn5 (List.mem_of_getElem? (i := 220) rfl), rnIn5 (List.mem_of_getElem? (i := 221) rfl)⟩
theorem oX9_goodMove : rnKok kX9_goodMove := rnK_mk (rnIn5 (List.mem_of_getElem? (i := 230) rfl)) (by decide +kernel)
theorem vX9_goodMove : Cond.instanceMethod (kNm kX9_goodMove) ∈ lw_tbl ∧ Cond.selects (kNm kX9_goodMove).cls (kNm kX9_goodMove) (kNm kX9_goodMove) ∈ lw_tbl := ⟨rnIn5 (List.mem_of_getElem? (i := 228) rfl), rnIn5 (List.mem_of_getElem? (i := 229) rfl)⟩
theorem oX10_init : rnKok kX10_init := rnK_mk (rnIn1 (List.mem_of_getElem? (i := 35) rfl)) (by decide +kernel)
theorem vX10_init : Cond.instanceMethod (kNm kX10_init) ∈ lw_tbl := rnIn1 (List.mem_of_getElem? (i := 34) rfl)
theorem oX10_arrive : rnKok kX10_arrive := rnK_mk (rnIn3 (List.mem_of_getElem? (i := 87) rfl)) (by decide +kernel)
theorem vX10_arrive : Cond.instanceMethod (kNm kX10_arrive) ∈ lw_tbl ∧ Cond.selects (kNm kX10_arrive).cls (kNm kX10_arrive) (kNm kX10_arrive) ∈ lw_tbl := ⟨rnIn3 (List.mem_of_getElem? (i := 85) rfl), rnIn3 (List.mem_of_getElem? (i := 86) rfl)⟩
theorem oX10_bringAt : rnKok kX10_bringAt := rnK_mk (rnIn3 (List.mem_of_getElem? (i := 107) rfl)) (by decide +kernel)
theorem vX10_bringAt : Cond.instanceMethod (kNm kX10_bringAt) ∈ lw_tbl ∧ Cond.selects (kNm kX10_bringAt).cls (kNm kX10_bringAt) (kNm kX10_bringAt) ∈ lw_tbl := ⟨rnIn3 (List.mem_of_getElem? (i := 105) rfl), rnIn3 (List.mem_of_getElem? (i := 106) rfl)⟩
theorem oX10_ask : rnKok kX10_ask := rnK_mk (rnIn3 (List.mem_of_getElem? (i := 111) rfl)) (by decide +kernel)
theorem vX10_ask : Cond.instanceMethod (kNm kX10_ask) ∈ lw_tbl ∧ Cond.selects (kNm kX10_ask).cls (kNm kX10_ask) (kNm kX10_ask) ∈ lw_tbl := ⟨rnIn3 (List.mem_of_getElem? (i := 109) rfl), rnIn3 (List.mem_of_getElem? (i := 110) rfl)⟩
theorem oX10_passDay : rnKok kX10_passDay := rnK_mk (rnIn3 (List.mem_of_getElem? (i := 167) rfl)) (by decide +kernel)
theorem vX10_passDay : Cond.instanceMethod (kNm kX10_passDay) ∈ lw_tbl ∧ Cond.selects (kNm kX10_passDay).cls (kNm kX10_passDay) (kNm kX10_passDay) ∈ lw_tbl := ⟨rnIn3 (List.mem_of_getElem? (i := 165) rfl), rnIn3 (List.mem_of_getElem? (i := 166) rfl)⟩
theorem oX10_copyFrom : rnKok kX10_copyFrom := rnK_mk (rnIn3 (List.mem_of_getElem? (i := 66) rfl)) (by decide +kernel)
theorem vX10_copyFrom : Cond.instanceMethod (kNm kX10_copyFrom) ∈ lw_tbl ∧ Cond.selects (kNm kX10_copyFrom).cls (kNm kX10_copyFrom) (kNm kX10_copyFrom) ∈ lw_tbl := ⟨rnIn3 (List.mem_of_getElem? (i := 64) rfl), rnIn3 (List.mem_of_getElem? (i := 65) rfl)⟩
theorem oX10_takePost : rnKok kX10_takePost := rnK_mk (rnIn3 (List.mem_of_getElem? (i := 171) rfl)) (by decide +kernel)
theorem vX10_takePost : Cond.instanceMethod (kNm kX10_takePost) ∈ lw_tbl ∧ Cond.selects (kNm kX10_takePost).cls (kNm kX10_takePost) (kNm kX10_takePost) ∈ lw_tbl := ⟨rnIn3 (List.mem_of_getElem? (i := 170) rfl), List.mem_append_left _ (List.mem_of_getElem? (i := 9) rfl)⟩
theorem oX10_visit : rnKok kX10_visit := rnK_mk (rnIn3 (List.mem_of_getElem? (i := 180) rfl)) (by decide +kernel)
theorem vX10_visit : Cond.instanceMethod (kNm kX10_visit) ∈ lw_tbl ∧ Cond.selects (kNm kX10_visit).cls (kNm kX10_visit) (kNm kX10_visit) ∈ lw_tbl := ⟨rnIn3 (List.mem_of_getElem? (i := 179) rfl), List.mem_append_left _ (List.mem_of_getElem? (i := 10) rfl)⟩
theorem oX10_isOpened : rnKok kX10_isOpened := rnK_mk (rnIn3 (List.mem_of_getElem? (i := 137) rfl)) (by decide +kernel)
theorem vX10_isOpened : Cond.instanceMethod (kNm kX10_isOpened) ∈ lw_tbl ∧ Cond.selects (kNm kX10_isOpened).cls (kNm kX10_isOpened) (kNm kX10_isOpened) ∈ lw_tbl := ⟨rnIn3 (List.mem_of_getElem? (i := 136) rfl), List.mem_append_left _ (List.mem_of_getElem? (i := 6) rfl)⟩
theorem oX10_take : rnKok kX10_take := rnK_mk (rnIn3 (List.mem_of_getElem? (i := 143) rfl)) (by decide +kernel)
theorem vX10_take : Cond.instanceMethod (kNm kX10_take) ∈ lw_tbl ∧ Cond.selects (kNm kX10_take).cls (kNm kX10_take) (kNm kX10_take) ∈ lw_tbl := ⟨rnIn3 (List.mem_of_getElem? (i := 142) rfl), List.mem_append_left _ (List.mem_of_getElem? (i := 7) rfl)⟩
theorem oX10_feel : rnKok kX10_feel := rnK_mk (rnIn3 (List.mem_of_getElem? (i := 147) rfl)) (by decide +kernel)
theorem vX10_feel : Cond.instanceMethod (kNm kX10_feel) ∈ lw_tbl ∧ Cond.selects (kNm kX10_feel).cls (kNm kX10_feel) (kNm kX10_feel) ∈ lw_tbl := ⟨rnIn3 (List.mem_of_getElem? (i := 146) rfl), List.mem_append_left _ (List.mem_of_getElem? (i := 8) rfl)⟩
theorem oX10_ageLetters : rnKok kX10_ageLetters := rnK_mk (rnIn3 (List.mem_of_getElem? (i := 185) rfl)) (by decide +kernel)
theorem vX10_ageLetters : Cond.instanceMethod (kNm kX10_ageLetters) ∈ lw_tbl ∧ Cond.selects (kNm kX10_ageLetters).cls (kNm kX10_ageLetters) (kNm kX10_ageLetters) ∈ lw_tbl := ⟨rnIn3 (List.mem_of_getElem? (i := 184) rfl), List.mem_append_left _ (List.mem_of_getElem? (i := 11) rfl)⟩
theorem oX10_write : rnKok kX10_write := rnK_mk (rnIn3 (List.mem_of_getElem? (i := 95) rfl)) (by decide +kernel)
theorem vX10_write : Cond.instanceMethod (kNm kX10_write) ∈ lw_tbl ∧ Cond.selects (kNm kX10_write).cls (kNm kX10_write) (kNm kX10_write) ∈ lw_tbl := ⟨rnIn3 (List.mem_of_getElem? (i := 94) rfl), List.mem_append_left _ (List.mem_of_getElem? (i := 3) rfl)⟩
theorem oX11_init : rnKok kX11_init := rnK_mk (rnIn1 (List.mem_of_getElem? (i := 27) rfl)) (by decide +kernel)
theorem vX11_init : Cond.instanceMethod (kNm kX11_init) ∈ lw_tbl := rnIn1 (List.mem_of_getElem? (i := 26) rfl)
theorem oX11_state : rnKok kX11_state := rnK_mk (rnIn3 (List.mem_of_getElem? (i := 17) rfl)) (by decide +kernel)
theorem vX11_state : Cond.instanceMethod (kNm kX11_state) ∈ lw_tbl ∧ Cond.selects (kNm kX11_state).cls (kNm kX11_state) (kNm kX11_state) ∈ lw_tbl := ⟨rnIn3 (List.mem_of_getElem? (i := 15) rfl), rnIn3 (List.mem_of_getElem? (i := 16) rfl)⟩
theorem oX11_door : rnKok kX11_door := rnK_mk (rnIn3 (List.mem_of_getElem? (i := 25) rfl)) (by decide +kernel)
theorem vX11_door : Cond.instanceMethod (kNm kX11_door) ∈ lw_tbl ∧ Cond.selects (kNm kX11_door).cls (kNm kX11_door) (kNm kX11_door) ∈ lw_tbl := ⟨rnIn3 (List.mem_of_getElem? (i := 23) rfl), rnIn3 (List.mem_of_getElem? (i := 24) rfl)⟩
theorem oX11_set : rnKok kX11_set := rnK_mk (rnIn3 (List.mem_of_getElem? (i := 39) rfl)) (by decide +kernel)
theorem vX11_set : Cond.instanceMethod (kNm kX11_set) ∈ lw_tbl ∧ Cond.selects (kNm kX11_set).cls (kNm kX11_set) (kNm kX11_set) ∈ lw_tbl := ⟨rnIn3 (List.mem_of_getElem? (i := 37) rfl), rnIn3 (List.mem_of_getElem? (i := 38) rfl)⟩
theorem oX11_post : rnKok kX11_post := rnK_mk (rnIn3 (List.mem_of_getElem? (i := 55) rfl)) (by decide +kernel)
theorem vX11_post : Cond.instanceMethod (kNm kX11_post) ∈ lw_tbl ∧ Cond.selects (kNm kX11_post).cls (kNm kX11_post) (kNm kX11_post) ∈ lw_tbl := ⟨rnIn3 (List.mem_of_getElem? (i := 53) rfl), rnIn3 (List.mem_of_getElem? (i := 54) rfl)⟩
theorem oX11_bring : rnKok kX11_bring := rnK_mk (rnIn3 (List.mem_of_getElem? (i := 99) rfl)) (by decide +kernel)
theorem vX11_bring : Cond.instanceMethod (kNm kX11_bring) ∈ lw_tbl ∧ Cond.selects (kNm kX11_bring).cls (kNm kX11_bring) (kNm kX11_bring) ∈ lw_tbl := ⟨rnIn3 (List.mem_of_getElem? (i := 97) rfl), rnIn3 (List.mem_of_getElem? (i := 98) rfl)⟩
theorem oX11_rain : rnKok kX11_rain := rnK_mk (rnIn3 (List.mem_of_getElem? (i := 159) rfl)) (by decide +kernel)
theorem vX11_rain : Cond.instanceMethod (kNm kX11_rain) ∈ lw_tbl ∧ Cond.selects (kNm kX11_rain).cls (kNm kX11_rain) (kNm kX11_rain) ∈ lw_tbl := ⟨rnIn3 (List.mem_of_getElem? (i := 157) rfl), rnIn3 (List.mem_of_getElem? (i := 158) rfl)⟩
theorem oX11_days : rnKok kX11_days := rnK_mk (rnIn3 (List.mem_of_getElem? (i := 163) rfl)) (by decide +kernel)
theorem vX11_days : Cond.instanceMethod (kNm kX11_days) ∈ lw_tbl ∧ Cond.selects (kNm kX11_days).cls (kNm kX11_days) (kNm kX11_days) ∈ lw_tbl := ⟨rnIn3 (List.mem_of_getElem? (i := 161) rfl), rnIn3 (List.mem_of_getElem? (i := 162) rfl)⟩
theorem oX11_feed : rnKok kX11_feed := rnK_mk (rnIn3 (List.mem_of_getElem? (i := 193) rfl)) (by decide +kernel)
theorem vX11_feed : Cond.instanceMethod (kNm kX11_feed) ∈ lw_tbl ∧ Cond.selects (kNm kX11_feed).cls (kNm kX11_feed) (kNm kX11_feed) ∈ lw_tbl := ⟨rnIn3 (List.mem_of_getElem? (i := 191) rfl), rnIn3 (List.mem_of_getElem? (i := 192) rfl)⟩
theorem oX11_end : rnKok kX11_end := rnK_mk (rnIn3 (List.mem_of_getElem? (i := 201) rfl)) (by decide +kernel)
theorem vX11_end : Cond.instanceMethod (kNm kX11_end) ∈ lw_tbl ∧ Cond.selects (kNm kX11_end).cls (kNm kX11_end) (kNm kX11_end) ∈ lw_tbl := ⟨rnIn3 (List.mem_of_getElem? (i := 199) rfl), rnIn3 (List.mem_of_getElem? (i := 200) rfl)⟩
theorem oX11_text : rnKok kX11_text := rnK_mk (rnIn3 (List.mem_of_getElem? (i := 205) rfl)) (by decide +kernel)
theorem vX11_text : Cond.instanceMethod (kNm kX11_text) ∈ lw_tbl ∧ Cond.selects (kNm kX11_text).cls (kNm kX11_text) (kNm kX11_text) ∈ lw_tbl := ⟨rnIn3 (List.mem_of_getElem? (i := 203) rfl), rnIn3 (List.mem_of_getElem? (i := 204) rfl)⟩
theorem oX11_fault : rnKok kX11_fault := rnK_mk (rnIn4 (List.mem_of_getElem? (i := 222) rfl)) (by decide +kernel)
theorem vX11_fault : Cond.instanceMethod (kNm kX11_fault) ∈ lw_tbl ∧ Cond.selects (kNm kX11_fault).cls (kNm kX11_fault) (kNm kX11_fault) ∈ lw_tbl := ⟨rnIn4 (List.mem_of_getElem? (i := 220) rfl), rnIn4 (List.mem_of_getElem? (i := 221) rfl)⟩
theorem oX11_of : rnKok kX11_of := rnK_mk (rnIn4 (List.mem_of_getElem? (i := 226) rfl)) (by decide +kernel)
theorem vX11_of : Cond.instanceMethod (kNm kX11_of) ∈ lw_tbl ∧ Cond.selects (kNm kX11_of).cls (kNm kX11_of) (kNm kX11_of) ∈ lw_tbl := ⟨rnIn4 (List.mem_of_getElem? (i := 224) rfl), rnIn4 (List.mem_of_getElem? (i := 225) rfl)⟩
theorem oX11_letter : rnKok kX11_letter := rnK_mk (rnIn4 (List.mem_of_getElem? (i := 238) rfl)) (by decide +kernel)
theorem vX11_letter : Cond.instanceMethod (kNm kX11_letter) ∈ lw_tbl ∧ Cond.selects (kNm kX11_letter).cls (kNm kX11_letter) (kNm kX11_letter) ∈ lw_tbl := ⟨rnIn4 (List.mem_of_getElem? (i := 236) rfl), rnIn4 (List.mem_of_getElem? (i := 237) rfl)⟩
theorem oX11_given : rnKok kX11_given := rnK_mk (rnIn5 (List.mem_of_getElem? (i := 3) rfl)) (by decide +kernel)
theorem vX11_given : Cond.instanceMethod (kNm kX11_given) ∈ lw_tbl ∧ Cond.selects (kNm kX11_given).cls (kNm kX11_given) (kNm kX11_given) ∈ lw_tbl := ⟨rnIn5 (List.mem_of_getElem? (i := 1) rfl), rnIn5 (List.mem_of_getElem? (i := 2) rfl)⟩
theorem oX11_book : rnKok kX11_book := rnK_mk (rnIn5 (List.mem_of_getElem? (i := 7) rfl)) (by decide +kernel)
theorem vX11_book : Cond.instanceMethod (kNm kX11_book) ∈ lw_tbl ∧ Cond.selects (kNm kX11_book).cls (kNm kX11_book) (kNm kX11_book) ∈ lw_tbl := ⟨rnIn5 (List.mem_of_getElem? (i := 5) rfl), rnIn5 (List.mem_of_getElem? (i := 6) rfl)⟩
theorem oX11_goes : rnKok kX11_goes := rnK_mk (rnIn5 (List.mem_of_getElem? (i := 11) rfl)) (by decide +kernel)
theorem vX11_goes : Cond.instanceMethod (kNm kX11_goes) ∈ lw_tbl ∧ Cond.selects (kNm kX11_goes).cls (kNm kX11_goes) (kNm kX11_goes) ∈ lw_tbl := ⟨rnIn5 (List.mem_of_getElem? (i := 9) rfl), rnIn5 (List.mem_of_getElem? (i := 10) rfl)⟩
theorem oX11_shortest : rnKok kX11_shortest := rnK_mk (rnIn5 (List.mem_of_getElem? (i := 16) rfl)) (by decide +kernel)
theorem vX11_shortest : Cond.instanceMethod (kNm kX11_shortest) ∈ lw_tbl ∧ Cond.selects (kNm kX11_shortest).cls (kNm kX11_shortest) (kNm kX11_shortest) ∈ lw_tbl := ⟨rnIn5 (List.mem_of_getElem? (i := 14) rfl), rnIn5 (List.mem_of_getElem? (i := 15) rfl)⟩
theorem oX11_blow : rnKok kX11_blow := rnK_mk (rnIn5 (List.mem_of_getElem? (i := 54) rfl)) (by decide +kernel)
theorem vX11_blow : Cond.instanceMethod (kNm kX11_blow) ∈ lw_tbl ∧ Cond.selects (kNm kX11_blow).cls (kNm kX11_blow) (kNm kX11_blow) ∈ lw_tbl := ⟨rnIn5 (List.mem_of_getElem? (i := 52) rfl), rnIn5 (List.mem_of_getElem? (i := 53) rfl)⟩
theorem oX11_bears : rnKok kX11_bears := rnK_mk (rnIn5 (List.mem_of_getElem? (i := 63) rfl)) (by decide +kernel)
theorem vX11_bears : Cond.instanceMethod (kNm kX11_bears) ∈ lw_tbl ∧ Cond.selects (kNm kX11_bears).cls (kNm kX11_bears) (kNm kX11_bears) ∈ lw_tbl := ⟨rnIn5 (List.mem_of_getElem? (i := 61) rfl), rnIn5 (List.mem_of_getElem? (i := 62) rfl)⟩
theorem oX11_carries : rnKok kX11_carries := rnK_mk (rnIn5 (List.mem_of_getElem? (i := 81) rfl)) (by decide +kernel)
theorem vX11_carries : Cond.instanceMethod (kNm kX11_carries) ∈ lw_tbl ∧ Cond.selects (kNm kX11_carries).cls (kNm kX11_carries) (kNm kX11_carries) ∈ lw_tbl := ⟨rnIn5 (List.mem_of_getElem? (i := 79) rfl), rnIn5 (List.mem_of_getElem? (i := 80) rfl)⟩
theorem oX11_owes : rnKok kX11_owes := rnK_mk (rnIn5 (List.mem_of_getElem? (i := 93) rfl)) (by decide +kernel)
theorem vX11_owes : Cond.instanceMethod (kNm kX11_owes) ∈ lw_tbl ∧ Cond.selects (kNm kX11_owes).cls (kNm kX11_owes) (kNm kX11_owes) ∈ lw_tbl := ⟨rnIn5 (List.mem_of_getElem? (i := 91) rfl), rnIn5 (List.mem_of_getElem? (i := 92) rfl)⟩
theorem oX11_net : rnKok kX11_net := rnK_mk (rnIn5 (List.mem_of_getElem? (i := 102) rfl)) (by decide +kernel)
theorem vX11_net : Cond.instanceMethod (kNm kX11_net) ∈ lw_tbl ∧ Cond.selects (kNm kX11_net).cls (kNm kX11_net) (kNm kX11_net) ∈ lw_tbl := ⟨rnIn5 (List.mem_of_getElem? (i := 100) rfl), rnIn5 (List.mem_of_getElem? (i := 101) rfl)⟩
theorem oX11_chain : rnKok kX11_chain := rnK_mk (rnIn5 (List.mem_of_getElem? (i := 115) rfl)) (by decide +kernel)
theorem vX11_chain : Cond.instanceMethod (kNm kX11_chain) ∈ lw_tbl ∧ Cond.selects (kNm kX11_chain).cls (kNm kX11_chain) (kNm kX11_chain) ∈ lw_tbl := ⟨rnIn5 (List.mem_of_getElem? (i := 113) rfl), rnIn5 (List.mem_of_getElem? (i := 114) rfl)⟩
theorem oX11_has : rnKok kX11_has := rnK_mk (rnIn5 (List.mem_of_getElem? (i := 128) rfl)) (by decide +kernel)
theorem vX11_has : Cond.instanceMethod (kNm kX11_has) ∈ lw_tbl ∧ Cond.selects (kNm kX11_has).cls (kNm kX11_has) (kNm kX11_has) ∈ lw_tbl := ⟨rnIn5 (List.mem_of_getElem? (i := 126) rfl), rnIn5 (List.mem_of_getElem? (i := 127) rfl)⟩
theorem oX11_spell : rnKok kX11_spell := rnK_mk (rnIn5 (List.mem_of_getElem? (i := 132) rfl)) (by decide +kernel)
theorem vX11_spell : Cond.instanceMethod (kNm kX11_spell) ∈ lw_tbl ∧ Cond.selects (kNm kX11_spell).cls (kNm kX11_spell) (kNm kX11_spell) ∈ lw_tbl := ⟨rnIn5 (List.mem_of_getElem? (i := 130) rfl), rnIn5 (List.mem_of_getElem? (i := 131) rfl)⟩
theorem oX11_lays : rnKok kX11_lays := rnK_mk (rnIn5 (List.mem_of_getElem? (i := 140) rfl)) (by decide +kernel)
theorem vX11_lays : Cond.instanceMethod (kNm kX11_lays) ∈ lw_tbl ∧ Cond.selects (kNm kX11_lays).cls (kNm kX11_lays) (kNm kX11_lays) ∈ lw_tbl := ⟨rnIn5 (List.mem_of_getElem? (i := 138) rfl), rnIn5 (List.mem_of_getElem? (i := 139) rfl)⟩
theorem oX11_answer : rnKok kX11_answer := rnK_mk (rnIn5 (List.mem_of_getElem? (i := 152) rfl)) (by decide +kernel)
theorem vX11_answer : Cond.instanceMethod (kNm kX11_answer) ∈ lw_tbl ∧ Cond.selects (kNm kX11_answer).cls (kNm kX11_answer) (kNm kX11_answer) ∈ lw_tbl := ⟨rnIn5 (List.mem_of_getElem? (i := 150) rfl), rnIn5 (List.mem_of_getElem? (i := 151) rfl)⟩
theorem oX11_likely : rnKok kX11_likely := rnK_mk (rnIn5 (List.mem_of_getElem? (i := 161) rfl)) (by decide +kernel)
theorem vX11_likely : Cond.instanceMethod (kNm kX11_likely) ∈ lw_tbl ∧ Cond.selects (kNm kX11_likely).cls (kNm kX11_likely) (kNm kX11_likely) ∈ lw_tbl := ⟨rnIn5 (List.mem_of_getElem? (i := 159) rfl), rnIn5 (List.mem_of_getElem? (i := 160) rfl)⟩
theorem oX11_box : rnKok kX11_box := rnK_mk (rnIn5 (List.mem_of_getElem? (i := 174) rfl)) (by decide +kernel)
theorem vX11_box : Cond.instanceMethod (kNm kX11_box) ∈ lw_tbl ∧ Cond.selects (kNm kX11_box).cls (kNm kX11_box) (kNm kX11_box) ∈ lw_tbl := ⟨rnIn5 (List.mem_of_getElem? (i := 172) rfl), rnIn5 (List.mem_of_getElem? (i := 173) rfl)⟩
theorem oX11_face : rnKok kX11_face := rnK_mk (rnIn5 (List.mem_of_getElem? (i := 183) rfl)) (by decide +kernel)
theorem vX11_face : Cond.instanceMethod (kNm kX11_face) ∈ lw_tbl ∧ Cond.selects (kNm kX11_face).cls (kNm kX11_face) (kNm kX11_face) ∈ lw_tbl := ⟨rnIn5 (List.mem_of_getElem? (i := 181) rfl), rnIn5 (List.mem_of_getElem? (i := 182) rfl)⟩
theorem oX11_faces : rnKok kX11_faces := rnK_mk (rnIn5 (List.mem_of_getElem? (i := 191) rfl)) (by decide +kernel)
theorem vX11_faces : Cond.instanceMethod (kNm kX11_faces) ∈ lw_tbl ∧ Cond.selects (kNm kX11_faces).cls (kNm kX11_faces) (kNm kX11_faces) ∈ lw_tbl := ⟨rnIn5 (List.mem_of_getElem? (i := 189) rfl), rnIn5 (List.mem_of_getElem? (i := 190) rfl)⟩
theorem oX11_joy : rnKok kX11_joy := rnK_mk (rnIn5 (List.mem_of_getElem? (i := 218) rfl)) (by decide +kernel)
theorem vX11_joy : Cond.instanceMethod (kNm kX11_joy) ∈ lw_tbl ∧ Cond.selects (kNm kX11_joy).cls (kNm kX11_joy) (kNm kX11_joy) ∈ lw_tbl := ⟨rnIn5 (List.mem_of_getElem? (i := 216) rfl), rnIn5 (List.mem_of_getElem? (i := 217) rfl)⟩
theorem oX11_game : rnKok kX11_game := rnK_mk (rnIn5 (List.mem_of_getElem? (i := 226) rfl)) (by decide +kernel)
theorem vX11_game : Cond.instanceMethod (kNm kX11_game) ∈ lw_tbl ∧ Cond.selects (kNm kX11_game).cls (kNm kX11_game) (kNm kX11_game) ∈ lw_tbl := ⟨rnIn5 (List.mem_of_getElem? (i := 224) rfl), rnIn5 (List.mem_of_getElem? (i := 225) rfl)⟩
theorem oX11_undo : rnKok kX11_undo := rnK_mk (rnIn5 (List.mem_of_getElem? (i := 234) rfl)) (by decide +kernel)
theorem vX11_undo : Cond.instanceMethod (kNm kX11_undo) ∈ lw_tbl ∧ Cond.selects (kNm kX11_undo).cls (kNm kX11_undo) (kNm kX11_undo) ∈ lw_tbl := ⟨rnIn5 (List.mem_of_getElem? (i := 232) rfl), rnIn5 (List.mem_of_getElem? (i := 233) rfl)⟩
theorem oX11_image : rnKok kX11_image := rnK_mk (rnIn6 (List.mem_of_getElem? (i := 2) rfl)) (by decide +kernel)
theorem vX11_image : Cond.instanceMethod (kNm kX11_image) ∈ lw_tbl ∧ Cond.selects (kNm kX11_image).cls (kNm kX11_image) (kNm kX11_image) ∈ lw_tbl := ⟨rnIn6 (List.mem_of_getElem? (i := 0) rfl), rnIn6 (List.mem_of_getElem? (i := 1) rfl)⟩
theorem oX11_look : rnKok kX11_look := rnK_mk (rnIn6 (List.mem_of_getElem? (i := 16) rfl)) (by decide +kernel)
theorem vX11_look : Cond.instanceMethod (kNm kX11_look) ∈ lw_tbl ∧ Cond.selects (kNm kX11_look).cls (kNm kX11_look) (kNm kX11_look) ∈ lw_tbl := ⟨rnIn6 (List.mem_of_getElem? (i := 14) rfl), rnIn6 (List.mem_of_getElem? (i := 15) rfl)⟩
theorem oX11_isWithin : rnKok kX11_isWithin := rnK_mk (rnIn3 (List.mem_of_getElem? (i := 31) rfl)) (by decide +kernel)
theorem vX11_isWithin : Cond.static (kNm kX11_isWithin) ∈ lw_tbl := rnIn3 (List.mem_of_getElem? (i := 30) rfl)
theorem oX11_held : rnKok kX11_held := rnK_mk (rnIn3 (List.mem_of_getElem? (i := 129) rfl)) (by decide +kernel)
theorem vX11_held : Cond.static (kNm kX11_held) ∈ lw_tbl := rnIn3 (List.mem_of_getElem? (i := 128) rfl)
theorem oX11_isKind : rnKok kX11_isKind := rnK_mk (rnIn3 (List.mem_of_getElem? (i := 58) rfl)) (by decide +kernel)
theorem vX11_isKind : Cond.static (kNm kX11_isKind) ∈ lw_tbl := rnIn3 (List.mem_of_getElem? (i := 57) rfl)
theorem oX11_isFace : rnKok kX11_isFace := rnK_mk (rnIn3 (List.mem_of_getElem? (i := 28) rfl)) (by decide +kernel)
theorem vX11_isFace : Cond.static (kNm kX11_isFace) ∈ lw_tbl := rnIn3 (List.mem_of_getElem? (i := 27) rfl)
theorem oX11_theDesk : rnKok kX11_theDesk := rnK_mk (rnIn5 (List.mem_of_getElem? (i := 20) rfl)) (by decide +kernel)
theorem vX11_theDesk : Cond.instanceMethod (kNm kX11_theDesk) ∈ lw_tbl ∧ Cond.selects (kNm kX11_theDesk).cls (kNm kX11_theDesk) (kNm kX11_theDesk) ∈ lw_tbl := ⟨rnIn5 (List.mem_of_getElem? (i := 19) rfl), List.mem_append_left _ (List.mem_of_getElem? (i := 35) rfl)⟩
theorem oX11_isDoor : rnKok kX11_isDoor := rnK_mk (rnIn3 (List.mem_of_getElem? (i := 51) rfl)) (by decide +kernel)
theorem vX11_isDoor : Cond.instanceMethod (kNm kX11_isDoor) ∈ lw_tbl ∧ Cond.selects (kNm kX11_isDoor).cls (kNm kX11_isDoor) (kNm kX11_isDoor) ∈ lw_tbl := ⟨rnIn3 (List.mem_of_getElem? (i := 50) rfl), List.mem_append_left _ (List.mem_of_getElem? (i := 2) rfl)⟩
theorem oX11_setPostman : rnKok kX11_setPostman := rnK_mk (rnIn3 (List.mem_of_getElem? (i := 43) rfl)) (by decide +kernel)
theorem vX11_setPostman : Cond.instanceMethod (kNm kX11_setPostman) ∈ lw_tbl ∧ Cond.selects (kNm kX11_setPostman).cls (kNm kX11_setPostman) (kNm kX11_setPostman) ∈ lw_tbl := ⟨rnIn3 (List.mem_of_getElem? (i := 42) rfl), List.mem_append_left _ (List.mem_of_getElem? (i := 0) rfl)⟩
theorem oX11_setDoor : rnKok kX11_setDoor := rnK_mk (rnIn3 (List.mem_of_getElem? (i := 47) rfl)) (by decide +kernel)
theorem vX11_setDoor : Cond.instanceMethod (kNm kX11_setDoor) ∈ lw_tbl ∧ Cond.selects (kNm kX11_setDoor).cls (kNm kX11_setDoor) (kNm kX11_setDoor) ∈ lw_tbl := ⟨rnIn3 (List.mem_of_getElem? (i := 46) rfl), List.mem_append_left _ (List.mem_of_getElem? (i := 1) rfl)⟩
theorem oX11_feedOne : rnKok kX11_feedOne := rnK_mk (rnIn3 (List.mem_of_getElem? (i := 197) rfl)) (by decide +kernel)
theorem vX11_feedOne : Cond.instanceMethod (kNm kX11_feedOne) ∈ lw_tbl ∧ Cond.selects (kNm kX11_feedOne).cls (kNm kX11_feedOne) (kNm kX11_feedOne) ∈ lw_tbl := ⟨rnIn3 (List.mem_of_getElem? (i := 196) rfl), List.mem_append_left _ (List.mem_of_getElem? (i := 12) rfl)⟩
theorem oX12_init : rnKok kX12_init := rnK_mk (rnIn6 (List.mem_of_getElem? (i := 21) rfl)) (by decide +kernel)
theorem vX12_init : Cond.instanceMethod (kNm kX12_init) ∈ lw_tbl := rnIn6 (List.mem_of_getElem? (i := 20) rfl)
theorem oX12_isIn : rnKok kX12_isIn := rnK_mk (rnIn6 (List.mem_of_getElem? (i := 231) rfl)) (by decide +kernel)
theorem vX12_isIn : Cond.instanceMethod (kNm kX12_isIn) ∈ lw_tbl ∧ Cond.selects (kNm kX12_isIn).cls (kNm kX12_isIn) (kNm kX12_isIn) ∈ lw_tbl := ⟨rnIn6 (List.mem_of_getElem? (i := 230) rfl), List.mem_append_left _ (List.mem_of_getElem? (i := 43) rfl)⟩
theorem oX12_held : rnKok kX12_held := rnK_mk (rnIn7 (List.mem_of_getElem? (i := 11) rfl)) (by decide +kernel)
theorem vX12_held : Cond.instanceMethod (kNm kX12_held) ∈ lw_tbl ∧ Cond.selects (kNm kX12_held).cls (kNm kX12_held) (kNm kX12_held) ∈ lw_tbl := ⟨rnIn7 (List.mem_of_getElem? (i := 10) rfl), List.mem_append_left _ (List.mem_of_getElem? (i := 47) rfl)⟩
theorem oX12_greater : rnKok kX12_greater := rnK_mk (rnIn8 (List.mem_of_getElem? (i := 13) rfl)) (by decide +kernel)
theorem vX12_greater : Cond.instanceMethod (kNm kX12_greater) ∈ lw_tbl ∧ Cond.selects (kNm kX12_greater).cls (kNm kX12_greater) (kNm kX12_greater) ∈ lw_tbl := ⟨rnIn8 (List.mem_of_getElem? (i := 12) rfl), List.mem_append_left _ (List.mem_of_getElem? (i := 101) rfl)⟩
theorem oX12_lesser : rnKok kX12_lesser := rnK_mk (rnIn7 (List.mem_of_getElem? (i := 237) rfl)) (by decide +kernel)
theorem vX12_lesser : Cond.instanceMethod (kNm kX12_lesser) ∈ lw_tbl ∧ Cond.selects (kNm kX12_lesser).cls (kNm kX12_lesser) (kNm kX12_lesser) ∈ lw_tbl := ⟨rnIn7 (List.mem_of_getElem? (i := 236) rfl), List.mem_append_left _ (List.mem_of_getElem? (i := 97) rfl)⟩
theorem oX12_added : rnKok kX12_added := rnK_mk (rnIn8 (List.mem_of_getElem? (i := 142) rfl)) (by decide +kernel)
theorem vX12_added : Cond.instanceMethod (kNm kX12_added) ∈ lw_tbl ∧ Cond.selects (kNm kX12_added).cls (kNm kX12_added) (kNm kX12_added) ∈ lw_tbl := ⟨rnIn8 (List.mem_of_getElem? (i := 141) rfl), List.mem_append_left _ (List.mem_of_getElem? (i := 121) rfl)⟩
theorem oX12_onesOf : rnKok kX12_onesOf := rnK_mk (rnIn8 (List.mem_of_getElem? (i := 163) rfl)) (by decide +kernel)
theorem vX12_onesOf : Cond.instanceMethod (kNm kX12_onesOf) ∈ lw_tbl ∧ Cond.selects (kNm kX12_onesOf).cls (kNm kX12_onesOf) (kNm kX12_onesOf) ∈ lw_tbl := ⟨rnIn8 (List.mem_of_getElem? (i := 162) rfl), List.mem_append_left _ (List.mem_of_getElem? (i := 124) rfl)⟩
theorem oX12_lies : rnKok kX12_lies := rnK_mk (rnIn8 (List.mem_of_getElem? (i := 57) rfl)) (by decide +kernel)
theorem vX12_lies : Cond.instanceMethod (kNm kX12_lies) ∈ lw_tbl ∧ Cond.selects (kNm kX12_lies).cls (kNm kX12_lies) (kNm kX12_lies) ∈ lw_tbl := ⟨rnIn8 (List.mem_of_getElem? (i := 56) rfl), List.mem_append_left _ (List.mem_of_getElem? (i := 110) rfl)⟩
theorem oX12_keepsAhead : rnKok kX12_keepsAhead := rnK_mk (rnIn7 (List.mem_of_getElem? (i := 167) rfl)) (by decide +kernel)
theorem vX12_keepsAhead : Cond.instanceMethod (kNm kX12_keepsAhead) ∈ lw_tbl ∧ Cond.selects (kNm kX12_keepsAhead).cls (kNm kX12_keepsAhead) (kNm kX12_keepsAhead) ∈ lw_tbl := ⟨rnIn7 (List.mem_of_getElem? (i := 166) rfl), List.mem_append_left _ (List.mem_of_getElem? (i := 81) rfl)⟩
theorem oX12_undo : rnKok kX12_undo := rnK_mk (rnIn6 (List.mem_of_getElem? (i := 219) rfl)) (by decide +kernel)
theorem vX12_undo : Cond.instanceMethod (kNm kX12_undo) ∈ lw_tbl ∧ Cond.selects (kNm kX12_undo).cls (kNm kX12_undo) (kNm kX12_undo) ∈ lw_tbl := ⟨rnIn6 (List.mem_of_getElem? (i := 217) rfl), rnIn6 (List.mem_of_getElem? (i := 218) rfl)⟩
theorem oX12_thinks : rnKok kX12_thinks := rnK_mk (rnIn8 (List.mem_of_getElem? (i := 85) rfl)) (by decide +kernel)
theorem vX12_thinks : Cond.instanceMethod (kNm kX12_thinks) ∈ lw_tbl ∧ Cond.selects (kNm kX12_thinks).cls (kNm kX12_thinks) (kNm kX12_thinks) ∈ lw_tbl := ⟨rnIn8 (List.mem_of_getElem? (i := 84) rfl), List.mem_append_left _ (List.mem_of_getElem? (i := 112) rfl)⟩
theorem oX12_endsThought : rnKok kX12_endsThought := rnK_mk (rnIn8 (List.mem_of_getElem? (i := 89) rfl)) (by decide +kernel)
theorem vX12_endsThought : Cond.instanceMethod (kNm kX12_endsThought) ∈ lw_tbl ∧ Cond.selects (kNm kX12_endsThought).cls (kNm kX12_endsThought) (kNm kX12_endsThought) ∈ lw_tbl := ⟨rnIn8 (List.mem_of_getElem? (i := 88) rfl), List.mem_append_left _ (List.mem_of_getElem? (i := 113) rfl)⟩
theorem oX12_state : rnKok kX12_state := rnK_mk (rnIn6 (List.mem_of_getElem? (i := 223) rfl)) (by decide +kernel)
theorem vX12_state : Cond.instanceMethod (kNm kX12_state) ∈ lw_tbl ∧ Cond.selects (kNm kX12_state).cls (kNm kX12_state) (kNm kX12_state) ∈ lw_tbl := ⟨rnIn6 (List.mem_of_getElem? (i := 221) rfl), rnIn6 (List.mem_of_getElem? (i := 222) rfl)⟩
theorem oX12_draw : rnKok kX12_draw := rnK_mk (rnIn7 (List.mem_of_getElem? (i := 227) rfl)) (by decide +kernel)
theorem vX12_draw : Cond.instanceMethod (kNm kX12_draw) ∈ lw_tbl ∧ Cond.selects (kNm kX12_draw).cls (kNm kX12_draw) (kNm kX12_draw) ∈ lw_tbl := ⟨rnIn7 (List.mem_of_getElem? (i := 226) rfl), List.mem_append_left _ (List.mem_of_getElem? (i := 95) rfl)⟩
theorem oX12_isDoor : rnKok kX12_isDoor := rnK_mk (rnIn7 (List.mem_of_getElem? (i := 3) rfl)) (by decide +kernel)
theorem vX12_isDoor : Cond.instanceMethod (kNm kX12_isDoor) ∈ lw_tbl ∧ Cond.selects (kNm kX12_isDoor).cls (kNm kX12_isDoor) (kNm kX12_isDoor) ∈ lw_tbl := ⟨rnIn7 (List.mem_of_getElem? (i := 2) rfl), List.mem_append_left _ (List.mem_of_getElem? (i := 45) rfl)⟩
theorem oX12_health : rnKok kX12_health := rnK_mk (rnIn7 (List.mem_of_getElem? (i := 187) rfl)) (by decide +kernel)
theorem vX12_health : Cond.instanceMethod (kNm kX12_health) ∈ lw_tbl ∧ Cond.selects (kNm kX12_health).cls (kNm kX12_health) (kNm kX12_health) ∈ lw_tbl := ⟨rnIn7 (List.mem_of_getElem? (i := 186) rfl), List.mem_append_left _ (List.mem_of_getElem? (i := 85) rfl)⟩
theorem oX12_hasHealth : rnKok kX12_hasHealth := rnK_mk (rnIn7 (List.mem_of_getElem? (i := 7) rfl)) (by decide +kernel)
theorem vX12_hasHealth : Cond.instanceMethod (kNm kX12_hasHealth) ∈ lw_tbl ∧ Cond.selects (kNm kX12_hasHealth).cls (kNm kX12_hasHealth) (kNm kX12_hasHealth) ∈ lw_tbl := ⟨rnIn7 (List.mem_of_getElem? (i := 6) rfl), List.mem_append_left _ (List.mem_of_getElem? (i := 46) rfl)⟩
theorem oX12_letterAt : rnKok kX12_letterAt := rnK_mk (rnIn7 (List.mem_of_getElem? (i := 175) rfl)) (by decide +kernel)
theorem vX12_letterAt : Cond.instanceMethod (kNm kX12_letterAt) ∈ lw_tbl ∧ Cond.selects (kNm kX12_letterAt).cls (kNm kX12_letterAt) (kNm kX12_letterAt) ∈ lw_tbl := ⟨rnIn7 (List.mem_of_getElem? (i := 174) rfl), List.mem_append_left _ (List.mem_of_getElem? (i := 83) rfl)⟩
theorem oX12_doorOf : rnKok kX12_doorOf := rnK_mk (rnIn8 (List.mem_of_getElem? (i := 45) rfl)) (by decide +kernel)
theorem vX12_doorOf : Cond.instanceMethod (kNm kX12_doorOf) ∈ lw_tbl ∧ Cond.selects (kNm kX12_doorOf).cls (kNm kX12_doorOf) (kNm kX12_doorOf) ∈ lw_tbl := ⟨rnIn8 (List.mem_of_getElem? (i := 44) rfl), List.mem_append_left _ (List.mem_of_getElem? (i := 107) rfl)⟩
theorem oX12_lettersFor : rnKok kX12_lettersFor := rnK_mk (rnIn8 (List.mem_of_getElem? (i := 65) rfl)) (by decide +kernel)
theorem vX12_lettersFor : Cond.instanceMethod (kNm kX12_lettersFor) ∈ lw_tbl ∧ Cond.selects (kNm kX12_lettersFor).cls (kNm kX12_lettersFor) (kNm kX12_lettersFor) ∈ lw_tbl := ⟨rnIn8 (List.mem_of_getElem? (i := 64) rfl), List.mem_append_left _ (List.mem_of_getElem? (i := 111) rfl)⟩
theorem oX12_door : rnKok kX12_door := rnK_mk (rnIn6 (List.mem_of_getElem? (i := 227) rfl)) (by decide +kernel)
theorem vX12_door : Cond.instanceMethod (kNm kX12_door) ∈ lw_tbl ∧ Cond.selects (kNm kX12_door).cls (kNm kX12_door) (kNm kX12_door) ∈ lw_tbl := ⟨rnIn6 (List.mem_of_getElem? (i := 225) rfl), rnIn6 (List.mem_of_getElem? (i := 226) rfl)⟩
theorem oX12_canSet : rnKok kX12_canSet := rnK_mk (rnIn6 (List.mem_of_getElem? (i := 239) rfl)) (by decide +kernel)
theorem vX12_canSet : Cond.instanceMethod (kNm kX12_canSet) ∈ lw_tbl ∧ Cond.selects (kNm kX12_canSet).cls (kNm kX12_canSet) (kNm kX12_canSet) ∈ lw_tbl := ⟨rnIn6 (List.mem_of_getElem? (i := 238) rfl), List.mem_append_left _ (List.mem_of_getElem? (i := 44) rfl)⟩
theorem oX12_set : rnKok kX12_set := rnK_mk (rnIn6 (List.mem_of_getElem? (i := 235) rfl)) (by decide +kernel)
theorem vX12_set : Cond.instanceMethod (kNm kX12_set) ∈ lw_tbl ∧ Cond.selects (kNm kX12_set).cls (kNm kX12_set) (kNm kX12_set) ∈ lw_tbl := ⟨rnIn6 (List.mem_of_getElem? (i := 233) rfl), rnIn6 (List.mem_of_getElem? (i := 234) rfl)⟩
theorem oX12_types : rnKok kX12_types := rnK_mk (rnIn7 (List.mem_of_getElem? (i := 19) rfl)) (by decide +kernel)
theorem vX12_types : Cond.instanceMethod (kNm kX12_types) ∈ lw_tbl ∧ Cond.selects (kNm kX12_types).cls (kNm kX12_types) (kNm kX12_types) ∈ lw_tbl := ⟨rnIn7 (List.mem_of_getElem? (i := 18) rfl), List.mem_append_left _ (List.mem_of_getElem? (i := 48) rfl)⟩
theorem oX12_feed : rnKok kX12_feed := rnK_mk (rnIn7 (List.mem_of_getElem? (i := 15) rfl)) (by decide +kernel)
theorem vX12_feed : Cond.instanceMethod (kNm kX12_feed) ∈ lw_tbl ∧ Cond.selects (kNm kX12_feed).cls (kNm kX12_feed) (kNm kX12_feed) ∈ lw_tbl := ⟨rnIn7 (List.mem_of_getElem? (i := 13) rfl), rnIn7 (List.mem_of_getElem? (i := 14) rfl)⟩
theorem oX12_end : rnKok kX12_end := rnK_mk (rnIn7 (List.mem_of_getElem? (i := 23) rfl)) (by decide +kernel)
theorem vX12_end : Cond.instanceMethod (kNm kX12_end) ∈ lw_tbl ∧ Cond.selects (kNm kX12_end).cls (kNm kX12_end) (kNm kX12_end) ∈ lw_tbl := ⟨rnIn7 (List.mem_of_getElem? (i := 21) rfl), rnIn7 (List.mem_of_getElem? (i := 22) rfl)⟩
theorem oX12_raw : rnKok kX12_raw := rnK_mk (rnIn7 (List.mem_of_getElem? (i := 39) rfl)) (by decide +kernel)
theorem vX12_raw : Cond.instanceMethod (kNm kX12_raw) ∈ lw_tbl ∧ Cond.selects (kNm kX12_raw).cls (kNm kX12_raw) (kNm kX12_raw) ∈ lw_tbl := ⟨rnIn7 (List.mem_of_getElem? (i := 38) rfl), List.mem_append_left _ (List.mem_of_getElem? (i := 51) rfl)⟩
theorem oX12_isLetter : rnKok kX12_isLetter := rnK_mk (rnIn7 (List.mem_of_getElem? (i := 43) rfl)) (by decide +kernel)
theorem vX12_isLetter : Cond.instanceMethod (kNm kX12_isLetter) ∈ lw_tbl ∧ Cond.selects (kNm kX12_isLetter).cls (kNm kX12_isLetter) (kNm kX12_isLetter) ∈ lw_tbl := ⟨rnIn7 (List.mem_of_getElem? (i := 42) rfl), List.mem_append_left _ (List.mem_of_getElem? (i := 52) rfl)⟩
theorem oX12_isDigit : rnKok kX12_isDigit := rnK_mk (rnIn7 (List.mem_of_getElem? (i := 51) rfl)) (by decide +kernel)
theorem vX12_isDigit : Cond.instanceMethod (kNm kX12_isDigit) ∈ lw_tbl ∧ Cond.selects (kNm kX12_isDigit).cls (kNm kX12_isDigit) (kNm kX12_isDigit) ∈ lw_tbl := ⟨rnIn7 (List.mem_of_getElem? (i := 50) rfl), List.mem_append_left _ (List.mem_of_getElem? (i := 54) rfl)⟩
theorem oX12_isMarkSign : rnKok kX12_isMarkSign := rnK_mk (rnIn7 (List.mem_of_getElem? (i := 55) rfl)) (by decide +kernel)
theorem vX12_isMarkSign : Cond.instanceMethod (kNm kX12_isMarkSign) ∈ lw_tbl ∧ Cond.selects (kNm kX12_isMarkSign).cls (kNm kX12_isMarkSign) (kNm kX12_isMarkSign) ∈ lw_tbl := ⟨rnIn7 (List.mem_of_getElem? (i := 54) rfl), List.mem_append_left _ (List.mem_of_getElem? (i := 55) rfl)⟩
theorem oX12_wordAt : rnKok kX12_wordAt := rnK_mk (rnIn7 (List.mem_of_getElem? (i := 47) rfl)) (by decide +kernel)
theorem vX12_wordAt : Cond.instanceMethod (kNm kX12_wordAt) ∈ lw_tbl ∧ Cond.selects (kNm kX12_wordAt).cls (kNm kX12_wordAt) (kNm kX12_wordAt) ∈ lw_tbl := ⟨rnIn7 (List.mem_of_getElem? (i := 46) rfl), List.mem_append_left _ (List.mem_of_getElem? (i := 53) rfl)⟩
theorem oX12_reads : rnKok kX12_reads := rnK_mk (rnIn7 (List.mem_of_getElem? (i := 35) rfl)) (by decide +kernel)
theorem vX12_reads : Cond.instanceMethod (kNm kX12_reads) ∈ lw_tbl ∧ Cond.selects (kNm kX12_reads).cls (kNm kX12_reads) (kNm kX12_reads) ∈ lw_tbl := ⟨rnIn7 (List.mem_of_getElem? (i := 34) rfl), List.mem_append_left _ (List.mem_of_getElem? (i := 50) rfl)⟩
theorem oX12_errs : rnKok kX12_errs := rnK_mk (rnIn7 (List.mem_of_getElem? (i := 67) rfl)) (by decide +kernel)
theorem vX12_errs : Cond.instanceMethod (kNm kX12_errs) ∈ lw_tbl ∧ Cond.selects (kNm kX12_errs).cls (kNm kX12_errs) (kNm kX12_errs) ∈ lw_tbl := ⟨rnIn7 (List.mem_of_getElem? (i := 66) rfl), List.mem_append_left _ (List.mem_of_getElem? (i := 58) rfl)⟩
theorem oX12_isWord : rnKok kX12_isWord := rnK_mk (rnIn7 (List.mem_of_getElem? (i := 63) rfl)) (by decide +kernel)
theorem vX12_isWord : Cond.instanceMethod (kNm kX12_isWord) ∈ lw_tbl ∧ Cond.selects (kNm kX12_isWord).cls (kNm kX12_isWord) (kNm kX12_isWord) ∈ lw_tbl := ⟨rnIn7 (List.mem_of_getElem? (i := 62) rfl), List.mem_append_left _ (List.mem_of_getElem? (i := 57) rfl)⟩
theorem oX12_isSign : rnKok kX12_isSign := rnK_mk (rnIn7 (List.mem_of_getElem? (i := 87) rfl)) (by decide +kernel)
theorem vX12_isSign : Cond.instanceMethod (kNm kX12_isSign) ∈ lw_tbl ∧ Cond.selects (kNm kX12_isSign).cls (kNm kX12_isSign) (kNm kX12_isSign) ∈ lw_tbl := ⟨rnIn7 (List.mem_of_getElem? (i := 86) rfl), List.mem_append_left _ (List.mem_of_getElem? (i := 63) rfl)⟩
theorem oX12_emits : rnKok kX12_emits := rnK_mk (rnIn7 (List.mem_of_getElem? (i := 131) rfl)) (by decide +kernel)
theorem vX12_emits : Cond.instanceMethod (kNm kX12_emits) ∈ lw_tbl ∧ Cond.selects (kNm kX12_emits).cls (kNm kX12_emits) (kNm kX12_emits) ∈ lw_tbl := ⟨rnIn7 (List.mem_of_getElem? (i := 130) rfl), List.mem_append_left _ (List.mem_of_getElem? (i := 74) rfl)⟩
theorem oX12_canAsk : rnKok kX12_canAsk := rnK_mk (rnIn7 (List.mem_of_getElem? (i := 127) rfl)) (by decide +kernel)
theorem vX12_canAsk : Cond.instanceMethod (kNm kX12_canAsk) ∈ lw_tbl ∧ Cond.selects (kNm kX12_canAsk).cls (kNm kX12_canAsk) (kNm kX12_canAsk) ∈ lw_tbl := ⟨rnIn7 (List.mem_of_getElem? (i := 126) rfl), List.mem_append_left _ (List.mem_of_getElem? (i := 73) rfl)⟩
theorem oX12_readUnit : rnKok kX12_readUnit := rnK_mk (rnIn7 (List.mem_of_getElem? (i := 123) rfl)) (by decide +kernel)
theorem vX12_readUnit : Cond.instanceMethod (kNm kX12_readUnit) ∈ lw_tbl ∧ Cond.selects (kNm kX12_readUnit).cls (kNm kX12_readUnit) (kNm kX12_readUnit) ∈ lw_tbl := ⟨rnIn7 (List.mem_of_getElem? (i := 122) rfl), List.mem_append_left _ (List.mem_of_getElem? (i := 72) rfl)⟩
theorem oX12_readProduct : rnKok kX12_readProduct := rnK_mk (rnIn7 (List.mem_of_getElem? (i := 119) rfl)) (by decide +kernel)
theorem vX12_readProduct : Cond.instanceMethod (kNm kX12_readProduct) ∈ lw_tbl ∧ Cond.selects (kNm kX12_readProduct).cls (kNm kX12_readProduct) (kNm kX12_readProduct) ∈ lw_tbl := ⟨rnIn7 (List.mem_of_getElem? (i := 118) rfl), List.mem_append_left _ (List.mem_of_getElem? (i := 71) rfl)⟩
theorem oX12_readSum : rnKok kX12_readSum := rnK_mk (rnIn7 (List.mem_of_getElem? (i := 115) rfl)) (by decide +kernel)
theorem vX12_readSum : Cond.instanceMethod (kNm kX12_readSum) ∈ lw_tbl ∧ Cond.selects (kNm kX12_readSum).cls (kNm kX12_readSum) (kNm kX12_readSum) ∈ lw_tbl := ⟨rnIn7 (List.mem_of_getElem? (i := 114) rfl), List.mem_append_left _ (List.mem_of_getElem? (i := 70) rfl)⟩
theorem oX12_readCompared : rnKok kX12_readCompared := rnK_mk (rnIn7 (List.mem_of_getElem? (i := 143) rfl)) (by decide +kernel)
theorem vX12_readCompared : Cond.instanceMethod (kNm kX12_readCompared) ∈ lw_tbl ∧ Cond.selects (kNm kX12_readCompared).cls (kNm kX12_readCompared) (kNm kX12_readCompared) ∈ lw_tbl := ⟨rnIn7 (List.mem_of_getElem? (i := 142) rfl), List.mem_append_left _ (List.mem_of_getElem? (i := 77) rfl)⟩
theorem oX12_waits : rnKok kX12_waits := rnK_mk (rnIn7 (List.mem_of_getElem? (i := 139) rfl)) (by decide +kernel)
theorem vX12_waits : Cond.instanceMethod (kNm kX12_waits) ∈ lw_tbl ∧ Cond.selects (kNm kX12_waits).cls (kNm kX12_waits) (kNm kX12_waits) ∈ lw_tbl := ⟨rnIn7 (List.mem_of_getElem? (i := 138) rfl), List.mem_append_left _ (List.mem_of_getElem? (i := 76) rfl)⟩
theorem oX12_settles : rnKok kX12_settles := rnK_mk (rnIn7 (List.mem_of_getElem? (i := 147) rfl)) (by decide +kernel)
theorem vX12_settles : Cond.instanceMethod (kNm kX12_settles) ∈ lw_tbl ∧ Cond.selects (kNm kX12_settles).cls (kNm kX12_settles) (kNm kX12_settles) ∈ lw_tbl := ⟨rnIn7 (List.mem_of_getElem? (i := 146) rfl), List.mem_append_left _ (List.mem_of_getElem? (i := 78) rfl)⟩
theorem oX12_readAny : rnKok kX12_readAny := rnK_mk (rnIn7 (List.mem_of_getElem? (i := 135) rfl)) (by decide +kernel)
theorem vX12_readAny : Cond.instanceMethod (kNm kX12_readAny) ∈ lw_tbl ∧ Cond.selects (kNm kX12_readAny).cls (kNm kX12_readAny) (kNm kX12_readAny) ∈ lw_tbl := ⟨rnIn7 (List.mem_of_getElem? (i := 134) rfl), List.mem_append_left _ (List.mem_of_getElem? (i := 75) rfl)⟩
theorem oX12_isLineWord : rnKok kX12_isLineWord := rnK_mk (rnIn7 (List.mem_of_getElem? (i := 111) rfl)) (by decide +kernel)
theorem vX12_isLineWord : Cond.instanceMethod (kNm kX12_isLineWord) ∈ lw_tbl ∧ Cond.selects (kNm kX12_isLineWord).cls (kNm kX12_isLineWord) (kNm kX12_isLineWord) ∈ lw_tbl := ⟨rnIn7 (List.mem_of_getElem? (i := 110) rfl), List.mem_append_left _ (List.mem_of_getElem? (i := 69) rfl)⟩
theorem oX12_readLaw : rnKok kX12_readLaw := rnK_mk (rnIn7 (List.mem_of_getElem? (i := 107) rfl)) (by decide +kernel)
theorem vX12_readLaw : Cond.instanceMethod (kNm kX12_readLaw) ∈ lw_tbl ∧ Cond.selects (kNm kX12_readLaw).cls (kNm kX12_readLaw) (kNm kX12_readLaw) ∈ lw_tbl := ⟨rnIn7 (List.mem_of_getElem? (i := 106) rfl), List.mem_append_left _ (List.mem_of_getElem? (i := 68) rfl)⟩
theorem oX12_takesLaw : rnKok kX12_takesLaw := rnK_mk (rnIn7 (List.mem_of_getElem? (i := 151) rfl)) (by decide +kernel)
theorem vX12_takesLaw : Cond.instanceMethod (kNm kX12_takesLaw) ∈ lw_tbl ∧ Cond.selects (kNm kX12_takesLaw).cls (kNm kX12_takesLaw) (kNm kX12_takesLaw) ∈ lw_tbl := ⟨rnIn7 (List.mem_of_getElem? (i := 150) rfl), List.mem_append_left _ (List.mem_of_getElem? (i := 79) rfl)⟩
theorem oX12_readNumber : rnKok kX12_readNumber := rnK_mk (rnIn7 (List.mem_of_getElem? (i := 79) rfl)) (by decide +kernel)
theorem vX12_readNumber : Cond.instanceMethod (kNm kX12_readNumber) ∈ lw_tbl ∧ Cond.selects (kNm kX12_readNumber).cls (kNm kX12_readNumber) (kNm kX12_readNumber) ∈ lw_tbl := ⟨rnIn7 (List.mem_of_getElem? (i := 78) rfl), List.mem_append_left _ (List.mem_of_getElem? (i := 61) rfl)⟩
theorem oX12_readMark : rnKok kX12_readMark := rnK_mk (rnIn7 (List.mem_of_getElem? (i := 83) rfl)) (by decide +kernel)
theorem vX12_readMark : Cond.instanceMethod (kNm kX12_readMark) ∈ lw_tbl ∧ Cond.selects (kNm kX12_readMark).cls (kNm kX12_readMark) (kNm kX12_readMark) ∈ lw_tbl := ⟨rnIn7 (List.mem_of_getElem? (i := 82) rfl), List.mem_append_left _ (List.mem_of_getElem? (i := 62) rfl)⟩
theorem oX12_readTold : rnKok kX12_readTold := rnK_mk (rnIn7 (List.mem_of_getElem? (i := 75) rfl)) (by decide +kernel)
theorem vX12_readTold : Cond.instanceMethod (kNm kX12_readTold) ∈ lw_tbl ∧ Cond.selects (kNm kX12_readTold).cls (kNm kX12_readTold) (kNm kX12_readTold) ∈ lw_tbl := ⟨rnIn7 (List.mem_of_getElem? (i := 74) rfl), List.mem_append_left _ (List.mem_of_getElem? (i := 60) rfl)⟩
theorem oX12_readPostLine : rnKok kX12_readPostLine := rnK_mk (rnIn7 (List.mem_of_getElem? (i := 71) rfl)) (by decide +kernel)
theorem vX12_readPostLine : Cond.instanceMethod (kNm kX12_readPostLine) ∈ lw_tbl ∧ Cond.selects (kNm kX12_readPostLine).cls (kNm kX12_readPostLine) (kNm kX12_readPostLine) ∈ lw_tbl := ⟨rnIn7 (List.mem_of_getElem? (i := 70) rfl), List.mem_append_left _ (List.mem_of_getElem? (i := 59) rfl)⟩
theorem oX12_readPost : rnKok kX12_readPost := rnK_mk (rnIn7 (List.mem_of_getElem? (i := 59) rfl)) (by decide +kernel)
theorem vX12_readPost : Cond.instanceMethod (kNm kX12_readPost) ∈ lw_tbl ∧ Cond.selects (kNm kX12_readPost).cls (kNm kX12_readPost) (kNm kX12_readPost) ∈ lw_tbl := ⟨rnIn7 (List.mem_of_getElem? (i := 58) rfl), List.mem_append_left _ (List.mem_of_getElem? (i := 56) rfl)⟩
theorem oX12_readRound : rnKok kX12_readRound := rnK_mk (rnIn7 (List.mem_of_getElem? (i := 91) rfl)) (by decide +kernel)
theorem vX12_readRound : Cond.instanceMethod (kNm kX12_readRound) ∈ lw_tbl ∧ Cond.selects (kNm kX12_readRound).cls (kNm kX12_readRound) (kNm kX12_readRound) ∈ lw_tbl := ⟨rnIn7 (List.mem_of_getElem? (i := 90) rfl), List.mem_append_left _ (List.mem_of_getElem? (i := 64) rfl)⟩
theorem oX12_takesStreet : rnKok kX12_takesStreet := rnK_mk (rnIn7 (List.mem_of_getElem? (i := 103) rfl)) (by decide +kernel)
theorem vX12_takesStreet : Cond.instanceMethod (kNm kX12_takesStreet) ∈ lw_tbl ∧ Cond.selects (kNm kX12_takesStreet).cls (kNm kX12_takesStreet) (kNm kX12_takesStreet) ∈ lw_tbl := ⟨rnIn7 (List.mem_of_getElem? (i := 102) rfl), List.mem_append_left _ (List.mem_of_getElem? (i := 67) rfl)⟩
theorem oX12_readStreet : rnKok kX12_readStreet := rnK_mk (rnIn7 (List.mem_of_getElem? (i := 99) rfl)) (by decide +kernel)
theorem vX12_readStreet : Cond.instanceMethod (kNm kX12_readStreet) ∈ lw_tbl ∧ Cond.selects (kNm kX12_readStreet).cls (kNm kX12_readStreet) (kNm kX12_readStreet) ∈ lw_tbl := ⟨rnIn7 (List.mem_of_getElem? (i := 98) rfl), List.mem_append_left _ (List.mem_of_getElem? (i := 66) rfl)⟩
theorem oX12_readStreets : rnKok kX12_readStreets := rnK_mk (rnIn7 (List.mem_of_getElem? (i := 95) rfl)) (by decide +kernel)
theorem vX12_readStreets : Cond.instanceMethod (kNm kX12_readStreets) ∈ lw_tbl ∧ Cond.selects (kNm kX12_readStreets).cls (kNm kX12_readStreets) (kNm kX12_readStreets) ∈ lw_tbl := ⟨rnIn7 (List.mem_of_getElem? (i := 94) rfl), List.mem_append_left _ (List.mem_of_getElem? (i := 65) rfl)⟩
theorem oX12_readsText : rnKok kX12_readsText := rnK_mk (rnIn7 (List.mem_of_getElem? (i := 31) rfl)) (by decide +kernel)
theorem vX12_readsText : Cond.instanceMethod (kNm kX12_readsText) ∈ lw_tbl ∧ Cond.selects (kNm kX12_readsText).cls (kNm kX12_readsText) (kNm kX12_readsText) ∈ lw_tbl := ⟨rnIn7 (List.mem_of_getElem? (i := 30) rfl), List.mem_append_left _ (List.mem_of_getElem? (i := 49) rfl)⟩
theorem oX12_takesOther : rnKok kX12_takesOther := rnK_mk (rnIn7 (List.mem_of_getElem? (i := 155) rfl)) (by decide +kernel)
theorem vX12_takesOther : Cond.instanceMethod (kNm kX12_takesOther) ∈ lw_tbl ∧ Cond.selects (kNm kX12_takesOther).cls (kNm kX12_takesOther) (kNm kX12_takesOther) ∈ lw_tbl := ⟨rnIn7 (List.mem_of_getElem? (i := 154) rfl), List.mem_append_left _ (List.mem_of_getElem? (i := 80) rfl)⟩
theorem oX12_text : rnKok kX12_text := rnK_mk (rnIn7 (List.mem_of_getElem? (i := 27) rfl)) (by decide +kernel)
theorem vX12_text : Cond.instanceMethod (kNm kX12_text) ∈ lw_tbl ∧ Cond.selects (kNm kX12_text).cls (kNm kX12_text) (kNm kX12_text) ∈ lw_tbl := ⟨rnIn7 (List.mem_of_getElem? (i := 25) rfl), rnIn7 (List.mem_of_getElem? (i := 26) rfl)⟩
theorem oX12_fault : rnKok kX12_fault := rnK_mk (rnIn7 (List.mem_of_getElem? (i := 159) rfl)) (by decide +kernel)
theorem vX12_fault : Cond.instanceMethod (kNm kX12_fault) ∈ lw_tbl ∧ Cond.selects (kNm kX12_fault).cls (kNm kX12_fault) (kNm kX12_fault) ∈ lw_tbl := ⟨rnIn7 (List.mem_of_getElem? (i := 157) rfl), rnIn7 (List.mem_of_getElem? (i := 158) rfl)⟩
theorem oX12_twoOf : rnKok kX12_twoOf := rnK_mk (rnIn7 (List.mem_of_getElem? (i := 219) rfl)) (by decide +kernel)
theorem vX12_twoOf : Cond.instanceMethod (kNm kX12_twoOf) ∈ lw_tbl ∧ Cond.selects (kNm kX12_twoOf).cls (kNm kX12_twoOf) (kNm kX12_twoOf) ∈ lw_tbl := ⟨rnIn7 (List.mem_of_getElem? (i := 218) rfl), List.mem_append_left _ (List.mem_of_getElem? (i := 93) rfl)⟩
theorem oX12_runs : rnKok kX12_runs := rnK_mk (rnIn7 (List.mem_of_getElem? (i := 215) rfl)) (by decide +kernel)
theorem vX12_runs : Cond.instanceMethod (kNm kX12_runs) ∈ lw_tbl ∧ Cond.selects (kNm kX12_runs).cls (kNm kX12_runs) (kNm kX12_runs) ∈ lw_tbl := ⟨rnIn7 (List.mem_of_getElem? (i := 214) rfl), List.mem_append_left _ (List.mem_of_getElem? (i := 92) rfl)⟩
theorem oX12_lineOf : rnKok kX12_lineOf := rnK_mk (rnIn7 (List.mem_of_getElem? (i := 211) rfl)) (by decide +kernel)
theorem vX12_lineOf : Cond.instanceMethod (kNm kX12_lineOf) ∈ lw_tbl ∧ Cond.selects (kNm kX12_lineOf).cls (kNm kX12_lineOf) (kNm kX12_lineOf) ∈ lw_tbl := ⟨rnIn7 (List.mem_of_getElem? (i := 210) rfl), List.mem_append_left _ (List.mem_of_getElem? (i := 91) rfl)⟩
theorem oX12_asks : rnKok kX12_asks := rnK_mk (rnIn7 (List.mem_of_getElem? (i := 199) rfl)) (by decide +kernel)
theorem vX12_asks : Cond.instanceMethod (kNm kX12_asks) ∈ lw_tbl ∧ Cond.selects (kNm kX12_asks).cls (kNm kX12_asks) (kNm kX12_asks) ∈ lw_tbl := ⟨rnIn7 (List.mem_of_getElem? (i := 198) rfl), List.mem_append_left _ (List.mem_of_getElem? (i := 88) rfl)⟩
theorem oX12_lawTells : rnKok kX12_lawTells := rnK_mk (rnIn7 (List.mem_of_getElem? (i := 207) rfl)) (by decide +kernel)
theorem vX12_lawTells : Cond.instanceMethod (kNm kX12_lawTells) ∈ lw_tbl ∧ Cond.selects (kNm kX12_lawTells).cls (kNm kX12_lawTells) (kNm kX12_lawTells) ∈ lw_tbl := ⟨rnIn7 (List.mem_of_getElem? (i := 206) rfl), List.mem_append_left _ (List.mem_of_getElem? (i := 90) rfl)⟩
theorem oX12_opensNow : rnKok kX12_opensNow := rnK_mk (rnIn7 (List.mem_of_getElem? (i := 203) rfl)) (by decide +kernel)
theorem vX12_opensNow : Cond.instanceMethod (kNm kX12_opensNow) ∈ lw_tbl ∧ Cond.selects (kNm kX12_opensNow).cls (kNm kX12_opensNow) (kNm kX12_opensNow) ∈ lw_tbl := ⟨rnIn7 (List.mem_of_getElem? (i := 202) rfl), List.mem_append_left _ (List.mem_of_getElem? (i := 89) rfl)⟩
theorem oX12_givesNow : rnKok kX12_givesNow := rnK_mk (rnIn7 (List.mem_of_getElem? (i := 233) rfl)) (by decide +kernel)
theorem vX12_givesNow : Cond.instanceMethod (kNm kX12_givesNow) ∈ lw_tbl ∧ Cond.selects (kNm kX12_givesNow).cls (kNm kX12_givesNow) (kNm kX12_givesNow) ∈ lw_tbl := ⟨rnIn7 (List.mem_of_getElem? (i := 232) rfl), List.mem_append_left _ (List.mem_of_getElem? (i := 96) rfl)⟩
theorem oX12_tiresNow : rnKok kX12_tiresNow := rnK_mk (rnIn8 (List.mem_of_getElem? (i := 21) rfl)) (by decide +kernel)
theorem vX12_tiresNow : Cond.instanceMethod (kNm kX12_tiresNow) ∈ lw_tbl ∧ Cond.selects (kNm kX12_tiresNow).cls (kNm kX12_tiresNow) (kNm kX12_tiresNow) ∈ lw_tbl := ⟨rnIn8 (List.mem_of_getElem? (i := 20) rfl), List.mem_append_left _ (List.mem_of_getElem? (i := 103) rfl)⟩
theorem oX12_asksOf : rnKok kX12_asksOf := rnK_mk (rnIn7 (List.mem_of_getElem? (i := 195) rfl)) (by decide +kernel)
theorem vX12_asksOf : Cond.instanceMethod (kNm kX12_asksOf) ∈ lw_tbl ∧ Cond.selects (kNm kX12_asksOf).cls (kNm kX12_asksOf) (kNm kX12_asksOf) ∈ lw_tbl := ⟨rnIn7 (List.mem_of_getElem? (i := 194) rfl), List.mem_append_left _ (List.mem_of_getElem? (i := 87) rfl)⟩
theorem oX12_notes : rnKok kX12_notes := rnK_mk (rnIn7 (List.mem_of_getElem? (i := 179) rfl)) (by decide +kernel)
theorem vX12_notes : Cond.instanceMethod (kNm kX12_notes) ∈ lw_tbl ∧ Cond.selects (kNm kX12_notes).cls (kNm kX12_notes) (kNm kX12_notes) ∈ lw_tbl := ⟨rnIn7 (List.mem_of_getElem? (i := 178) rfl), List.mem_append_left _ (List.mem_of_getElem? (i := 84) rfl)⟩
theorem oX12_comes : rnKok kX12_comes := rnK_mk (rnIn7 (List.mem_of_getElem? (i := 171) rfl)) (by decide +kernel)
theorem vX12_comes : Cond.instanceMethod (kNm kX12_comes) ∈ lw_tbl ∧ Cond.selects (kNm kX12_comes).cls (kNm kX12_comes) (kNm kX12_comes) ∈ lw_tbl := ⟨rnIn7 (List.mem_of_getElem? (i := 170) rfl), List.mem_append_left _ (List.mem_of_getElem? (i := 82) rfl)⟩
theorem oX12_goesOut : rnKok kX12_goesOut := rnK_mk (rnIn8 (List.mem_of_getElem? (i := 17) rfl)) (by decide +kernel)
theorem vX12_goesOut : Cond.instanceMethod (kNm kX12_goesOut) ∈ lw_tbl ∧ Cond.selects (kNm kX12_goesOut).cls (kNm kX12_goesOut) (kNm kX12_goesOut) ∈ lw_tbl := ⟨rnIn8 (List.mem_of_getElem? (i := 16) rfl), List.mem_append_left _ (List.mem_of_getElem? (i := 102) rfl)⟩
theorem oX12_looks : rnKok kX12_looks := rnK_mk (rnIn8 (List.mem_of_getElem? (i := 9) rfl)) (by decide +kernel)
theorem vX12_looks : Cond.instanceMethod (kNm kX12_looks) ∈ lw_tbl ∧ Cond.selects (kNm kX12_looks).cls (kNm kX12_looks) (kNm kX12_looks) ∈ lw_tbl := ⟨rnIn8 (List.mem_of_getElem? (i := 8) rfl), List.mem_append_left _ (List.mem_of_getElem? (i := 100) rfl)⟩
theorem oX12_changes : rnKok kX12_changes := rnK_mk (rnIn8 (List.mem_of_getElem? (i := 5) rfl)) (by decide +kernel)
theorem vX12_changes : Cond.instanceMethod (kNm kX12_changes) ∈ lw_tbl ∧ Cond.selects (kNm kX12_changes).cls (kNm kX12_changes) (kNm kX12_changes) ∈ lw_tbl := ⟨rnIn8 (List.mem_of_getElem? (i := 4) rfl), List.mem_append_left _ (List.mem_of_getElem? (i := 99) rfl)⟩
theorem oX12_isGiven : rnKok kX12_isGiven := rnK_mk (rnIn8 (List.mem_of_getElem? (i := 1) rfl)) (by decide +kernel)
theorem vX12_isGiven : Cond.instanceMethod (kNm kX12_isGiven) ∈ lw_tbl ∧ Cond.selects (kNm kX12_isGiven).cls (kNm kX12_isGiven) (kNm kX12_isGiven) ∈ lw_tbl := ⟨rnIn8 (List.mem_of_getElem? (i := 0) rfl), List.mem_append_left _ (List.mem_of_getElem? (i := 98) rfl)⟩
theorem oX12_isOpen : rnKok kX12_isOpen := rnK_mk (rnIn7 (List.mem_of_getElem? (i := 223) rfl)) (by decide +kernel)
theorem vX12_isOpen : Cond.instanceMethod (kNm kX12_isOpen) ∈ lw_tbl ∧ Cond.selects (kNm kX12_isOpen).cls (kNm kX12_isOpen) (kNm kX12_isOpen) ∈ lw_tbl := ⟨rnIn7 (List.mem_of_getElem? (i := 222) rfl), List.mem_append_left _ (List.mem_of_getElem? (i := 94) rfl)⟩
theorem oX12_brings : rnKok kX12_brings := rnK_mk (rnIn7 (List.mem_of_getElem? (i := 191) rfl)) (by decide +kernel)
theorem vX12_brings : Cond.instanceMethod (kNm kX12_brings) ∈ lw_tbl ∧ Cond.selects (kNm kX12_brings).cls (kNm kX12_brings) (kNm kX12_brings) ∈ lw_tbl := ⟨rnIn7 (List.mem_of_getElem? (i := 190) rfl), List.mem_append_left _ (List.mem_of_getElem? (i := 86) rfl)⟩
theorem oX12_post : rnKok kX12_post := rnK_mk (rnIn7 (List.mem_of_getElem? (i := 163) rfl)) (by decide +kernel)
theorem vX12_post : Cond.instanceMethod (kNm kX12_post) ∈ lw_tbl ∧ Cond.selects (kNm kX12_post).cls (kNm kX12_post) (kNm kX12_post) ∈ lw_tbl := ⟨rnIn7 (List.mem_of_getElem? (i := 161) rfl), rnIn7 (List.mem_of_getElem? (i := 162) rfl)⟩
theorem oX12_bring : rnKok kX12_bring := rnK_mk (rnIn7 (List.mem_of_getElem? (i := 183) rfl)) (by decide +kernel)
theorem vX12_bring : Cond.instanceMethod (kNm kX12_bring) ∈ lw_tbl ∧ Cond.selects (kNm kX12_bring).cls (kNm kX12_bring) (kNm kX12_bring) ∈ lw_tbl := ⟨rnIn7 (List.mem_of_getElem? (i := 181) rfl), rnIn7 (List.mem_of_getElem? (i := 182) rfl)⟩
theorem oX12_rain : rnKok kX12_rain := rnK_mk (rnIn8 (List.mem_of_getElem? (i := 25) rfl)) (by decide +kernel)
theorem vX12_rain : Cond.instanceMethod (kNm kX12_rain) ∈ lw_tbl ∧ Cond.selects (kNm kX12_rain).cls (kNm kX12_rain) (kNm kX12_rain) ∈ lw_tbl := ⟨rnIn8 (List.mem_of_getElem? (i := 23) rfl), rnIn8 (List.mem_of_getElem? (i := 24) rfl)⟩
theorem oX12_morning : rnKok kX12_morning := rnK_mk (rnIn8 (List.mem_of_getElem? (i := 37) rfl)) (by decide +kernel)
theorem vX12_morning : Cond.instanceMethod (kNm kX12_morning) ∈ lw_tbl ∧ Cond.selects (kNm kX12_morning).cls (kNm kX12_morning) (kNm kX12_morning) ∈ lw_tbl := ⟨rnIn8 (List.mem_of_getElem? (i := 36) rfl), List.mem_append_left _ (List.mem_of_getElem? (i := 105) rfl)⟩
theorem oX12_walksTo : rnKok kX12_walksTo := rnK_mk (rnIn8 (List.mem_of_getElem? (i := 41) rfl)) (by decide +kernel)
theorem vX12_walksTo : Cond.instanceMethod (kNm kX12_walksTo) ∈ lw_tbl ∧ Cond.selects (kNm kX12_walksTo).cls (kNm kX12_walksTo) (kNm kX12_walksTo) ∈ lw_tbl := ⟨rnIn8 (List.mem_of_getElem? (i := 40) rfl), List.mem_append_left _ (List.mem_of_getElem? (i := 106) rfl)⟩
theorem oX12_lettersAge : rnKok kX12_lettersAge := rnK_mk (rnIn8 (List.mem_of_getElem? (i := 49) rfl)) (by decide +kernel)
theorem vX12_lettersAge : Cond.instanceMethod (kNm kX12_lettersAge) ∈ lw_tbl ∧ Cond.selects (kNm kX12_lettersAge).cls (kNm kX12_lettersAge) (kNm kX12_lettersAge) ∈ lw_tbl := ⟨rnIn8 (List.mem_of_getElem? (i := 48) rfl), List.mem_append_left _ (List.mem_of_getElem? (i := 108) rfl)⟩
theorem oX12_evening : rnKok kX12_evening := rnK_mk (rnIn8 (List.mem_of_getElem? (i := 53) rfl)) (by decide +kernel)
theorem vX12_evening : Cond.instanceMethod (kNm kX12_evening) ∈ lw_tbl ∧ Cond.selects (kNm kX12_evening).cls (kNm kX12_evening) (kNm kX12_evening) ∈ lw_tbl := ⟨rnIn8 (List.mem_of_getElem? (i := 52) rfl), List.mem_append_left _ (List.mem_of_getElem? (i := 109) rfl)⟩
theorem oX12_goesBy : rnKok kX12_goesBy := rnK_mk (rnIn8 (List.mem_of_getElem? (i := 33) rfl)) (by decide +kernel)
theorem vX12_goesBy : Cond.instanceMethod (kNm kX12_goesBy) ∈ lw_tbl ∧ Cond.selects (kNm kX12_goesBy).cls (kNm kX12_goesBy) (kNm kX12_goesBy) ∈ lw_tbl := ⟨rnIn8 (List.mem_of_getElem? (i := 32) rfl), List.mem_append_left _ (List.mem_of_getElem? (i := 104) rfl)⟩
theorem oX12_days : rnKok kX12_days := rnK_mk (rnIn8 (List.mem_of_getElem? (i := 29) rfl)) (by decide +kernel)
theorem vX12_days : Cond.instanceMethod (kNm kX12_days) ∈ lw_tbl ∧ Cond.selects (kNm kX12_days).cls (kNm kX12_days) (kNm kX12_days) ∈ lw_tbl := ⟨rnIn8 (List.mem_of_getElem? (i := 27) rfl), rnIn8 (List.mem_of_getElem? (i := 28) rfl)⟩
theorem oX12_of : rnKok kX12_of := rnK_mk (rnIn8 (List.mem_of_getElem? (i := 61) rfl)) (by decide +kernel)
theorem vX12_of : Cond.instanceMethod (kNm kX12_of) ∈ lw_tbl ∧ Cond.selects (kNm kX12_of).cls (kNm kX12_of) (kNm kX12_of) ∈ lw_tbl := ⟨rnIn8 (List.mem_of_getElem? (i := 59) rfl), rnIn8 (List.mem_of_getElem? (i := 60) rfl)⟩
theorem oX12_letter : rnKok kX12_letter := rnK_mk (rnIn8 (List.mem_of_getElem? (i := 69) rfl)) (by decide +kernel)
theorem vX12_letter : Cond.instanceMethod (kNm kX12_letter) ∈ lw_tbl ∧ Cond.selects (kNm kX12_letter).cls (kNm kX12_letter) (kNm kX12_letter) ∈ lw_tbl := ⟨rnIn8 (List.mem_of_getElem? (i := 67) rfl), rnIn8 (List.mem_of_getElem? (i := 68) rfl)⟩
theorem oX12_given : rnKok kX12_given := rnK_mk (rnIn8 (List.mem_of_getElem? (i := 73) rfl)) (by decide +kernel)
theorem vX12_given : Cond.instanceMethod (kNm kX12_given) ∈ lw_tbl ∧ Cond.selects (kNm kX12_given).cls (kNm kX12_given) (kNm kX12_given) ∈ lw_tbl := ⟨rnIn8 (List.mem_of_getElem? (i := 71) rfl), rnIn8 (List.mem_of_getElem? (i := 72) rfl)⟩
theorem oX12_book : rnKok kX12_book := rnK_mk (rnIn8 (List.mem_of_getElem? (i := 77) rfl)) (by decide +kernel)
theorem vX12_book : Cond.instanceMethod (kNm kX12_book) ∈ lw_tbl ∧ Cond.selects (kNm kX12_book).cls (kNm kX12_book) (kNm kX12_book) ∈ lw_tbl := ⟨rnIn8 (List.mem_of_getElem? (i := 75) rfl), rnIn8 (List.mem_of_getElem? (i := 76) rfl)⟩
theorem oX12_goes : rnKok kX12_goes := rnK_mk (rnIn8 (List.mem_of_getElem? (i := 81) rfl)) (by decide +kernel)
theorem vX12_goes : Cond.instanceMethod (kNm kX12_goes) ∈ lw_tbl ∧ Cond.selects (kNm kX12_goes).cls (kNm kX12_goes) (kNm kX12_goes) ∈ lw_tbl := ⟨rnIn8 (List.mem_of_getElem? (i := 79) rfl), rnIn8 (List.mem_of_getElem? (i := 80) rfl)⟩
theorem oX12_findsWays : rnKok kX12_findsWays := rnK_mk (rnIn8 (List.mem_of_getElem? (i := 101) rfl)) (by decide +kernel)
theorem vX12_findsWays : Cond.instanceMethod (kNm kX12_findsWays) ∈ lw_tbl ∧ Cond.selects (kNm kX12_findsWays).cls (kNm kX12_findsWays) (kNm kX12_findsWays) ∈ lw_tbl := ⟨rnIn8 (List.mem_of_getElem? (i := 100) rfl), List.mem_append_left _ (List.mem_of_getElem? (i := 115) rfl)⟩
theorem oX12_findsGoals : rnKok kX12_findsGoals := rnK_mk (rnIn8 (List.mem_of_getElem? (i := 97) rfl)) (by decide +kernel)
theorem vX12_findsGoals : Cond.instanceMethod (kNm kX12_findsGoals) ∈ lw_tbl ∧ Cond.selects (kNm kX12_findsGoals).cls (kNm kX12_findsGoals) (kNm kX12_findsGoals) ∈ lw_tbl := ⟨rnIn8 (List.mem_of_getElem? (i := 96) rfl), List.mem_append_left _ (List.mem_of_getElem? (i := 114) rfl)⟩
theorem oX12_leastTo : rnKok kX12_leastTo := rnK_mk (rnIn8 (List.mem_of_getElem? (i := 106) rfl)) (by decide +kernel)
theorem vX12_leastTo : Cond.instanceMethod (kNm kX12_leastTo) ∈ lw_tbl ∧ Cond.selects (kNm kX12_leastTo).cls (kNm kX12_leastTo) (kNm kX12_leastTo) ∈ lw_tbl := ⟨rnIn8 (List.mem_of_getElem? (i := 105) rfl), List.mem_append_left _ (List.mem_of_getElem? (i := 116) rfl)⟩
theorem oX12_shortest : rnKok kX12_shortest := rnK_mk (rnIn8 (List.mem_of_getElem? (i := 93) rfl)) (by decide +kernel)
theorem vX12_shortest : Cond.instanceMethod (kNm kX12_shortest) ∈ lw_tbl ∧ Cond.selects (kNm kX12_shortest).cls (kNm kX12_shortest) (kNm kX12_shortest) ∈ lw_tbl := ⟨rnIn8 (List.mem_of_getElem? (i := 91) rfl), rnIn8 (List.mem_of_getElem? (i := 92) rfl)⟩
theorem oX12_farthestFrom : rnKok kX12_farthestFrom := rnK_mk (rnIn8 (List.mem_of_getElem? (i := 114) rfl)) (by decide +kernel)
theorem vX12_farthestFrom : Cond.instanceMethod (kNm kX12_farthestFrom) ∈ lw_tbl ∧ Cond.selects (kNm kX12_farthestFrom).cls (kNm kX12_farthestFrom) (kNm kX12_farthestFrom) ∈ lw_tbl := ⟨rnIn8 (List.mem_of_getElem? (i := 113) rfl), List.mem_append_left _ (List.mem_of_getElem? (i := 117) rfl)⟩
theorem oX12_box : rnKok kX12_box := rnK_mk (rnIn8 (List.mem_of_getElem? (i := 110) rfl)) (by decide +kernel)
theorem vX12_box : Cond.instanceMethod (kNm kX12_box) ∈ lw_tbl ∧ Cond.selects (kNm kX12_box).cls (kNm kX12_box) (kNm kX12_box) ∈ lw_tbl := ⟨rnIn8 (List.mem_of_getElem? (i := 108) rfl), rnIn8 (List.mem_of_getElem? (i := 109) rfl)⟩
theorem oX12_blow : rnKok kX12_blow := rnK_mk (rnIn8 (List.mem_of_getElem? (i := 118) rfl)) (by decide +kernel)
theorem vX12_blow : Cond.instanceMethod (kNm kX12_blow) ∈ lw_tbl ∧ Cond.selects (kNm kX12_blow).cls (kNm kX12_blow) (kNm kX12_blow) ∈ lw_tbl := ⟨rnIn8 (List.mem_of_getElem? (i := 116) rfl), rnIn8 (List.mem_of_getElem? (i := 117) rfl)⟩
theorem oX12_behind : rnKok kX12_behind := rnK_mk (rnIn8 (List.mem_of_getElem? (i := 130) rfl)) (by decide +kernel)
theorem vX12_behind : Cond.instanceMethod (kNm kX12_behind) ∈ lw_tbl ∧ Cond.selects (kNm kX12_behind).cls (kNm kX12_behind) (kNm kX12_behind) ∈ lw_tbl := ⟨rnIn8 (List.mem_of_getElem? (i := 129) rfl), List.mem_append_left _ (List.mem_of_getElem? (i := 119) rfl)⟩
theorem oX12_mostLeft : rnKok kX12_mostLeft := rnK_mk (rnIn8 (List.mem_of_getElem? (i := 126) rfl)) (by decide +kernel)
theorem vX12_mostLeft : Cond.instanceMethod (kNm kX12_mostLeft) ∈ lw_tbl ∧ Cond.selects (kNm kX12_mostLeft).cls (kNm kX12_mostLeft) (kNm kX12_mostLeft) ∈ lw_tbl := ⟨rnIn8 (List.mem_of_getElem? (i := 125) rfl), List.mem_append_left _ (List.mem_of_getElem? (i := 118) rfl)⟩
theorem oX12_bears : rnKok kX12_bears := rnK_mk (rnIn8 (List.mem_of_getElem? (i := 122) rfl)) (by decide +kernel)
theorem vX12_bears : Cond.instanceMethod (kNm kX12_bears) ∈ lw_tbl ∧ Cond.selects (kNm kX12_bears).cls (kNm kX12_bears) (kNm kX12_bears) ∈ lw_tbl := ⟨rnIn8 (List.mem_of_getElem? (i := 120) rfl), rnIn8 (List.mem_of_getElem? (i := 121) rfl)⟩
theorem oX12_findsCarried : rnKok kX12_findsCarried := rnK_mk (rnIn8 (List.mem_of_getElem? (i := 138) rfl)) (by decide +kernel)
theorem vX12_findsCarried : Cond.instanceMethod (kNm kX12_findsCarried) ∈ lw_tbl ∧ Cond.selects (kNm kX12_findsCarried).cls (kNm kX12_findsCarried) (kNm kX12_findsCarried) ∈ lw_tbl := ⟨rnIn8 (List.mem_of_getElem? (i := 137) rfl), List.mem_append_left _ (List.mem_of_getElem? (i := 120) rfl)⟩
theorem oX12_carries : rnKok kX12_carries := rnK_mk (rnIn8 (List.mem_of_getElem? (i := 134) rfl)) (by decide +kernel)
theorem vX12_carries : Cond.instanceMethod (kNm kX12_carries) ∈ lw_tbl ∧ Cond.selects (kNm kX12_carries).cls (kNm kX12_carries) (kNm kX12_carries) ∈ lw_tbl := ⟨rnIn8 (List.mem_of_getElem? (i := 132) rfl), rnIn8 (List.mem_of_getElem? (i := 133) rfl)⟩
theorem oX12_owes : rnKok kX12_owes := rnK_mk (rnIn8 (List.mem_of_getElem? (i := 147) rfl)) (by decide +kernel)
theorem vX12_owes : Cond.instanceMethod (kNm kX12_owes) ∈ lw_tbl ∧ Cond.selects (kNm kX12_owes).cls (kNm kX12_owes) (kNm kX12_owes) ∈ lw_tbl := ⟨rnIn8 (List.mem_of_getElem? (i := 145) rfl), rnIn8 (List.mem_of_getElem? (i := 146) rfl)⟩
theorem oX12_netOf : rnKok kX12_netOf := rnK_mk (rnIn8 (List.mem_of_getElem? (i := 159) rfl)) (by decide +kernel)
theorem vX12_netOf : Cond.instanceMethod (kNm kX12_netOf) ∈ lw_tbl ∧ Cond.selects (kNm kX12_netOf).cls (kNm kX12_netOf) (kNm kX12_netOf) ∈ lw_tbl := ⟨rnIn8 (List.mem_of_getElem? (i := 158) rfl), List.mem_append_left _ (List.mem_of_getElem? (i := 123) rfl)⟩
theorem oX12_fewestPayments : rnKok kX12_fewestPayments := rnK_mk (rnIn8 (List.mem_of_getElem? (i := 155) rfl)) (by decide +kernel)
theorem vX12_fewestPayments : Cond.instanceMethod (kNm kX12_fewestPayments) ∈ lw_tbl ∧ Cond.selects (kNm kX12_fewestPayments).cls (kNm kX12_fewestPayments) (kNm kX12_fewestPayments) ∈ lw_tbl := ⟨rnIn8 (List.mem_of_getElem? (i := 154) rfl), List.mem_append_left _ (List.mem_of_getElem? (i := 122) rfl)⟩
theorem oX12_net : rnKok kX12_net := rnK_mk (rnIn8 (List.mem_of_getElem? (i := 151) rfl)) (by decide +kernel)
theorem vX12_net : Cond.instanceMethod (kNm kX12_net) ∈ lw_tbl ∧ Cond.selects (kNm kX12_net).cls (kNm kX12_net) (kNm kX12_net) ∈ lw_tbl := ⟨rnIn8 (List.mem_of_getElem? (i := 149) rfl), rnIn8 (List.mem_of_getElem? (i := 150) rfl)⟩
theorem oX12_chain : rnKok kX12_chain := rnK_mk (rnIn8 (List.mem_of_getElem? (i := 167) rfl)) (by decide +kernel)
theorem vX12_chain : Cond.instanceMethod (kNm kX12_chain) ∈ lw_tbl ∧ Cond.selects (kNm kX12_chain).cls (kNm kX12_chain) (kNm kX12_chain) ∈ lw_tbl := ⟨rnIn8 (List.mem_of_getElem? (i := 165) rfl), rnIn8 (List.mem_of_getElem? (i := 166) rfl)⟩
theorem oX12_has : rnKok kX12_has := rnK_mk (rnIn8 (List.mem_of_getElem? (i := 171) rfl)) (by decide +kernel)
theorem vX12_has : Cond.instanceMethod (kNm kX12_has) ∈ lw_tbl ∧ Cond.selects (kNm kX12_has).cls (kNm kX12_has) (kNm kX12_has) ∈ lw_tbl := ⟨rnIn8 (List.mem_of_getElem? (i := 169) rfl), rnIn8 (List.mem_of_getElem? (i := 170) rfl)⟩
theorem oX12_spell : rnKok kX12_spell := rnK_mk (rnIn8 (List.mem_of_getElem? (i := 175) rfl)) (by decide +kernel)
theorem vX12_spell : Cond.instanceMethod (kNm kX12_spell) ∈ lw_tbl ∧ Cond.selects (kNm kX12_spell).cls (kNm kX12_spell) (kNm kX12_spell) ∈ lw_tbl := ⟨rnIn8 (List.mem_of_getElem? (i := 173) rfl), rnIn8 (List.mem_of_getElem? (i := 174) rfl)⟩
theorem oX12_needOf : rnKok kX12_needOf := rnK_mk (rnIn8 (List.mem_of_getElem? (i := 183) rfl)) (by decide +kernel)
theorem vX12_needOf : Cond.instanceMethod (kNm kX12_needOf) ∈ lw_tbl ∧ Cond.selects (kNm kX12_needOf).cls (kNm kX12_needOf) (kNm kX12_needOf) ∈ lw_tbl := ⟨rnIn8 (List.mem_of_getElem? (i := 182) rfl), List.mem_append_left _ (List.mem_of_getElem? (i := 125) rfl)⟩
theorem oX12_lays : rnKok kX12_lays := rnK_mk (rnIn8 (List.mem_of_getElem? (i := 179) rfl)) (by decide +kernel)
theorem vX12_lays : Cond.instanceMethod (kNm kX12_lays) ∈ lw_tbl ∧ Cond.selects (kNm kX12_lays).cls (kNm kX12_lays) (kNm kX12_lays) ∈ lw_tbl := ⟨rnIn8 (List.mem_of_getElem? (i := 177) rfl), rnIn8 (List.mem_of_getElem? (i := 178) rfl)⟩
theorem oX12_answer : rnKok kX12_answer := rnK_mk (rnIn8 (List.mem_of_getElem? (i := 187) rfl)) (by decide +kernel)
theorem vX12_answer : Cond.instanceMethod (kNm kX12_answer) ∈ lw_tbl ∧ Cond.selects (kNm kX12_answer).cls (kNm kX12_answer) (kNm kX12_answer) ∈ lw_tbl := ⟨rnIn8 (List.mem_of_getElem? (i := 185) rfl), rnIn8 (List.mem_of_getElem? (i := 186) rfl)⟩
theorem oX12_likelyOf : rnKok kX12_likelyOf := rnK_mk (rnIn8 (List.mem_of_getElem? (i := 195) rfl)) (by decide +kernel)
theorem vX12_likelyOf : Cond.instanceMethod (kNm kX12_likelyOf) ∈ lw_tbl ∧ Cond.selects (kNm kX12_likelyOf).cls (kNm kX12_likelyOf) (kNm kX12_likelyOf) ∈ lw_tbl := ⟨rnIn8 (List.mem_of_getElem? (i := 194) rfl), List.mem_append_left _ (List.mem_of_getElem? (i := 126) rfl)⟩
theorem oX12_followsOf : rnKok kX12_followsOf := rnK_mk (rnIn8 (List.mem_of_getElem? (i := 199) rfl)) (by decide +kernel)
theorem vX12_followsOf : Cond.instanceMethod (kNm kX12_followsOf) ∈ lw_tbl ∧ Cond.selects (kNm kX12_followsOf).cls (kNm kX12_followsOf) (kNm kX12_followsOf) ∈ lw_tbl := ⟨rnIn8 (List.mem_of_getElem? (i := 198) rfl), List.mem_append_left _ (List.mem_of_getElem? (i := 127) rfl)⟩
theorem oX12_likely : rnKok kX12_likely := rnK_mk (rnIn8 (List.mem_of_getElem? (i := 191) rfl)) (by decide +kernel)
theorem vX12_likely : Cond.instanceMethod (kNm kX12_likely) ∈ lw_tbl ∧ Cond.selects (kNm kX12_likely).cls (kNm kX12_likely) (kNm kX12_likely) ∈ lw_tbl := ⟨rnIn8 (List.mem_of_getElem? (i := 189) rfl), rnIn8 (List.mem_of_getElem? (i := 190) rfl)⟩
theorem oX12_face : rnKok kX12_face := rnK_mk (rnIn8 (List.mem_of_getElem? (i := 203) rfl)) (by decide +kernel)
theorem vX12_face : Cond.instanceMethod (kNm kX12_face) ∈ lw_tbl ∧ Cond.selects (kNm kX12_face).cls (kNm kX12_face) (kNm kX12_face) ∈ lw_tbl := ⟨rnIn8 (List.mem_of_getElem? (i := 201) rfl), rnIn8 (List.mem_of_getElem? (i := 202) rfl)⟩
theorem oX12_changeUp : rnKok kX12_changeUp := rnK_mk (rnIn8 (List.mem_of_getElem? (i := 215) rfl)) (by decide +kernel)
theorem vX12_changeUp : Cond.instanceMethod (kNm kX12_changeUp) ∈ lw_tbl ∧ Cond.selects (kNm kX12_changeUp).cls (kNm kX12_changeUp) (kNm kX12_changeUp) ∈ lw_tbl := ⟨rnIn8 (List.mem_of_getElem? (i := 214) rfl), List.mem_append_left _ (List.mem_of_getElem? (i := 129) rfl)⟩
theorem oX12_canBe : rnKok kX12_canBe := rnK_mk (rnIn8 (List.mem_of_getElem? (i := 211) rfl)) (by decide +kernel)
theorem vX12_canBe : Cond.instanceMethod (kNm kX12_canBe) ∈ lw_tbl ∧ Cond.selects (kNm kX12_canBe).cls (kNm kX12_canBe) (kNm kX12_canBe) ∈ lw_tbl := ⟨rnIn8 (List.mem_of_getElem? (i := 210) rfl), List.mem_append_left _ (List.mem_of_getElem? (i := 128) rfl)⟩
theorem oX12_kindsFor : rnKok kX12_kindsFor := rnK_mk (rnIn8 (List.mem_of_getElem? (i := 219) rfl)) (by decide +kernel)
theorem vX12_kindsFor : Cond.instanceMethod (kNm kX12_kindsFor) ∈ lw_tbl ∧ Cond.selects (kNm kX12_kindsFor).cls (kNm kX12_kindsFor) (kNm kX12_kindsFor) ∈ lw_tbl := ⟨rnIn8 (List.mem_of_getElem? (i := 218) rfl), List.mem_append_left _ (List.mem_of_getElem? (i := 130) rfl)⟩
theorem oX12_faces : rnKok kX12_faces := rnK_mk (rnIn8 (List.mem_of_getElem? (i := 207) rfl)) (by decide +kernel)
theorem vX12_faces : Cond.instanceMethod (kNm kX12_faces) ∈ lw_tbl ∧ Cond.selects (kNm kX12_faces).cls (kNm kX12_faces) (kNm kX12_faces) ∈ lw_tbl := ⟨rnIn8 (List.mem_of_getElem? (i := 205) rfl), rnIn8 (List.mem_of_getElem? (i := 206) rfl)⟩
theorem oX12_joy : rnKok kX12_joy := rnK_mk (rnIn8 (List.mem_of_getElem? (i := 223) rfl)) (by decide +kernel)
theorem vX12_joy : Cond.instanceMethod (kNm kX12_joy) ∈ lw_tbl ∧ Cond.selects (kNm kX12_joy).cls (kNm kX12_joy) (kNm kX12_joy) ∈ lw_tbl := ⟨rnIn8 (List.mem_of_getElem? (i := 221) rfl), rnIn8 (List.mem_of_getElem? (i := 222) rfl)⟩
theorem oX12_game : rnKok kX12_game := rnK_mk (rnIn8 (List.mem_of_getElem? (i := 228) rfl)) (by decide +kernel)
theorem vX12_game : Cond.instanceMethod (kNm kX12_game) ∈ lw_tbl ∧ Cond.selects (kNm kX12_game).cls (kNm kX12_game) (kNm kX12_game) ∈ lw_tbl := ⟨rnIn8 (List.mem_of_getElem? (i := 226) rfl), rnIn8 (List.mem_of_getElem? (i := 227) rfl)⟩
theorem oX12_keeps : rnKok kX12_keeps := rnK_mk (rnIn8 (List.mem_of_getElem? (i := 236) rfl)) (by decide +kernel)
theorem vX12_keeps : Cond.instanceMethod (kNm kX12_keeps) ∈ lw_tbl ∧ Cond.selects (kNm kX12_keeps).cls (kNm kX12_keeps) (kNm kX12_keeps) ∈ lw_tbl := ⟨rnIn8 (List.mem_of_getElem? (i := 235) rfl), List.mem_append_left _ (List.mem_of_getElem? (i := 131) rfl)⟩
theorem oX12_keepsLaw : rnKok kX12_keepsLaw := rnK_mk (rnIn9 (List.mem_of_getElem? (i := 8) rfl)) (by decide +kernel)
theorem vX12_keepsLaw : Cond.instanceMethod (kNm kX12_keepsLaw) ∈ lw_tbl ∧ Cond.selects (kNm kX12_keepsLaw).cls (kNm kX12_keepsLaw) (kNm kX12_keepsLaw) ∈ lw_tbl := ⟨rnIn9 (List.mem_of_getElem? (i := 7) rfl), List.mem_append_left _ (List.mem_of_getElem? (i := 134) rfl)⟩
theorem oX12_keepsMany : rnKok kX12_keepsMany := rnK_mk (rnIn9 (List.mem_of_getElem? (i := 0) rfl)) (by decide +kernel)
theorem vX12_keepsMany : Cond.instanceMethod (kNm kX12_keepsMany) ∈ lw_tbl ∧ Cond.selects (kNm kX12_keepsMany).cls (kNm kX12_keepsMany) (kNm kX12_keepsMany) ∈ lw_tbl := ⟨rnIn8 (List.mem_of_getElem? (i := 239) rfl), List.mem_append_left _ (List.mem_of_getElem? (i := 132) rfl)⟩
theorem oX12_keepsTold : rnKok kX12_keepsTold := rnK_mk (rnIn9 (List.mem_of_getElem? (i := 4) rfl)) (by decide +kernel)
theorem vX12_keepsTold : Cond.instanceMethod (kNm kX12_keepsTold) ∈ lw_tbl ∧ Cond.selects (kNm kX12_keepsTold).cls (kNm kX12_keepsTold) (kNm kX12_keepsTold) ∈ lw_tbl := ⟨rnIn9 (List.mem_of_getElem? (i := 3) rfl), List.mem_append_left _ (List.mem_of_getElem? (i := 133) rfl)⟩
theorem oX12_image : rnKok kX12_image := rnK_mk (rnIn8 (List.mem_of_getElem? (i := 232) rfl)) (by decide +kernel)
theorem vX12_image : Cond.instanceMethod (kNm kX12_image) ∈ lw_tbl ∧ Cond.selects (kNm kX12_image).cls (kNm kX12_image) (kNm kX12_image) ∈ lw_tbl := ⟨rnIn8 (List.mem_of_getElem? (i := 230) rfl), rnIn8 (List.mem_of_getElem? (i := 231) rfl)⟩
theorem oX12_look : rnKok kX12_look := rnK_mk (rnIn9 (List.mem_of_getElem? (i := 12) rfl)) (by decide +kernel)
theorem vX12_look : Cond.instanceMethod (kNm kX12_look) ∈ lw_tbl ∧ Cond.selects (kNm kX12_look).cls (kNm kX12_look) (kNm kX12_look) ∈ lw_tbl := ⟨rnIn9 (List.mem_of_getElem? (i := 10) rfl), rnIn9 (List.mem_of_getElem? (i := 11) rfl)⟩
theorem oJ6_bitCount_0f7a4 : rnKok kJ6_bitCount_0f7a4 := rnK_mk (rnIn5 (List.mem_of_getElem? (i := 201) rfl)) (by decide +kernel)
theorem vJ6_bitCount_0f7a4 : Cond.static (kNm kJ6_bitCount_0f7a4) ∈ lw_tbl := rnIn5 (List.mem_of_getElem? (i := 200) rfl)
theorem oJ0_length_8abf5 : rnKok kJ0_length_8abf5 := rnK_mk (rnIn4 (List.mem_of_getElem? (i := 0) rfl)) (by decide +kernel)
theorem vJ0_length_8abf5 : Cond.instanceMethod (kNm kJ0_length_8abf5) ∈ lw_tbl ∧ Cond.selects (kNm kJ0_length_8abf5).cls (kNm kJ0_length_8abf5) (kNm kJ0_length_8abf5) ∈ lw_tbl := ⟨rnIn3 (List.mem_of_getElem? (i := 238) rfl), rnIn3 (List.mem_of_getElem? (i := 239) rfl)⟩
theorem oJ0_charAt_5068e : rnKok kJ0_charAt_5068e := rnK_mk (rnIn4 (List.mem_of_getElem? (i := 81) rfl)) (by decide +kernel)
theorem vJ0_charAt_5068e : Cond.instanceMethod (kNm kJ0_charAt_5068e) ∈ lw_tbl ∧ Cond.selects (kNm kJ0_charAt_5068e).cls (kNm kJ0_charAt_5068e) (kNm kJ0_charAt_5068e) ∈ lw_tbl := ⟨rnIn4 (List.mem_of_getElem? (i := 79) rfl), rnIn4 (List.mem_of_getElem? (i := 80) rfl)⟩
theorem oJ0_indexOf_0f7a4 : rnKok kJ0_indexOf_0f7a4 := rnK_mk (rnIn3 (List.mem_of_getElem? (i := 226) rfl)) (by decide +kernel)
theorem vJ0_indexOf_0f7a4 : Cond.instanceMethod (kNm kJ0_indexOf_0f7a4) ∈ lw_tbl ∧ Cond.selects (kNm kJ0_indexOf_0f7a4).cls (kNm kJ0_indexOf_0f7a4) (kNm kJ0_indexOf_0f7a4) ∈ lw_tbl := ⟨rnIn3 (List.mem_of_getElem? (i := 224) rfl), rnIn3 (List.mem_of_getElem? (i := 225) rfl)⟩
theorem oJ0_indexOf_7cf53 : rnKok kJ0_indexOf_7cf53 := rnK_mk (rnIn3 (List.mem_of_getElem? (i := 230) rfl)) (by decide +kernel)
theorem vJ0_indexOf_7cf53 : Cond.instanceMethod (kNm kJ0_indexOf_7cf53) ∈ lw_tbl ∧ Cond.selects (kNm kJ0_indexOf_7cf53).cls (kNm kJ0_indexOf_7cf53) (kNm kJ0_indexOf_7cf53) ∈ lw_tbl := ⟨rnIn3 (List.mem_of_getElem? (i := 228) rfl), rnIn3 (List.mem_of_getElem? (i := 229) rfl)⟩
theorem oJ0_coder_7d493 : rnKok kJ0_coder_7d493 := rnK_mk (rnIn4 (List.mem_of_getElem? (i := 4) rfl)) (by decide +kernel)
theorem vJ0_coder_7d493 : Cond.instanceMethod (kNm kJ0_coder_7d493) ∈ lw_tbl ∧ Cond.selects (kNm kJ0_coder_7d493).cls (kNm kJ0_coder_7d493) (kNm kJ0_coder_7d493) ∈ lw_tbl := ⟨rnIn4 (List.mem_of_getElem? (i := 2) rfl), rnIn4 (List.mem_of_getElem? (i := 3) rfl)⟩
theorem oJ0_isLatin1_aae02 : rnKok kJ0_isLatin1_aae02 := rnK_mk (rnIn3 (List.mem_of_getElem? (i := 234) rfl)) (by decide +kernel)
theorem vJ0_isLatin1_aae02 : Cond.instanceMethod (kNm kJ0_isLatin1_aae02) ∈ lw_tbl ∧ Cond.selects (kNm kJ0_isLatin1_aae02).cls (kNm kJ0_isLatin1_aae02) (kNm kJ0_isLatin1_aae02) ∈ lw_tbl := ⟨rnIn3 (List.mem_of_getElem? (i := 232) rfl), rnIn3 (List.mem_of_getElem? (i := 233) rfl)⟩
theorem oJ0_checkIndex_df160 : rnKok kJ0_checkIndex_df160 := rnK_mk (rnIn4 (List.mem_of_getElem? (i := 87) rfl)) (by decide +kernel)
theorem vJ0_checkIndex_df160 : Cond.static (kNm kJ0_checkIndex_df160) ∈ lw_tbl := rnIn4 (List.mem_of_getElem? (i := 86) rfl)
theorem oJ0_checkBoundsBeginEnd_23922 : rnKok kJ0_checkBoundsBeginEnd_23922 := rnK_mk (rnIn4 (List.mem_of_getElem? (i := 33) rfl)) (by decide +kernel)
theorem vJ0_checkBoundsBeginEnd_23922 : Cond.static (kNm kJ0_checkBoundsBeginEnd_23922) ∈ lw_tbl := rnIn4 (List.mem_of_getElem? (i := 32) rfl)
theorem oJ1_charAt_3b067 : rnKok kJ1_charAt_3b067 := rnK_mk (rnIn4 (List.mem_of_getElem? (i := 84) rfl)) (by decide +kernel)
theorem vJ1_charAt_3b067 : Cond.static (kNm kJ1_charAt_3b067) ∈ lw_tbl := rnIn4 (List.mem_of_getElem? (i := 83) rfl)
theorem oJ1_canEncode_9a6ad : rnKok kJ1_canEncode_9a6ad := rnK_mk (rnIn4 (List.mem_of_getElem? (i := 10) rfl)) (by decide +kernel)
theorem vJ1_canEncode_9a6ad : Cond.static (kNm kJ1_canEncode_9a6ad) ∈ lw_tbl := rnIn4 (List.mem_of_getElem? (i := 9) rfl)
theorem oJ1_indexOf_4cfef : rnKok kJ1_indexOf_4cfef := rnK_mk (rnIn4 (List.mem_of_getElem? (i := 7) rfl)) (by decide +kernel)
theorem vJ1_indexOf_4cfef : Cond.static (kNm kJ1_indexOf_4cfef) ∈ lw_tbl := rnIn4 (List.mem_of_getElem? (i := 6) rfl)
theorem oJ1_indexOfChar_4cfef : rnKok kJ1_indexOfChar_4cfef := rnK_mk (rnIn4 (List.mem_of_getElem? (i := 15) rfl)) (by decide +kernel)
theorem vJ1_indexOfChar_4cfef : Cond.static (kNm kJ1_indexOfChar_4cfef) ∈ lw_tbl := rnIn4 (List.mem_of_getElem? (i := 14) rfl)
theorem oJ7_rangeCheck_23922 : rnKok kJ7_rangeCheck_23922 := rnK_mk (rnIn5 (List.mem_of_getElem? (i := 42) rfl)) (by decide +kernel)
theorem vJ7_rangeCheck_23922 : Cond.static (kNm kJ7_rangeCheck_23922) ∈ lw_tbl := rnIn5 (List.mem_of_getElem? (i := 41) rfl)
theorem oJ7_fill_d0a16 : rnKok kJ7_fill_d0a16 := rnK_mk (rnIn5 (List.mem_of_getElem? (i := 198) rfl)) (by decide +kernel)
theorem vJ7_fill_d0a16 : Cond.static (kNm kJ7_fill_d0a16) ∈ lw_tbl := rnIn5 (List.mem_of_getElem? (i := 197) rfl)
theorem oJ7_fill_53178 : rnKok kJ7_fill_53178 := rnK_mk (rnIn4 (List.mem_of_getElem? (i := 111) rfl)) (by decide +kernel)
theorem vJ7_fill_53178 : Cond.static (kNm kJ7_fill_53178) ∈ lw_tbl := rnIn4 (List.mem_of_getElem? (i := 110) rfl)
theorem oJ7_fill_fda19 : rnKok kJ7_fill_fda19 := rnK_mk (rnIn5 (List.mem_of_getElem? (i := 39) rfl)) (by decide +kernel)
theorem vJ7_fill_fda19 : Cond.static (kNm kJ7_fill_fda19) ∈ lw_tbl := rnIn5 (List.mem_of_getElem? (i := 38) rfl)
theorem oJ3_checkIndex_8e157 : rnKok kJ3_checkIndex_8e157 := rnK_mk (rnIn4 (List.mem_of_getElem? (i := 90) rfl)) (by decide +kernel)
theorem vJ3_checkIndex_8e157 : Cond.static (kNm kJ3_checkIndex_8e157) ∈ lw_tbl := rnIn4 (List.mem_of_getElem? (i := 89) rfl)
theorem oJ3_checkFromToIndex_8c36e : rnKok kJ3_checkFromToIndex_8c36e := rnK_mk (rnIn4 (List.mem_of_getElem? (i := 38) rfl)) (by decide +kernel)
theorem vJ3_checkFromToIndex_8c36e : Cond.static (kNm kJ3_checkFromToIndex_8c36e) ∈ lw_tbl := rnIn4 (List.mem_of_getElem? (i := 37) rfl)
theorem ln11_13 : Cond.methodLink (rnOwn 11) 13 (kNm kX10_init) ∈ lw_tbl := rnIn1 (List.mem_of_getElem? (i := 33) rfl)
theorem ln11_25 : Cond.methodLink (rnOwn 11) 25 (kNm kX4_init) ∈ lw_tbl := rnIn1 (List.mem_of_getElem? (i := 176) rfl)
theorem ln11_32 : Cond.methodLinkNest (rnOwn 11) 32 (kNm kX6_init) "KindPostman" ∈ lw_tbl := rnIn1 (List.mem_of_getElem? (i := 196) rfl)
theorem ln11_39 : Cond.methodLinkNest (rnOwn 11) 39 (kNm kX8_init) "KindPostman" ∈ lw_tbl := rnIn2 (List.mem_of_getElem? (i := 53) rfl)
theorem ln11_46 : Cond.methodLinkNest (rnOwn 11) 46 (kNm kX5_init) "KindPostman" ∈ lw_tbl := rnIn2 (List.mem_of_getElem? (i := 108) rfl)
theorem ln11_53 : Cond.methodLinkNest (rnOwn 11) 53 (kNm kX3_init) "KindPostman" ∈ lw_tbl := rnIn2 (List.mem_of_getElem? (i := 173) rfl)
theorem ln11_58 : Cond.methodLinkNest (rnOwn 11) 58 (kNm kX9_init) "KindPostman" ∈ lw_tbl := rnIn2 (List.mem_of_getElem? (i := 193) rfl)
theorem ln11_84 : Cond.methodLink (rnOwn 11) 84 (kNm kX4_forget) ∈ lw_tbl := rnIn3 (List.mem_of_getElem? (i := 18) rfl)
theorem ln11_87 : Cond.methodLink (rnOwn 11) 87 (kNm kX11_isFace) ∈ lw_tbl := rnIn3 (List.mem_of_getElem? (i := 26) rfl)
theorem ln11_91 : Cond.methodLink (rnOwn 11) 91 (kNm kX11_isWithin) ∈ lw_tbl := rnIn3 (List.mem_of_getElem? (i := 29) rfl)
theorem ln11_104 : Cond.methodLink (rnOwn 11) 104 (kNm kX1_add) ∈ lw_tbl := rnIn3 (List.mem_of_getElem? (i := 32) rfl)
theorem ln11_108 : Cond.methodLink (rnOwn 11) 108 (kNm kX11_setPostman) ∈ lw_tbl := rnIn3 (List.mem_of_getElem? (i := 40) rfl)
theorem ln11_112 : Cond.methodLink (rnOwn 11) 112 (kNm kX11_setDoor) ∈ lw_tbl := rnIn3 (List.mem_of_getElem? (i := 44) rfl)
theorem ln11_115 : Cond.methodLink (rnOwn 11) 115 (kNm kX11_isDoor) ∈ lw_tbl := rnIn3 (List.mem_of_getElem? (i := 48) rfl)
theorem ln11_118 : Cond.methodLink (rnOwn 11) 118 (kNm kX11_isKind) ∈ lw_tbl := rnIn3 (List.mem_of_getElem? (i := 56) rfl)
theorem ln11_130 : Cond.methodLink (rnOwn 11) 130 (kNm kX4_keep) ∈ lw_tbl := rnIn3 (List.mem_of_getElem? (i := 59) rfl)
theorem ln11_134 : Cond.methodLink (rnOwn 11) 134 (kNm kX10_arrive) ∈ lw_tbl := rnIn3 (List.mem_of_getElem? (i := 84) rfl)
theorem ln11_137 : Cond.methodLink (rnOwn 11) 137 (kNm kX0_placeOf) ∈ lw_tbl := rnIn3 (List.mem_of_getElem? (i := 100) rfl)
theorem ln11_148 : Cond.methodLink (rnOwn 11) 148 (kNm kX10_bringAt) ∈ lw_tbl := rnIn3 (List.mem_of_getElem? (i := 104) rfl)
theorem ln11_158 : Cond.methodLink (rnOwn 11) 158 (kNm kX10_passDay) ∈ lw_tbl := rnIn3 (List.mem_of_getElem? (i := 164) rfl)
theorem ln11_165 : Cond.methodLink (rnOwn 11) 165 (kNm kX11_feedOne) ∈ lw_tbl := rnIn3 (List.mem_of_getElem? (i := 194) rfl)
theorem ln11_169 : Cond.methodLink (rnOwn 11) 169 (kNm kX5_forgive) ∈ lw_tbl := rnIn3 (List.mem_of_getElem? (i := 206) rfl)
theorem ln11_172 : Cond.methodLink (rnOwn 11) 172 (kNm kX5_read) ∈ lw_tbl := rnIn3 (List.mem_of_getElem? (i := 210) rfl)
theorem ln11_179 : Cond.methodLink (rnOwn 11) 179 (kNm kX6_copyOne) ∈ lw_tbl := rnIn4 (List.mem_of_getElem? (i := 205) rfl)
theorem ln11_183 : Cond.methodLink (rnOwn 11) 183 (kNm kX6_linesOf) ∈ lw_tbl := rnIn4 (List.mem_of_getElem? (i := 215) rfl)
theorem ln11_204 : Cond.methodLink (rnOwn 11) 204 (kNm kX0_countFor) ∈ lw_tbl := rnIn4 (List.mem_of_getElem? (i := 227) rfl)
theorem ln11_207 : Cond.methodLink (rnOwn 11) 207 (kNm kX6_streetBetween) ∈ lw_tbl := rnIn4 (List.mem_of_getElem? (i := 231) rfl)
theorem ln11_228 : Cond.methodLink (rnOwn 11) 228 (kNm kX10_ask) ∈ lw_tbl := rnIn4 (List.mem_of_getElem? (i := 239) rfl)
theorem ln11_241 : Cond.methodLink (rnOwn 11) 241 (kNm kX10_copyFrom) ∈ lw_tbl := rnIn5 (List.mem_of_getElem? (i := 12) rfl)
theorem ln11_250 : Cond.methodLink (rnOwn 11) 250 (kNm kX11_theDesk) ∈ lw_tbl := rnIn5 (List.mem_of_getElem? (i := 17) rfl)
theorem ln11_254 : Cond.methodLink (rnOwn 11) 254 (kNm kX9_walkAll) ∈ lw_tbl := rnIn5 (List.mem_of_getElem? (i := 21) rfl)
theorem ln11_258 : Cond.methodLink (rnOwn 11) 258 (kNm kX8_addBlow) ∈ lw_tbl := rnIn5 (List.mem_of_getElem? (i := 55) rfl)
theorem ln11_261 : Cond.methodLink (rnOwn 11) 261 (kNm kX3_firstBlow) ∈ lw_tbl := rnIn5 (List.mem_of_getElem? (i := 64) rfl)
theorem ln11_265 : Cond.methodLink (rnOwn 11) 265 (kNm kX3_healthLeft) ∈ lw_tbl := rnIn5 (List.mem_of_getElem? (i := 74) rfl)
theorem ln11_268 : Cond.methodLink (rnOwn 11) 268 (kNm kX9_loads) ∈ lw_tbl := rnIn5 (List.mem_of_getElem? (i := 82) rfl)
theorem ln11_272 : Cond.methodLink (rnOwn 11) 272 (kNm kX8_addDebt) ∈ lw_tbl := rnIn5 (List.mem_of_getElem? (i := 94) rfl)
theorem ln11_275 : Cond.methodLink (rnOwn 11) 275 (kNm kX3_fewestPayments) ∈ lw_tbl := rnIn5 (List.mem_of_getElem? (i := 103) rfl)
theorem ln11_282 : Cond.methodLink (rnOwn 11) 282 (kNm kX3_chainHad) ∈ lw_tbl := rnIn5 (List.mem_of_getElem? (i := 116) rfl)
theorem ln11_285 : Cond.methodLink (rnOwn 11) 285 (kNm kX3_chainFull) ∈ lw_tbl := rnIn5 (List.mem_of_getElem? (i := 120) rfl)
theorem ln11_291 : Cond.methodLink (rnOwn 11) 291 (kNm kX8_addSpelled) ∈ lw_tbl := rnIn5 (List.mem_of_getElem? (i := 133) rfl)
theorem ln11_294 : Cond.methodLink (rnOwn 11) 294 (kNm kX3_timesLaid) ∈ lw_tbl := rnIn5 (List.mem_of_getElem? (i := 141) rfl)
theorem ln11_298 : Cond.methodLink (rnOwn 11) 298 (kNm kX3_orders) ∈ lw_tbl := rnIn5 (List.mem_of_getElem? (i := 145) rfl)
theorem ln11_301 : Cond.methodLink (rnOwn 11) 301 (kNm kX8_addAnswer) ∈ lw_tbl := rnIn5 (List.mem_of_getElem? (i := 153) rfl)
theorem ln11_304 : Cond.methodLink (rnOwn 11) 304 (kNm kX3_likelyAnswer) ∈ lw_tbl := rnIn5 (List.mem_of_getElem? (i := 162) rfl)
theorem ln11_307 : Cond.methodLink (rnOwn 11) 307 (kNm kX3_follows) ∈ lw_tbl := rnIn5 (List.mem_of_getElem? (i := 166) rfl)
theorem ln11_310 : Cond.methodLink (rnOwn 11) 310 (kNm kX9_newBox) ∈ lw_tbl := rnIn5 (List.mem_of_getElem? (i := 175) rfl)
theorem ln11_314 : Cond.methodLink (rnOwn 11) 314 (kNm kX8_addChange) ∈ lw_tbl := rnIn5 (List.mem_of_getElem? (i := 184) rfl)
theorem ln11_317 : Cond.methodLink (rnOwn 11) 317 (kNm kX3_waysOfFaces) ∈ lw_tbl := rnIn5 (List.mem_of_getElem? (i := 192) rfl)
theorem ln11_320 : Cond.methodLink (rnOwn 11) 320 (kNm kX3_sureLetters) ∈ lw_tbl := rnIn5 (List.mem_of_getElem? (i := 210) rfl)
theorem ln11_323 : Cond.methodLink (rnOwn 11) 323 (kNm kX9_joyOfRow) ∈ lw_tbl := rnIn5 (List.mem_of_getElem? (i := 219) rfl)
theorem ln11_327 : Cond.methodLink (rnOwn 11) 327 (kNm kX9_goodMove) ∈ lw_tbl := rnIn5 (List.mem_of_getElem? (i := 227) rfl)
theorem ln11_331 : Cond.methodLink (rnOwn 11) 331 (kNm kX4_goBack) ∈ lw_tbl := rnIn5 (List.mem_of_getElem? (i := 235) rfl)
theorem ln11_335 : Cond.methodLink (rnOwn 11) 335 (kNm kX6_copyFrom) ∈ lw_tbl := rnIn6 (List.mem_of_getElem? (i := 3) rfl)
theorem ln11_338 : Cond.methodLink (rnOwn 11) 338 (kNm kX8_copyFrom) ∈ lw_tbl := rnIn6 (List.mem_of_getElem? (i := 8) rfl)
theorem ln11_352 : Cond.methodLink (rnOwn 11) 352 (kNm kJ9_min_7cf53) ∈ lw_tbl := rnIn3 (List.mem_of_getElem? (i := 130) rfl)
theorem ln11_357 : Cond.methodLink (rnOwn 11) 357 (kNm kJ9_max_7cf53) ∈ lw_tbl := rnIn3 (List.mem_of_getElem? (i := 131) rfl)
theorem ln2_33 : Cond.methodLink (rnOwn 2) 33 (kNm kX2_plainly) ∈ lw_tbl := rnIn3 (List.mem_of_getElem? (i := 116) rfl)
theorem ln2_41 : Cond.methodLink (rnOwn 2) 41 (kNm kX2_worked) ∈ lw_tbl := rnIn3 (List.mem_of_getElem? (i := 120) rfl)
theorem ln2_45 : Cond.methodLinkNest (rnOwn 2) 45 (kNm kX11_held) "KindPostman" ∈ lw_tbl := rnIn3 (List.mem_of_getElem? (i := 127) rfl)
theorem ln2_58 : Cond.methodLink (rnOwn 2) 58 (kNm kX2_joined) ∈ lw_tbl := rnIn3 (List.mem_of_getElem? (i := 124) rfl)
theorem ln3_34 : Cond.methodLink (rnOwn 3) 34 (kNm kJ9_min_7cf53) ∈ lw_tbl := rnIn5 (List.mem_of_getElem? (i := 68) rfl)
theorem ln3_40 : Cond.methodLink (rnOwn 3) 40 (kNm kX3_leftBehindAll) ∈ lw_tbl := rnIn5 (List.mem_of_getElem? (i := 69) rfl)
theorem ln3_44 : Cond.methodLink (rnOwn 3) 44 (kNm kJ7_fill_53178) ∈ lw_tbl := rnIn5 (List.mem_of_getElem? (i := 73) rfl)
theorem ln3_53 : Cond.methodLink (rnOwn 3) 53 (kNm kX3_groupUp) ∈ lw_tbl := rnIn5 (List.mem_of_getElem? (i := 107) rfl)
theorem ln3_57 : Cond.methodLink (rnOwn 3) 57 (kNm kJ9_max_7cf53) ∈ lw_tbl := rnIn5 (List.mem_of_getElem? (i := 111) rfl)
theorem ln3_60 : Cond.methodLink (rnOwn 3) 60 (kNm kX3_chainHad) ∈ lw_tbl := rnIn5 (List.mem_of_getElem? (i := 124) rfl)
theorem ln3_76 : Cond.methodLink (rnOwn 3) 76 (kNm kX3_likelyAnswer) ∈ lw_tbl := rnIn5 (List.mem_of_getElem? (i := 170) rfl)
theorem ln3_80 : Cond.methodLink (rnOwn 3) 80 (kNm kJ7_fill_d0a16) ∈ lw_tbl := rnIn5 (List.mem_of_getElem? (i := 196) rfl)
theorem ln3_92 : Cond.methodLink (rnOwn 3) 92 (kNm kJ6_bitCount_0f7a4) ∈ lw_tbl := rnIn5 (List.mem_of_getElem? (i := 199) rfl)
theorem ln3_98 : Cond.methodLink (rnOwn 3) 98 (kNm kX3_waysFrom) ∈ lw_tbl := rnIn5 (List.mem_of_getElem? (i := 205) rfl)
theorem ln3_105 : Cond.methodLink (rnOwn 3) 105 (kNm kX3_waysOfFaces) ∈ lw_tbl := rnIn5 (List.mem_of_getElem? (i := 214) rfl)
theorem ln4_15 : Cond.methodLink (rnOwn 4) 15 (kNm kX10_init) ∈ lw_tbl := rnIn1 (List.mem_of_getElem? (i := 182) rfl)
theorem ln4_22 : Cond.methodLink (rnOwn 4) 22 (kNm kX10_copyFrom) ∈ lw_tbl := rnIn3 (List.mem_of_getElem? (i := 63) rfl)
theorem ln4_29 : Cond.methodLink (rnOwn 4) 29 (kNm kJ9_min_7cf53) ∈ lw_tbl := rnIn3 (List.mem_of_getElem? (i := 83) rfl)
theorem ln5_11 : Cond.methodLinkNest (rnOwn 5) 11 (kNm kX6_init) "KindPostman" ∈ lw_tbl := rnIn2 (List.mem_of_getElem? (i := 113) rfl)
theorem ln5_24 : Cond.methodLinkNest (rnOwn 5) 24 (kNm kX7_init) "KindPostman" ∈ lw_tbl := rnIn2 (List.mem_of_getElem? (i := 116) rfl)
theorem ln5_36 : Cond.methodLink (rnOwn 5) 36 (kNm kX7_scan) ∈ lw_tbl := rnIn3 (List.mem_of_getElem? (i := 214) rfl)
theorem ln5_40 : Cond.methodLink (rnOwn 5) 40 (kNm kX6_clearOne) ∈ lw_tbl := rnIn4 (List.mem_of_getElem? (i := 101) rfl)
theorem ln5_50 : Cond.methodLink (rnOwn 5) 50 (kNm kX5_sort) ∈ lw_tbl := rnIn4 (List.mem_of_getElem? (i := 112) rfl)
theorem ln5_54 : Cond.methodLink (rnOwn 5) 54 (kNm kX5_begins) ∈ lw_tbl := rnIn4 (List.mem_of_getElem? (i := 116) rfl)
theorem ln5_58 : Cond.methodLink (rnOwn 5) 58 (kNm kX5_lawLine) ∈ lw_tbl := rnIn4 (List.mem_of_getElem? (i := 128) rfl)
theorem ln5_61 : Cond.methodLink (rnOwn 5) 61 (kNm kX5_postLine) ∈ lw_tbl := rnIn4 (List.mem_of_getElem? (i := 184) rfl)
theorem ln5_64 : Cond.methodLink (rnOwn 5) 64 (kNm kX5_walkLine) ∈ lw_tbl := rnIn4 (List.mem_of_getElem? (i := 193) rfl)
theorem ln5_67 : Cond.methodLink (rnOwn 5) 67 (kNm kX5_streetLine) ∈ lw_tbl := rnIn4 (List.mem_of_getElem? (i := 197) rfl)
theorem ln5_70 : Cond.methodLink (rnOwn 5) 70 (kNm kX5_isFirstWord) ∈ lw_tbl := rnIn4 (List.mem_of_getElem? (i := 120) rfl)
theorem ln5_73 : Cond.methodLink (rnOwn 5) 73 (kNm kX5_blame) ∈ lw_tbl := rnIn4 (List.mem_of_getElem? (i := 124) rfl)
theorem ln5_76 : Cond.methodLinkNest (rnOwn 5) 76 (kNm kX11_isWithin) "KindPostman" ∈ lw_tbl := rnIn4 (List.mem_of_getElem? (i := 123) rfl)
theorem ln5_95 : Cond.methodLink (rnOwn 5) 95 (kNm kX5_sum) ∈ lw_tbl := rnIn4 (List.mem_of_getElem? (i := 132) rfl)
theorem ln5_101 : Cond.methodLink (rnOwn 5) 101 (kNm kX5_condition) ∈ lw_tbl := rnIn4 (List.mem_of_getElem? (i := 152) rfl)
theorem ln5_107 : Cond.methodLink (rnOwn 5) 107 (kNm kX5_need) ∈ lw_tbl := rnIn4 (List.mem_of_getElem? (i := 180) rfl)
theorem ln5_116 : Cond.methodLink (rnOwn 5) 116 (kNm kX5_number) ∈ lw_tbl := rnIn4 (List.mem_of_getElem? (i := 148) rfl)
theorem ln5_126 : Cond.methodLink (rnOwn 5) 126 (kNm kX5_kindWord) ∈ lw_tbl := rnIn4 (List.mem_of_getElem? (i := 188) rfl)
theorem ln5_144 : Cond.methodLink (rnOwn 5) 144 (kNm kX6_addStreet) ∈ lw_tbl := rnIn4 (List.mem_of_getElem? (i := 201) rfl)
theorem ln5_157 : Cond.methodLink (rnOwn 5) 157 (kNm kX5_openOne) ∈ lw_tbl := rnIn4 (List.mem_of_getElem? (i := 156) rfl)
theorem ln5_160 : Cond.methodLink (rnOwn 5) 160 (kNm kX5_relation) ∈ lw_tbl := rnIn4 (List.mem_of_getElem? (i := 164) rfl)
theorem ln5_163 : Cond.methodLink (rnOwn 5) 163 (kNm kX2_addStep) ∈ lw_tbl := rnIn4 (List.mem_of_getElem? (i := 144) rfl)
theorem ln5_166 : Cond.methodLink (rnOwn 5) 166 (kNm kX5_closeAll) ∈ lw_tbl := rnIn4 (List.mem_of_getElem? (i := 168) rfl)
theorem ln5_169 : Cond.methodLink (rnOwn 5) 169 (kNm kX5_goesOn) ∈ lw_tbl := rnIn4 (List.mem_of_getElem? (i := 176) rfl)
theorem ln5_173 : Cond.methodLink (rnOwn 5) 173 (kNm kX5_putOff) ∈ lw_tbl := rnIn4 (List.mem_of_getElem? (i := 160) rfl)
theorem ln5_176 : Cond.methodLink (rnOwn 5) 176 (kNm kX5_settle) ∈ lw_tbl := rnIn4 (List.mem_of_getElem? (i := 172) rfl)
theorem ln5_179 : Cond.methodLink (rnOwn 5) 179 (kNm kX5_product) ∈ lw_tbl := rnIn4 (List.mem_of_getElem? (i := 136) rfl)
theorem ln5_182 : Cond.methodLink (rnOwn 5) 182 (kNm kX5_operand) ∈ lw_tbl := rnIn4 (List.mem_of_getElem? (i := 140) rfl)
theorem ln5_185 : Cond.methodLinkNest (rnOwn 5) 185 (kNm kX11_isKind) "KindPostman" ∈ lw_tbl := rnIn4 (List.mem_of_getElem? (i := 192) rfl)
theorem ln6_11 : Cond.methodLinkNest (rnOwn 6) 11 (kNm kX2_init) "KindPostman" ∈ lw_tbl := rnIn1 (List.mem_of_getElem? (i := 202) rfl)
theorem ln6_50 : Cond.methodLink (rnOwn 6) 50 (kNm kX2_clear) ∈ lw_tbl := rnIn4 (List.mem_of_getElem? (i := 105) rfl)
theorem ln6_53 : Cond.methodLink (rnOwn 6) 53 (kNm kJ7_fill_53178) ∈ lw_tbl := rnIn4 (List.mem_of_getElem? (i := 109) rfl)
theorem ln6_59 : Cond.methodLink (rnOwn 6) 59 (kNm kX6_copyOne) ∈ lw_tbl := rnIn6 (List.mem_of_getElem? (i := 7) rfl)
theorem ln6_63 : Cond.methodLink (rnOwn 6) 63 (kNm kX2_copyFrom) ∈ lw_tbl := rnIn4 (List.mem_of_getElem? (i := 209) rfl)
theorem ln7_28 : Cond.methodLink (rnOwn 7) 28 (kNm kX7_sortOf) ∈ lw_tbl := rnIn3 (List.mem_of_getElem? (i := 218) rfl)
theorem ln7_32 : Cond.methodLink (rnOwn 7) 32 (kNm kX7_add) ∈ lw_tbl := rnIn4 (List.mem_of_getElem? (i := 65) rfl)
theorem ln7_36 : Cond.methodLink (rnOwn 7) 36 (kNm kX7_weigh) ∈ lw_tbl := rnIn4 (List.mem_of_getElem? (i := 69) rfl)
theorem ln7_40 : Cond.methodLinkNest (rnOwn 7) 40 (kNm kX11_isWithin) "KindPostman" ∈ lw_tbl := rnIn3 (List.mem_of_getElem? (i := 221) rfl)
theorem ln7_46 : Cond.methodLink (rnOwn 7) 46 (kNm kJ0_indexOf_0f7a4) ∈ lw_tbl := rnIn3 (List.mem_of_getElem? (i := 223) rfl)
theorem ln7_51 : Cond.methodLink (rnOwn 7) 51 (kNm kX7_wordOf) ∈ lw_tbl := rnIn4 (List.mem_of_getElem? (i := 73) rfl)
theorem ln7_57 : Cond.methodLink (rnOwn 7) 57 (kNm kJ0_length_8abf5) ∈ lw_tbl := rnIn4 (List.mem_of_getElem? (i := 77) rfl)
theorem ln7_61 : Cond.methodLink (rnOwn 7) 61 (kNm kJ0_charAt_5068e) ∈ lw_tbl := rnIn4 (List.mem_of_getElem? (i := 78) rfl)
theorem ln7_65 : Cond.methodLink (rnOwn 7) 65 (kNm kX7_isWordAt) ∈ lw_tbl := rnIn4 (List.mem_of_getElem? (i := 98) rfl)
theorem ln8_37 : Cond.methodLinkNest (rnOwn 8) 37 (kNm kX11_isWithin) "KindPostman" ∈ lw_tbl := rnIn5 (List.mem_of_getElem? (i := 59) rfl)
theorem ln8_44 : Cond.methodLink (rnOwn 8) 44 (kNm kJ7_fill_53178) ∈ lw_tbl := rnIn5 (List.mem_of_getElem? (i := 98) rfl)
theorem ln8_56 : Cond.methodLinkNest (rnOwn 8) 56 (kNm kX11_isKind) "KindPostman" ∈ lw_tbl := rnIn5 (List.mem_of_getElem? (i := 157) rfl)
theorem ln9_37 : Cond.methodLink (rnOwn 9) 37 (kNm kX0_countFor) ∈ lw_tbl := rnIn5 (List.mem_of_getElem? (i := 25) rfl)
theorem ln9_43 : Cond.methodLink (rnOwn 9) 43 (kNm kX9_measure) ∈ lw_tbl := rnIn5 (List.mem_of_getElem? (i := 26) rfl)
theorem ln9_47 : Cond.methodLink (rnOwn 9) 47 (kNm kX9_walkSets) ∈ lw_tbl := rnIn5 (List.mem_of_getElem? (i := 33) rfl)
theorem ln9_51 : Cond.methodLink (rnOwn 9) 51 (kNm kX9_shortestEnd) ∈ lw_tbl := rnIn5 (List.mem_of_getElem? (i := 47) rfl)
theorem ln9_56 : Cond.methodLink (rnOwn 9) 56 (kNm kJ7_fill_fda19) ∈ lw_tbl := rnIn5 (List.mem_of_getElem? (i := 37) rfl)
theorem ln9_62 : Cond.methodLink (rnOwn 9) 62 (kNm kX9_walkOn) ∈ lw_tbl := rnIn5 (List.mem_of_getElem? (i := 43) rfl)
theorem ln9_66 : Cond.methodLink (rnOwn 9) 66 (kNm kX6_streetBetween) ∈ lw_tbl := rnIn5 (List.mem_of_getElem? (i := 30) rfl)
theorem ln9_72 : Cond.methodLink (rnOwn 9) 72 (kNm kJ9_min_7cf53) ∈ lw_tbl := rnIn5 (List.mem_of_getElem? (i := 32) rfl)
theorem ln9_77 : Cond.methodLink (rnOwn 9) 77 (kNm kJ9_max_7cf53) ∈ lw_tbl := rnIn5 (List.mem_of_getElem? (i := 179) rfl)
theorem ln9_86 : Cond.methodLink (rnOwn 9) 86 (kNm kX9_addLoad) ∈ lw_tbl := rnIn5 (List.mem_of_getElem? (i := 86) rfl)
theorem ln10_11 : Cond.methodLinkNest (rnOwn 10) 11 (kNm kX1_init) "KindPostman" ∈ lw_tbl := rnIn1 (List.mem_of_getElem? (i := 39) rfl)
theorem ln10_20 : Cond.methodLinkNest (rnOwn 10) 20 (kNm kX0_init) "KindPostman" ∈ lw_tbl := rnIn1 (List.mem_of_getElem? (i := 76) rfl)
theorem ln10_40 : Cond.methodLink (rnOwn 10) 40 (kNm kX0_add) ∈ lw_tbl := rnIn3 (List.mem_of_getElem? (i := 88) rfl)
theorem ln10_47 : Cond.methodLink (rnOwn 10) 47 (kNm kX10_write) ∈ lw_tbl := rnIn3 (List.mem_of_getElem? (i := 92) rfl)
theorem ln10_53 : Cond.methodLink (rnOwn 10) 53 (kNm kX10_ask) ∈ lw_tbl := rnIn3 (List.mem_of_getElem? (i := 108) rfl)
theorem ln10_57 : Cond.methodLink (rnOwn 10) 57 (kNm kX10_isOpened) ∈ lw_tbl := rnIn3 (List.mem_of_getElem? (i := 134) rfl)
theorem ln10_61 : Cond.methodLink (rnOwn 10) 61 (kNm kX10_take) ∈ lw_tbl := rnIn3 (List.mem_of_getElem? (i := 140) rfl)
theorem ln10_65 : Cond.methodLink (rnOwn 10) 65 (kNm kX10_feel) ∈ lw_tbl := rnIn3 (List.mem_of_getElem? (i := 144) rfl)
theorem ln10_72 : Cond.methodLink (rnOwn 10) 72 (kNm kJ9_min_7cf53) ∈ lw_tbl := rnIn3 (List.mem_of_getElem? (i := 80) rfl)
theorem ln10_83 : Cond.methodLink (rnOwn 10) 83 (kNm kX0_remove) ∈ lw_tbl := rnIn3 (List.mem_of_getElem? (i := 152) rfl)
theorem ln10_117 : Cond.methodLink (rnOwn 10) 117 (kNm kX2_tells) ∈ lw_tbl := rnIn3 (List.mem_of_getElem? (i := 112) rfl)
theorem ln10_121 : Cond.methodLink (rnOwn 10) 121 (kNm kX10_takePost) ∈ lw_tbl := rnIn3 (List.mem_of_getElem? (i := 168) rfl)
theorem ln10_125 : Cond.methodLink (rnOwn 10) 125 (kNm kX1_beginRound) ∈ lw_tbl := rnIn3 (List.mem_of_getElem? (i := 173) rfl)
theorem ln10_140 : Cond.methodLink (rnOwn 10) 140 (kNm kX10_visit) ∈ lw_tbl := rnIn3 (List.mem_of_getElem? (i := 177) rfl)
theorem ln10_144 : Cond.methodLink (rnOwn 10) 144 (kNm kX10_ageLetters) ∈ lw_tbl := rnIn3 (List.mem_of_getElem? (i := 182) rfl)
theorem ln10_147 : Cond.methodLinkNest (rnOwn 10) 147 (kNm kX11_held) "KindPostman" ∈ lw_tbl := rnIn3 (List.mem_of_getElem? (i := 150) rfl)
theorem ln10_150 : Cond.methodLink (rnOwn 10) 150 (kNm kX1_calmTheUnvisited) ∈ lw_tbl := rnIn3 (List.mem_of_getElem? (i := 186) rfl)
theorem ln10_153 : Cond.methodLink (rnOwn 10) 153 (kNm kX1_copyFrom) ∈ lw_tbl := rnIn3 (List.mem_of_getElem? (i := 67) rfl)
theorem ln10_157 : Cond.methodLink (rnOwn 10) 157 (kNm kX0_copyFrom) ∈ lw_tbl := rnIn3 (List.mem_of_getElem? (i := 74) rfl)
theorem ln10_190 : Cond.methodLink (rnOwn 10) 190 (kNm kX10_arrive) ∈ lw_tbl := rnIn3 (List.mem_of_getElem? (i := 172) rfl)
theorem ln10_196 : Cond.methodLink (rnOwn 10) 196 (kNm kX10_bringAt) ∈ lw_tbl := rnIn3 (List.mem_of_getElem? (i := 181) rfl)
theorem ln10_207 : Cond.methodLink (rnOwn 10) 207 (kNm kJ9_max_7cf53) ∈ lw_tbl := rnIn3 (List.mem_of_getElem? (i := 151) rfl)
theorem ln13_9 : Cond.methodLink (rnOwn 13) 9 (kNm kX11_init) ∈ lw_tbl := rnIn1 (List.mem_of_getElem? (i := 25) rfl)
theorem ln13_12 : Cond.methodLink (rnOwn 13) 12 (kNm kX12_init) ∈ lw_tbl := rnIn6 (List.mem_of_getElem? (i := 19) rfl)
theorem ln13_13 : Cond.methodLink (rnOwn 13) 13 (kNm kX11_state) ∈ lw_tbl := rnIn3 (List.mem_of_getElem? (i := 14) rfl)
theorem ln13_17 : Cond.methodLink (rnOwn 13) 17 (kNm kX12_state) ∈ lw_tbl := rnIn6 (List.mem_of_getElem? (i := 220) rfl)
theorem ln13_18 : Cond.methodLink (rnOwn 13) 18 (kNm kX11_door) ∈ lw_tbl := rnIn3 (List.mem_of_getElem? (i := 22) rfl)
theorem ln13_22 : Cond.methodLink (rnOwn 13) 22 (kNm kX12_door) ∈ lw_tbl := rnIn6 (List.mem_of_getElem? (i := 224) rfl)
theorem ln13_23 : Cond.methodLink (rnOwn 13) 23 (kNm kX11_set) ∈ lw_tbl := rnIn3 (List.mem_of_getElem? (i := 36) rfl)
theorem ln13_27 : Cond.methodLink (rnOwn 13) 27 (kNm kX12_set) ∈ lw_tbl := rnIn6 (List.mem_of_getElem? (i := 232) rfl)
theorem ln13_28 : Cond.methodLink (rnOwn 13) 28 (kNm kX11_post) ∈ lw_tbl := rnIn3 (List.mem_of_getElem? (i := 52) rfl)
theorem ln13_31 : Cond.methodLink (rnOwn 13) 31 (kNm kX12_post) ∈ lw_tbl := rnIn7 (List.mem_of_getElem? (i := 160) rfl)
theorem ln13_32 : Cond.methodLink (rnOwn 13) 32 (kNm kX11_bring) ∈ lw_tbl := rnIn3 (List.mem_of_getElem? (i := 96) rfl)
theorem ln13_35 : Cond.methodLink (rnOwn 13) 35 (kNm kX12_bring) ∈ lw_tbl := rnIn7 (List.mem_of_getElem? (i := 180) rfl)
theorem ln13_36 : Cond.methodLink (rnOwn 13) 36 (kNm kX11_rain) ∈ lw_tbl := rnIn3 (List.mem_of_getElem? (i := 156) rfl)
theorem ln13_40 : Cond.methodLink (rnOwn 13) 40 (kNm kX12_rain) ∈ lw_tbl := rnIn8 (List.mem_of_getElem? (i := 22) rfl)
theorem ln13_41 : Cond.methodLink (rnOwn 13) 41 (kNm kX11_days) ∈ lw_tbl := rnIn3 (List.mem_of_getElem? (i := 160) rfl)
theorem ln13_44 : Cond.methodLink (rnOwn 13) 44 (kNm kX12_days) ∈ lw_tbl := rnIn8 (List.mem_of_getElem? (i := 26) rfl)
theorem ln13_45 : Cond.methodLink (rnOwn 13) 45 (kNm kX11_feed) ∈ lw_tbl := rnIn3 (List.mem_of_getElem? (i := 190) rfl)
theorem ln13_49 : Cond.methodLink (rnOwn 13) 49 (kNm kX12_feed) ∈ lw_tbl := rnIn7 (List.mem_of_getElem? (i := 12) rfl)
theorem ln13_50 : Cond.methodLink (rnOwn 13) 50 (kNm kX11_end) ∈ lw_tbl := rnIn3 (List.mem_of_getElem? (i := 198) rfl)
theorem ln13_53 : Cond.methodLink (rnOwn 13) 53 (kNm kX12_end) ∈ lw_tbl := rnIn7 (List.mem_of_getElem? (i := 20) rfl)
theorem ln13_54 : Cond.methodLink (rnOwn 13) 54 (kNm kX11_text) ∈ lw_tbl := rnIn3 (List.mem_of_getElem? (i := 202) rfl)
theorem ln13_57 : Cond.methodLink (rnOwn 13) 57 (kNm kX12_text) ∈ lw_tbl := rnIn7 (List.mem_of_getElem? (i := 24) rfl)
theorem ln13_58 : Cond.methodLink (rnOwn 13) 58 (kNm kX11_fault) ∈ lw_tbl := rnIn4 (List.mem_of_getElem? (i := 219) rfl)
theorem ln13_61 : Cond.methodLink (rnOwn 13) 61 (kNm kX12_fault) ∈ lw_tbl := rnIn7 (List.mem_of_getElem? (i := 156) rfl)
theorem ln13_62 : Cond.methodLink (rnOwn 13) 62 (kNm kX11_of) ∈ lw_tbl := rnIn4 (List.mem_of_getElem? (i := 223) rfl)
theorem ln13_66 : Cond.methodLink (rnOwn 13) 66 (kNm kX12_of) ∈ lw_tbl := rnIn8 (List.mem_of_getElem? (i := 58) rfl)
theorem ln13_67 : Cond.methodLink (rnOwn 13) 67 (kNm kX11_letter) ∈ lw_tbl := rnIn4 (List.mem_of_getElem? (i := 235) rfl)
theorem ln13_70 : Cond.methodLink (rnOwn 13) 70 (kNm kX12_letter) ∈ lw_tbl := rnIn8 (List.mem_of_getElem? (i := 66) rfl)
theorem ln13_71 : Cond.methodLink (rnOwn 13) 71 (kNm kX11_given) ∈ lw_tbl := rnIn5 (List.mem_of_getElem? (i := 0) rfl)
theorem ln13_74 : Cond.methodLink (rnOwn 13) 74 (kNm kX12_given) ∈ lw_tbl := rnIn8 (List.mem_of_getElem? (i := 70) rfl)
theorem ln13_75 : Cond.methodLink (rnOwn 13) 75 (kNm kX11_book) ∈ lw_tbl := rnIn5 (List.mem_of_getElem? (i := 4) rfl)
theorem ln13_78 : Cond.methodLink (rnOwn 13) 78 (kNm kX12_book) ∈ lw_tbl := rnIn8 (List.mem_of_getElem? (i := 74) rfl)
theorem ln13_79 : Cond.methodLink (rnOwn 13) 79 (kNm kX11_goes) ∈ lw_tbl := rnIn5 (List.mem_of_getElem? (i := 8) rfl)
theorem ln13_82 : Cond.methodLink (rnOwn 13) 82 (kNm kX12_goes) ∈ lw_tbl := rnIn8 (List.mem_of_getElem? (i := 78) rfl)
theorem ln13_83 : Cond.methodLink (rnOwn 13) 83 (kNm kX11_shortest) ∈ lw_tbl := rnIn5 (List.mem_of_getElem? (i := 13) rfl)
theorem ln13_86 : Cond.methodLink (rnOwn 13) 86 (kNm kX12_shortest) ∈ lw_tbl := rnIn8 (List.mem_of_getElem? (i := 90) rfl)
theorem ln13_87 : Cond.methodLink (rnOwn 13) 87 (kNm kX11_blow) ∈ lw_tbl := rnIn5 (List.mem_of_getElem? (i := 51) rfl)
theorem ln13_90 : Cond.methodLink (rnOwn 13) 90 (kNm kX12_blow) ∈ lw_tbl := rnIn8 (List.mem_of_getElem? (i := 115) rfl)
theorem ln13_91 : Cond.methodLink (rnOwn 13) 91 (kNm kX11_bears) ∈ lw_tbl := rnIn5 (List.mem_of_getElem? (i := 60) rfl)
theorem ln13_94 : Cond.methodLink (rnOwn 13) 94 (kNm kX12_bears) ∈ lw_tbl := rnIn8 (List.mem_of_getElem? (i := 119) rfl)
theorem ln13_95 : Cond.methodLink (rnOwn 13) 95 (kNm kX11_carries) ∈ lw_tbl := rnIn5 (List.mem_of_getElem? (i := 78) rfl)
theorem ln13_98 : Cond.methodLink (rnOwn 13) 98 (kNm kX12_carries) ∈ lw_tbl := rnIn8 (List.mem_of_getElem? (i := 131) rfl)
theorem ln13_99 : Cond.methodLink (rnOwn 13) 99 (kNm kX11_owes) ∈ lw_tbl := rnIn5 (List.mem_of_getElem? (i := 90) rfl)
theorem ln13_102 : Cond.methodLink (rnOwn 13) 102 (kNm kX12_owes) ∈ lw_tbl := rnIn8 (List.mem_of_getElem? (i := 144) rfl)
theorem ln13_103 : Cond.methodLink (rnOwn 13) 103 (kNm kX11_net) ∈ lw_tbl := rnIn5 (List.mem_of_getElem? (i := 99) rfl)
theorem ln13_106 : Cond.methodLink (rnOwn 13) 106 (kNm kX12_net) ∈ lw_tbl := rnIn8 (List.mem_of_getElem? (i := 148) rfl)
theorem ln13_107 : Cond.methodLink (rnOwn 13) 107 (kNm kX11_chain) ∈ lw_tbl := rnIn5 (List.mem_of_getElem? (i := 112) rfl)
theorem ln13_111 : Cond.methodLink (rnOwn 13) 111 (kNm kX12_chain) ∈ lw_tbl := rnIn8 (List.mem_of_getElem? (i := 164) rfl)
theorem ln13_112 : Cond.methodLink (rnOwn 13) 112 (kNm kX11_has) ∈ lw_tbl := rnIn5 (List.mem_of_getElem? (i := 125) rfl)
theorem ln13_116 : Cond.methodLink (rnOwn 13) 116 (kNm kX12_has) ∈ lw_tbl := rnIn8 (List.mem_of_getElem? (i := 168) rfl)
theorem ln13_117 : Cond.methodLink (rnOwn 13) 117 (kNm kX11_spell) ∈ lw_tbl := rnIn5 (List.mem_of_getElem? (i := 129) rfl)
theorem ln13_120 : Cond.methodLink (rnOwn 13) 120 (kNm kX12_spell) ∈ lw_tbl := rnIn8 (List.mem_of_getElem? (i := 172) rfl)
theorem ln13_121 : Cond.methodLink (rnOwn 13) 121 (kNm kX11_lays) ∈ lw_tbl := rnIn5 (List.mem_of_getElem? (i := 137) rfl)
theorem ln13_124 : Cond.methodLink (rnOwn 13) 124 (kNm kX12_lays) ∈ lw_tbl := rnIn8 (List.mem_of_getElem? (i := 176) rfl)
theorem ln13_125 : Cond.methodLink (rnOwn 13) 125 (kNm kX11_answer) ∈ lw_tbl := rnIn5 (List.mem_of_getElem? (i := 149) rfl)
theorem ln13_128 : Cond.methodLink (rnOwn 13) 128 (kNm kX12_answer) ∈ lw_tbl := rnIn8 (List.mem_of_getElem? (i := 184) rfl)
theorem ln13_129 : Cond.methodLink (rnOwn 13) 129 (kNm kX11_likely) ∈ lw_tbl := rnIn5 (List.mem_of_getElem? (i := 158) rfl)
theorem ln13_132 : Cond.methodLink (rnOwn 13) 132 (kNm kX12_likely) ∈ lw_tbl := rnIn8 (List.mem_of_getElem? (i := 188) rfl)
theorem ln13_133 : Cond.methodLink (rnOwn 13) 133 (kNm kX11_box) ∈ lw_tbl := rnIn5 (List.mem_of_getElem? (i := 171) rfl)
theorem ln13_136 : Cond.methodLink (rnOwn 13) 136 (kNm kX12_box) ∈ lw_tbl := rnIn8 (List.mem_of_getElem? (i := 107) rfl)
theorem ln13_137 : Cond.methodLink (rnOwn 13) 137 (kNm kX11_face) ∈ lw_tbl := rnIn5 (List.mem_of_getElem? (i := 180) rfl)
theorem ln13_140 : Cond.methodLink (rnOwn 13) 140 (kNm kX12_face) ∈ lw_tbl := rnIn8 (List.mem_of_getElem? (i := 200) rfl)
theorem ln13_141 : Cond.methodLink (rnOwn 13) 141 (kNm kX11_faces) ∈ lw_tbl := rnIn5 (List.mem_of_getElem? (i := 188) rfl)
theorem ln13_144 : Cond.methodLink (rnOwn 13) 144 (kNm kX12_faces) ∈ lw_tbl := rnIn8 (List.mem_of_getElem? (i := 204) rfl)
theorem ln13_145 : Cond.methodLink (rnOwn 13) 145 (kNm kX11_joy) ∈ lw_tbl := rnIn5 (List.mem_of_getElem? (i := 215) rfl)
theorem ln13_148 : Cond.methodLink (rnOwn 13) 148 (kNm kX12_joy) ∈ lw_tbl := rnIn8 (List.mem_of_getElem? (i := 220) rfl)
theorem ln13_149 : Cond.methodLink (rnOwn 13) 149 (kNm kX11_game) ∈ lw_tbl := rnIn5 (List.mem_of_getElem? (i := 223) rfl)
theorem ln13_152 : Cond.methodLink (rnOwn 13) 152 (kNm kX12_game) ∈ lw_tbl := rnIn8 (List.mem_of_getElem? (i := 225) rfl)
theorem ln13_153 : Cond.methodLink (rnOwn 13) 153 (kNm kX11_undo) ∈ lw_tbl := rnIn5 (List.mem_of_getElem? (i := 231) rfl)
theorem ln13_157 : Cond.methodLink (rnOwn 13) 157 (kNm kX12_undo) ∈ lw_tbl := rnIn6 (List.mem_of_getElem? (i := 216) rfl)
theorem ln13_158 : Cond.methodLink (rnOwn 13) 158 (kNm kX11_image) ∈ lw_tbl := rnIn5 (List.mem_of_getElem? (i := 239) rfl)
theorem ln13_162 : Cond.methodLink (rnOwn 13) 162 (kNm kX12_image) ∈ lw_tbl := rnIn8 (List.mem_of_getElem? (i := 229) rfl)
theorem ln13_163 : Cond.methodLink (rnOwn 13) 163 (kNm kX11_look) ∈ lw_tbl := rnIn6 (List.mem_of_getElem? (i := 13) rfl)
theorem ln13_166 : Cond.methodLink (rnOwn 13) 166 (kNm kX12_look) ∈ lw_tbl := rnIn9 (List.mem_of_getElem? (i := 9) rfl)
theorem ln12_132 : Cond.methodLink (rnOwn 12) 132 (kNm kX12_held) ∈ lw_tbl := rnIn7 (List.mem_of_getElem? (i := 8) rfl)
theorem ln12_136 : Cond.methodLink (rnOwn 12) 136 (kNm kX12_letterAt) ∈ lw_tbl := rnIn7 (List.mem_of_getElem? (i := 172) rfl)
theorem ln12_140 : Cond.methodLink (rnOwn 12) 140 (kNm kX12_doorOf) ∈ lw_tbl := rnIn8 (List.mem_of_getElem? (i := 42) rfl)
theorem ln12_143 : Cond.methodLink (rnOwn 12) 143 (kNm kX12_isIn) ∈ lw_tbl := rnIn6 (List.mem_of_getElem? (i := 228) rfl)
theorem ln12_147 : Cond.methodLink (rnOwn 12) 147 (kNm kX12_isDoor) ∈ lw_tbl := rnIn7 (List.mem_of_getElem? (i := 0) rfl)
theorem ln12_151 : Cond.methodLink (rnOwn 12) 151 (kNm kX12_canSet) ∈ lw_tbl := rnIn6 (List.mem_of_getElem? (i := 236) rfl)
theorem ln12_154 : Cond.methodLink (rnOwn 12) 154 (kNm kX12_hasHealth) ∈ lw_tbl := rnIn7 (List.mem_of_getElem? (i := 4) rfl)
theorem ln12_161 : Cond.methodLink (rnOwn 12) 161 (kNm kX12_types) ∈ lw_tbl := rnIn7 (List.mem_of_getElem? (i := 16) rfl)
theorem ln12_167 : Cond.methodLink (rnOwn 12) 167 (kNm kX12_raw) ∈ lw_tbl := rnIn7 (List.mem_of_getElem? (i := 36) rfl)
theorem ln12_179 : Cond.methodLink (rnOwn 12) 179 (kNm kX12_isLetter) ∈ lw_tbl := rnIn7 (List.mem_of_getElem? (i := 40) rfl)
theorem ln12_182 : Cond.methodLink (rnOwn 12) 182 (kNm kX12_wordAt) ∈ lw_tbl := rnIn7 (List.mem_of_getElem? (i := 44) rfl)
theorem ln12_186 : Cond.methodLink (rnOwn 12) 186 (kNm kX12_isDigit) ∈ lw_tbl := rnIn7 (List.mem_of_getElem? (i := 48) rfl)
theorem ln12_189 : Cond.methodLink (rnOwn 12) 189 (kNm kX12_isMarkSign) ∈ lw_tbl := rnIn7 (List.mem_of_getElem? (i := 52) rfl)
theorem ln12_201 : Cond.methodLink (rnOwn 12) 201 (kNm kX12_canAsk) ∈ lw_tbl := rnIn7 (List.mem_of_getElem? (i := 124) rfl)
theorem ln12_204 : Cond.methodLink (rnOwn 12) 204 (kNm kX12_errs) ∈ lw_tbl := rnIn7 (List.mem_of_getElem? (i := 64) rfl)
theorem ln12_207 : Cond.methodLink (rnOwn 12) 207 (kNm kX12_emits) ∈ lw_tbl := rnIn7 (List.mem_of_getElem? (i := 128) rfl)
theorem ln12_211 : Cond.methodLink (rnOwn 12) 211 (kNm kX12_reads) ∈ lw_tbl := rnIn7 (List.mem_of_getElem? (i := 32) rfl)
theorem ln12_214 : Cond.methodLink (rnOwn 12) 214 (kNm kX12_readUnit) ∈ lw_tbl := rnIn7 (List.mem_of_getElem? (i := 120) rfl)
theorem ln12_218 : Cond.methodLink (rnOwn 12) 218 (kNm kX12_isSign) ∈ lw_tbl := rnIn7 (List.mem_of_getElem? (i := 84) rfl)
theorem ln12_221 : Cond.methodLink (rnOwn 12) 221 (kNm kX12_readProduct) ∈ lw_tbl := rnIn7 (List.mem_of_getElem? (i := 116) rfl)
theorem ln12_224 : Cond.methodLink (rnOwn 12) 224 (kNm kX12_readSum) ∈ lw_tbl := rnIn7 (List.mem_of_getElem? (i := 112) rfl)
theorem ln12_233 : Cond.methodLink (rnOwn 12) 233 (kNm kX12_isWord) ∈ lw_tbl := rnIn7 (List.mem_of_getElem? (i := 60) rfl)
theorem ln12_236 : Cond.methodLink (rnOwn 12) 236 (kNm kX12_waits) ∈ lw_tbl := rnIn7 (List.mem_of_getElem? (i := 136) rfl)
theorem ln12_239 : Cond.methodLink (rnOwn 12) 239 (kNm kX12_readCompared) ∈ lw_tbl := rnIn7 (List.mem_of_getElem? (i := 140) rfl)
theorem ln12_242 : Cond.methodLink (rnOwn 12) 242 (kNm kX12_settles) ∈ lw_tbl := rnIn7 (List.mem_of_getElem? (i := 144) rfl)
theorem ln12_245 : Cond.methodLink (rnOwn 12) 245 (kNm kX12_isLineWord) ∈ lw_tbl := rnIn7 (List.mem_of_getElem? (i := 108) rfl)
theorem ln12_249 : Cond.methodLink (rnOwn 12) 249 (kNm kX12_readAny) ∈ lw_tbl := rnIn7 (List.mem_of_getElem? (i := 132) rfl)
theorem ln12_255 : Cond.methodLink (rnOwn 12) 255 (kNm kX12_readNumber) ∈ lw_tbl := rnIn7 (List.mem_of_getElem? (i := 76) rfl)
theorem ln12_258 : Cond.methodLink (rnOwn 12) 258 (kNm kX12_readTold) ∈ lw_tbl := rnIn7 (List.mem_of_getElem? (i := 72) rfl)
theorem ln12_261 : Cond.methodLink (rnOwn 12) 261 (kNm kX12_readMark) ∈ lw_tbl := rnIn7 (List.mem_of_getElem? (i := 80) rfl)
theorem ln12_264 : Cond.methodLink (rnOwn 12) 264 (kNm kX12_readPostLine) ∈ lw_tbl := rnIn7 (List.mem_of_getElem? (i := 68) rfl)
theorem ln12_267 : Cond.methodLink (rnOwn 12) 267 (kNm kX12_takesStreet) ∈ lw_tbl := rnIn7 (List.mem_of_getElem? (i := 100) rfl)
theorem ln12_270 : Cond.methodLink (rnOwn 12) 270 (kNm kX12_readStreet) ∈ lw_tbl := rnIn7 (List.mem_of_getElem? (i := 96) rfl)
theorem ln12_273 : Cond.methodLink (rnOwn 12) 273 (kNm kX12_readPost) ∈ lw_tbl := rnIn7 (List.mem_of_getElem? (i := 56) rfl)
theorem ln12_276 : Cond.methodLink (rnOwn 12) 276 (kNm kX12_readRound) ∈ lw_tbl := rnIn7 (List.mem_of_getElem? (i := 88) rfl)
theorem ln12_279 : Cond.methodLink (rnOwn 12) 279 (kNm kX12_readStreets) ∈ lw_tbl := rnIn7 (List.mem_of_getElem? (i := 92) rfl)
theorem ln12_282 : Cond.methodLink (rnOwn 12) 282 (kNm kX12_readLaw) ∈ lw_tbl := rnIn7 (List.mem_of_getElem? (i := 104) rfl)
theorem ln12_297 : Cond.methodLink (rnOwn 12) 297 (kNm kX12_readsText) ∈ lw_tbl := rnIn7 (List.mem_of_getElem? (i := 28) rfl)
theorem ln12_300 : Cond.methodLink (rnOwn 12) 300 (kNm kX12_takesLaw) ∈ lw_tbl := rnIn7 (List.mem_of_getElem? (i := 148) rfl)
theorem ln12_303 : Cond.methodLink (rnOwn 12) 303 (kNm kX12_takesOther) ∈ lw_tbl := rnIn7 (List.mem_of_getElem? (i := 152) rfl)
theorem ln12_306 : Cond.methodLink (rnOwn 12) 306 (kNm kX12_twoOf) ∈ lw_tbl := rnIn7 (List.mem_of_getElem? (i := 216) rfl)
theorem ln12_309 : Cond.methodLink (rnOwn 12) 309 (kNm kX12_runs) ∈ lw_tbl := rnIn7 (List.mem_of_getElem? (i := 212) rfl)
theorem ln12_312 : Cond.methodLink (rnOwn 12) 312 (kNm kX12_health) ∈ lw_tbl := rnIn7 (List.mem_of_getElem? (i := 184) rfl)
theorem ln12_315 : Cond.methodLink (rnOwn 12) 315 (kNm kX12_lineOf) ∈ lw_tbl := rnIn7 (List.mem_of_getElem? (i := 208) rfl)
theorem ln12_318 : Cond.methodLink (rnOwn 12) 318 (kNm kX12_lawTells) ∈ lw_tbl := rnIn7 (List.mem_of_getElem? (i := 204) rfl)
theorem ln12_321 : Cond.methodLink (rnOwn 12) 321 (kNm kX12_asks) ∈ lw_tbl := rnIn7 (List.mem_of_getElem? (i := 196) rfl)
theorem ln12_325 : Cond.methodLink (rnOwn 12) 325 (kNm kX12_notes) ∈ lw_tbl := rnIn7 (List.mem_of_getElem? (i := 176) rfl)
theorem ln12_329 : Cond.methodLink (rnOwn 12) 329 (kNm kX12_looks) ∈ lw_tbl := rnIn8 (List.mem_of_getElem? (i := 6) rfl)
theorem ln12_332 : Cond.methodLink (rnOwn 12) 332 (kNm kX12_greater) ∈ lw_tbl := rnIn8 (List.mem_of_getElem? (i := 10) rfl)
theorem ln12_335 : Cond.methodLink (rnOwn 12) 335 (kNm kX12_changes) ∈ lw_tbl := rnIn8 (List.mem_of_getElem? (i := 2) rfl)
theorem ln12_338 : Cond.methodLink (rnOwn 12) 338 (kNm kX12_draw) ∈ lw_tbl := rnIn7 (List.mem_of_getElem? (i := 224) rfl)
theorem ln12_341 : Cond.methodLink (rnOwn 12) 341 (kNm kX12_asksOf) ∈ lw_tbl := rnIn7 (List.mem_of_getElem? (i := 192) rfl)
theorem ln12_344 : Cond.methodLink (rnOwn 12) 344 (kNm kX12_opensNow) ∈ lw_tbl := rnIn7 (List.mem_of_getElem? (i := 200) rfl)
theorem ln12_347 : Cond.methodLink (rnOwn 12) 347 (kNm kX12_isOpen) ∈ lw_tbl := rnIn7 (List.mem_of_getElem? (i := 220) rfl)
theorem ln12_350 : Cond.methodLink (rnOwn 12) 350 (kNm kX12_givesNow) ∈ lw_tbl := rnIn7 (List.mem_of_getElem? (i := 230) rfl)
theorem ln12_353 : Cond.methodLink (rnOwn 12) 353 (kNm kX12_lesser) ∈ lw_tbl := rnIn7 (List.mem_of_getElem? (i := 234) rfl)
theorem ln12_356 : Cond.methodLink (rnOwn 12) 356 (kNm kX12_isGiven) ∈ lw_tbl := rnIn7 (List.mem_of_getElem? (i := 238) rfl)
theorem ln12_359 : Cond.methodLink (rnOwn 12) 359 (kNm kX12_goesOut) ∈ lw_tbl := rnIn8 (List.mem_of_getElem? (i := 14) rfl)
theorem ln12_362 : Cond.methodLink (rnOwn 12) 362 (kNm kX12_tiresNow) ∈ lw_tbl := rnIn8 (List.mem_of_getElem? (i := 18) rfl)
theorem ln12_365 : Cond.methodLink (rnOwn 12) 365 (kNm kX12_keepsAhead) ∈ lw_tbl := rnIn7 (List.mem_of_getElem? (i := 164) rfl)
theorem ln12_368 : Cond.methodLink (rnOwn 12) 368 (kNm kX12_comes) ∈ lw_tbl := rnIn7 (List.mem_of_getElem? (i := 168) rfl)
theorem ln12_371 : Cond.methodLink (rnOwn 12) 371 (kNm kX12_brings) ∈ lw_tbl := rnIn7 (List.mem_of_getElem? (i := 188) rfl)
theorem ln12_377 : Cond.methodLink (rnOwn 12) 377 (kNm kX12_lies) ∈ lw_tbl := rnIn8 (List.mem_of_getElem? (i := 54) rfl)
theorem ln12_381 : Cond.methodLink (rnOwn 12) 381 (kNm kX12_morning) ∈ lw_tbl := rnIn8 (List.mem_of_getElem? (i := 34) rfl)
theorem ln12_384 : Cond.methodLink (rnOwn 12) 384 (kNm kX12_walksTo) ∈ lw_tbl := rnIn8 (List.mem_of_getElem? (i := 38) rfl)
theorem ln12_387 : Cond.methodLink (rnOwn 12) 387 (kNm kX12_lettersAge) ∈ lw_tbl := rnIn8 (List.mem_of_getElem? (i := 46) rfl)
theorem ln12_390 : Cond.methodLink (rnOwn 12) 390 (kNm kX12_evening) ∈ lw_tbl := rnIn8 (List.mem_of_getElem? (i := 50) rfl)
theorem ln12_393 : Cond.methodLink (rnOwn 12) 393 (kNm kX12_goesBy) ∈ lw_tbl := rnIn8 (List.mem_of_getElem? (i := 30) rfl)
theorem ln12_396 : Cond.methodLink (rnOwn 12) 396 (kNm kX12_lettersFor) ∈ lw_tbl := rnIn8 (List.mem_of_getElem? (i := 62) rfl)
theorem ln12_399 : Cond.methodLink (rnOwn 12) 399 (kNm kX12_thinks) ∈ lw_tbl := rnIn8 (List.mem_of_getElem? (i := 82) rfl)
theorem ln12_402 : Cond.methodLink (rnOwn 12) 402 (kNm kX12_endsThought) ∈ lw_tbl := rnIn8 (List.mem_of_getElem? (i := 86) rfl)
theorem ln12_409 : Cond.methodLink (rnOwn 12) 409 (kNm kX12_findsGoals) ∈ lw_tbl := rnIn8 (List.mem_of_getElem? (i := 94) rfl)
theorem ln12_412 : Cond.methodLink (rnOwn 12) 412 (kNm kX12_findsWays) ∈ lw_tbl := rnIn8 (List.mem_of_getElem? (i := 98) rfl)
theorem ln12_415 : Cond.methodLink (rnOwn 12) 415 (kNm kX12_leastTo) ∈ lw_tbl := rnIn8 (List.mem_of_getElem? (i := 103) rfl)
theorem ln12_418 : Cond.methodLink (rnOwn 12) 418 (kNm kX12_farthestFrom) ∈ lw_tbl := rnIn8 (List.mem_of_getElem? (i := 111) rfl)
theorem ln12_424 : Cond.methodLink (rnOwn 12) 424 (kNm kX12_behind) ∈ lw_tbl := rnIn8 (List.mem_of_getElem? (i := 127) rfl)
theorem ln12_427 : Cond.methodLink (rnOwn 12) 427 (kNm kX12_mostLeft) ∈ lw_tbl := rnIn8 (List.mem_of_getElem? (i := 123) rfl)
theorem ln12_430 : Cond.methodLink (rnOwn 12) 430 (kNm kX12_added) ∈ lw_tbl := rnIn8 (List.mem_of_getElem? (i := 139) rfl)
theorem ln12_433 : Cond.methodLink (rnOwn 12) 433 (kNm kX12_findsCarried) ∈ lw_tbl := rnIn8 (List.mem_of_getElem? (i := 135) rfl)
theorem ln12_439 : Cond.methodLink (rnOwn 12) 439 (kNm kX12_netOf) ∈ lw_tbl := rnIn8 (List.mem_of_getElem? (i := 156) rfl)
theorem ln12_442 : Cond.methodLink (rnOwn 12) 442 (kNm kX12_onesOf) ∈ lw_tbl := rnIn8 (List.mem_of_getElem? (i := 160) rfl)
theorem ln12_445 : Cond.methodLink (rnOwn 12) 445 (kNm kX12_fewestPayments) ∈ lw_tbl := rnIn8 (List.mem_of_getElem? (i := 152) rfl)
theorem ln12_451 : Cond.methodLink (rnOwn 12) 451 (kNm kX12_needOf) ∈ lw_tbl := rnIn8 (List.mem_of_getElem? (i := 180) rfl)
theorem ln12_457 : Cond.methodLink (rnOwn 12) 457 (kNm kX12_likelyOf) ∈ lw_tbl := rnIn8 (List.mem_of_getElem? (i := 192) rfl)
theorem ln12_460 : Cond.methodLink (rnOwn 12) 460 (kNm kX12_followsOf) ∈ lw_tbl := rnIn8 (List.mem_of_getElem? (i := 196) rfl)
theorem ln12_466 : Cond.methodLink (rnOwn 12) 466 (kNm kX12_changeUp) ∈ lw_tbl := rnIn8 (List.mem_of_getElem? (i := 212) rfl)
theorem ln12_469 : Cond.methodLink (rnOwn 12) 469 (kNm kX12_canBe) ∈ lw_tbl := rnIn8 (List.mem_of_getElem? (i := 208) rfl)
theorem ln12_472 : Cond.methodLink (rnOwn 12) 472 (kNm kX12_kindsFor) ∈ lw_tbl := rnIn8 (List.mem_of_getElem? (i := 216) rfl)
theorem ln12_482 : Cond.methodLink (rnOwn 12) 482 (kNm kX12_keeps) ∈ lw_tbl := rnIn8 (List.mem_of_getElem? (i := 233) rfl)
theorem ln12_488 : Cond.methodLink (rnOwn 12) 488 (kNm kX12_keepsMany) ∈ lw_tbl := rnIn8 (List.mem_of_getElem? (i := 237) rfl)
theorem ln12_491 : Cond.methodLink (rnOwn 12) 491 (kNm kX12_keepsTold) ∈ lw_tbl := rnIn9 (List.mem_of_getElem? (i := 1) rfl)
theorem ln12_494 : Cond.methodLink (rnOwn 12) 494 (kNm kX12_keepsLaw) ∈ lw_tbl := rnIn9 (List.mem_of_getElem? (i := 5) rfl)
theorem ln14_335 : Cond.methodLink (rnOwn 14) 335 (kNm kJ0_coder_7d493) ∈ lw_tbl := rnIn4 (List.mem_of_getElem? (i := 1) rfl)
theorem ln14_492 : Cond.methodLink (rnOwn 14) 492 (kNm kJ0_isLatin1_aae02) ∈ lw_tbl := rnIn3 (List.mem_of_getElem? (i := 231) rfl)
theorem ln14_495 : Cond.methodLink (rnOwn 14) 495 (kNm kJ1_charAt_3b067) ∈ lw_tbl := rnIn4 (List.mem_of_getElem? (i := 82) rfl)
theorem ln14_505 : Cond.methodLink (rnOwn 14) 505 (kNm kJ0_length_8abf5) ∈ lw_tbl := rnIn3 (List.mem_of_getElem? (i := 237) rfl)
theorem ln14_633 : Cond.methodLink (rnOwn 14) 633 (kNm kJ0_indexOf_7cf53) ∈ lw_tbl := rnIn3 (List.mem_of_getElem? (i := 227) rfl)
theorem ln14_637 : Cond.methodLink (rnOwn 14) 637 (kNm kJ1_indexOf_4cfef) ∈ lw_tbl := rnIn4 (List.mem_of_getElem? (i := 5) rfl)
theorem ln14_1059 : Cond.methodLink (rnOwn 14) 1059 (kNm kJ3_checkIndex_8e157) ∈ lw_tbl := rnIn4 (List.mem_of_getElem? (i := 88) rfl)
theorem ln14_1062 : Cond.methodLink (rnOwn 14) 1062 (kNm kJ3_checkFromToIndex_8c36e) ∈ lw_tbl := rnIn4 (List.mem_of_getElem? (i := 36) rfl)
theorem ln15_9 : Cond.methodLink (rnOwn 15) 9 (kNm kJ0_checkIndex_df160) ∈ lw_tbl := rnIn4 (List.mem_of_getElem? (i := 85) rfl)
theorem ln15_38 : Cond.methodLink (rnOwn 15) 38 (kNm kJ9_min_7cf53) ∈ lw_tbl := rnIn4 (List.mem_of_getElem? (i := 12) rfl)
theorem ln15_88 : Cond.methodLink (rnOwn 15) 88 (kNm kJ1_canEncode_9a6ad) ∈ lw_tbl := rnIn4 (List.mem_of_getElem? (i := 8) rfl)
theorem ln15_92 : Cond.methodLink (rnOwn 15) 92 (kNm kJ9_max_7cf53) ∈ lw_tbl := rnIn4 (List.mem_of_getElem? (i := 11) rfl)
theorem ln15_95 : Cond.methodLink (rnOwn 15) 95 (kNm kJ1_indexOfChar_4cfef) ∈ lw_tbl := rnIn4 (List.mem_of_getElem? (i := 13) rfl)
theorem ln17_13 : Cond.methodLink (rnOwn 17) 13 (kNm kJ7_rangeCheck_23922) ∈ lw_tbl := rnIn5 (List.mem_of_getElem? (i := 40) rfl)
end RnMeth
