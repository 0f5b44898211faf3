section PmTold2
theorem cnt_congr {f g : Nat → Int32} {v : Int32} : ∀ {p : Nat}, (∀ i, i < p → f i = g i) → cnt f v p = cnt g v p
  | 0, _ => rfl
  | p + 1, h => by
    show cnt f v p + _ = cnt g v p + _
    rw [cnt_congr (fun i hi => h i (by omega)), h p (by omega)]
theorem cnt_le (f : Nat → Int32) (v : Int32) : ∀ p, cnt f v p ≤ p
  | 0 => Nat.le_refl 0
  | p + 1 => by
    show cnt f v p + _ ≤ _
    have := cnt_le f v p
    split <;> omega
theorem kind_some (x : Int32) : fK_isKind x = some (fK_isWithin x 0 6) := by
  unfold fK_isKind
  rcases within_cases x 0 6 with ⟨w, -⟩ | ⟨w, -⟩ <;> simp [w]
theorem face_some (x : Int32) : fK_isFace x = some (fK_isWithin x (-9) 9) := by
  unfold fK_isFace
  rcases within_cases x (-9) 9 with ⟨w, -⟩ | ⟨w, -⟩ <;> simp [w]
theorem sim_owes {A B : Mm} (x y z : Int32) (h : RR A B) : Sim A B (fK_owes x y z A) (fM_owes x y z B) := by
  have h0 := h
  obtain ⟨-, -, hE, -⟩ := h0
  obtain ⟨eL, ⟨e1, ⟨p, p1, p2⟩, p3⟩, eR⟩ := hE
  have e1' : A 138 2 = nI p := e1.trans p2
  have e2 : mput B 217 0 0 217 49 = nI p := p2
  unfold Sim fK_owes fE_addDebt fM_owes
  refine go_bind.mpr ?_
  by_cases x0 : x = -1
  · refine Go.yes x0 (go_bind.mpr ?_)
    rw [fill_eq (by omega)]
    refine Go.some (Go.some (Go.some (Go.yes x0 (go_bind.mpr ?_))))
    rw [owes_fill]
    refine Go.some (Go.some ⟨rfl, fin_e h ?_ (fb_fill (fb_put (fb_rfl _ _) rfl) fun _ => rfl) (fb_fill (fb_put (fb_put (fb_rfl _ _) rfl) rfl) fun _ => rfl)⟩)
    refine ⟨?_, ⟨by simp [mfill, mput], ⟨0, by omega, by simp [mfill, mput]; rfl⟩, fun d hd => ?_⟩, ?_⟩
    · simpa [mput_s, mput_r, mfill_r] using eL
    · show mfill _ 140 12 0 140 d = mfill _ 244 12 0 244 d
      rw [mfill_in hd, mfill_in hd]
    · simpa [mput_s, mput_r, mfill_r] using eR
  refine Go.no x0 (go_bind.mpr ?_)
  have hno : ∀ c : Int32, c = 0 → Go (some ((-1 : Int32), A)) (fun a => Go (some (a.1, a.2)) (fun p => Go (some ((-1 : Int32), mput B 217 0 0)) (fun q => p.1 = q.1 ∧ RR p.2 q.2 ∧ KF A p.2 ∧ MF B q.2 ∧ CNs B q.2))) := fun _ _ => Go.some (Go.some (Go.some ⟨rfl, fin_0 h⟩))
  rcases within_cases x 0 11 with ⟨w, w1, w2⟩ | ⟨w, -⟩
  rotate_left
  · exact Go.yes w (Go.some (Go.yes rfl (Go.some (Go.some (Go.no x0 (Go.yes (by rw [isIn_eq, w]) (Go.some ⟨rfl, fin_0 h⟩)))))))
  refine Go.no (by rw [w]; decide) ?_
  rcases within_cases y 0 11 with ⟨v, v1, v2⟩ | ⟨v, -⟩
  rotate_left
  · exact Go.yes v (Go.some (Go.yes rfl (Go.some (Go.some (Go.no x0 (Go.no (by rw [isIn_eq, w]; decide) (Go.yes (by rw [isIn_eq, v]) (Go.some ⟨rfl, fin_0 h⟩))))))))
  refine Go.no (by rw [v]; decide) ?_
  by_cases xy : x = y
  · exact Go.yes xy (Go.some (Go.yes rfl (Go.some (Go.some (Go.no x0 (Go.no (by rw [isIn_eq, w]; decide) (Go.no (by rw [isIn_eq, v]; decide) (Go.yes xy (Go.some ⟨rfl, fin_0 h⟩)))))))))
  refine Go.no xy ?_
  rcases within_cases z 1 99 with ⟨u, u1, u2⟩ | ⟨u, -⟩
  rotate_left
  · exact Go.yes u (Go.some (Go.yes rfl (Go.some (Go.some (Go.no x0 (Go.no (by rw [isIn_eq, w]; decide) (Go.no (by rw [isIn_eq, v]; decide) (Go.no xy (Go.yes (by rw [isIn_eq, u]) (Go.some ⟨rfl, fin_0 h⟩))))))))))
  refine Go.no (by rw [u]; decide) (Go.some (Go.no (by decide) ?_))
  obtain ⟨a, rfl, a1, -⟩ := i32_ofs (x := x) (by simpa using w1)
  obtain ⟨b, rfl, b1, -⟩ := i32_ofs (x := y) (by simpa using v1)
  have ha : a < 12 := by have : Int32.toInt 11 = 11 := by decide
                         omega
  have hb : b < 12 := by have : Int32.toInt 11 = 11 := by decide
                         omega
  have hab : a ≠ b := fun e => xy (by rw [e])
  by_cases hp : p < 16
  · refine Go.yes (by rw [e1', lit_nI, nI_lt' (by omega) (by omega)]; exact hp) ?_
    have i1 : inb (nI a) 12 := (inb_nI (by omega)).mpr ha
    have i2 : inb (nI b) 12 := (inb_nI (by omega)).mpr hb
    refine Go.gd i1 (Go.gd i1 (Go.gd i2 (Go.gd i2 (Go.some (Go.some (Go.no x0 (Go.no (by rw [isIn_eq, w]; decide) (Go.no (by rw [isIn_eq, v]; decide) (Go.no xy (Go.no (by rw [isIn_eq, u]; decide) (Go.no (by rw [e2, lit_nI, nI_eq' (by omega) (by omega)]; omega) (Go.gd i1 (Go.gd i1 (Go.gd i2 (Go.gd i2 (Go.some ?_))))))))))))))))
    rw [jix_nI (by omega), jix_nI (by omega)]
    refine ⟨?_, fin_e h ?_ (fb_put (fb_put (fb_put (fb_rfl _ _) rfl) rfl) rfl) (fb_put (fb_put (fb_put (fb_put (fb_rfl _ _) rfl) rfl) rfl) rfl)⟩
    · simp [mput, e1', p2]
    · refine ⟨?_, ⟨?_, ⟨p + 1, by omega, ?_⟩, fun d hd => ?_⟩, ?_⟩
      · simpa [mput_s, mput_r] using eL
      · simp [mput, e1', p2]
      · simp [mput, p2, nI_1]
      · have q := p3 d hd
        have qa := p3 a ha
        have qb := p3 b hb
        simp only [Nat.reduceAdd] at q qa qb
        by_cases da : d = a
        · subst da
          simp [mput, hab, q]
        · by_cases db : d = b
          · subst db
            simp [mput, da, q]
          · simp [mput, da, db, q]
      · simpa [mput_s, mput_r] using eR
  · exact Go.no (by rw [e1', lit_nI, nI_lt' (by omega) (by omega)]; exact hp) (Go.some (Go.some (Go.no x0 (Go.no (by rw [isIn_eq, w]; decide) (Go.no (by rw [isIn_eq, v]; decide) (Go.no xy (Go.no (by rw [isIn_eq, u]; decide) (Go.yes (by rw [e2, lit_nI, nI_eq' (by omega) (by omega)]; omega) (Go.some ⟨rfl, fin_0 h⟩)))))))))
theorem sim_has {A B : Mm} (x y : Int32) (h : RR A B) : Sim A B (fK_has x y A) (fM_has x y B) := by
  have h0 := h
  obtain ⟨-, -, hE, -⟩ := h0
  obtain ⟨eA, eB, eC, eR⟩ := hE
  unfold Sim fK_has fM_has
  rcases within_cases x 0 25 with ⟨w, w1, w2⟩ | ⟨w, -⟩
  rotate_left
  · exact Go.yes w (Go.some (Go.yes (by rw [isIn_eq, w]) (Go.some ⟨rfl, fin_0 h⟩)))
  refine Go.no (by rw [w]; decide) ?_
  rcases within_cases y 0 9 with ⟨v, v1, v2⟩ | ⟨v, -⟩
  rotate_left
  · exact Go.yes v (Go.some (Go.no (by rw [isIn_eq, w]; decide) (Go.yes (by rw [isIn_eq, v]) (Go.some ⟨rfl, fin_0 h⟩))))
  refine Go.no (by rw [v]; decide) ?_
  obtain ⟨a, rfl, a1, -⟩ := i32_ofs (x := x) (by simpa using w1)
  obtain ⟨b, rfl, b1, -⟩ := i32_ofs (x := y) (by simpa using v1)
  have ha : a < 26 := by have : Int32.toInt 25 = 25 := by decide
                         omega
  have hb : b ≤ 9 := by have : Int32.toInt 9 = 9 := by decide
                        omega
  have i1 : inb (nI a) 26 := (inb_nI (by omega)).mpr ha
  refine Go.gd i1 (Go.some (Go.no (by rw [isIn_eq, w]; decide) (Go.no (by rw [isIn_eq, v]; decide) (Go.gd i1 (Go.some ⟨rfl, ?_⟩)))))
  rw [jix_nI (by omega)]
  refine fin_e h ?_ (fb_put (fb_rfl _ _) rfl) (fb_put (fb_put (fb_rfl _ _) rfl) rfl)
  refine ⟨?_, ?_, fun k hk => ?_, ?_⟩
  · simpa [mput_s, mput_r] using eA
  · simpa [mput_s, mput_r] using eB
  · have q := eC k hk
    by_cases ka : k = a
    · subst ka; simp [mput]; exact ⟨b, hb, rfl⟩
    · simp [mput, ka]; simpa using q
  · simpa [mput_s, mput_r] using eR
theorem sim_spell {A B : Mm} (x : Int32) (h : RR A B) : Sim A B (fK_spell x A) (fM_spell x B) := by
  have h0 := h
  obtain ⟨-, -, hE, -⟩ := h0
  obtain ⟨eA, eB, eC, ⟨e1, p, p1, p2, p3, p4⟩, eR⟩ := hE
  have e1' : A 138 5 = nI p := e1.trans p2
  have e2 : mput B 217 0 0 217 53 = nI p := p2
  unfold Sim fK_spell fE_addSpelled fM_spell
  refine go_bind.mpr ?_
  by_cases x0 : x = -1
  · refine Go.yes x0 (go_bind.mpr ?_)
    rw [fill_eq (by omega)]
    refine Go.some (Go.some (Go.some (Go.yes x0 (Go.some ⟨rfl, fin_e h ?_ (fb_fill (fb_put (fb_rfl _ _) rfl) fun _ => rfl) (fb_put (fb_put (fb_rfl _ _) rfl) rfl)⟩))))
    refine ⟨?_, ?_, ?_, ⟨by simp [mfill, mput], 0, by omega, by simp [mput]; rfl, fun i hi => by omega, fun l hl => ?_⟩, ?_⟩
    · simpa [mput_s, mput_r, mfill_r] using eA
    · simpa [mput_s, mput_r, mfill_r] using eB
    · simpa [mput_s, mput_r, mfill_r] using eC
    · show mfill _ 142 26 0 142 l = _
      rw [mfill_in hl]; rfl
    · simpa [mput_s, mput_r, mfill_r] using eR
  refine Go.no x0 ?_
  rcases within_cases x 0 25 with ⟨w, w1, w2⟩ | ⟨w, -⟩
  rotate_left
  · exact Go.yes w (Go.some (Go.some (Go.no x0 (Go.yes (by rw [isIn_eq, w]) (Go.some ⟨rfl, fin_0 h⟩)))))
  refine Go.no (by rw [w]; decide) ?_
  obtain ⟨a, rfl, a1, -⟩ := i32_ofs (x := x) (by simpa using w1)
  have ha : a < 26 := by have : Int32.toInt 25 = 25 := by decide
                         omega
  have i1 : inb (nI a) 26 := (inb_nI (by omega)).mpr ha
  by_cases hp : p < 8
  · refine Go.yes (by rw [e1', lit_nI, nI_lt' (by omega) (by omega)]; exact hp) (Go.gd i1 (Go.gd i1 (Go.some (Go.some (Go.no x0 (Go.no (by rw [isIn_eq, w]; decide) (Go.no (by rw [e2, lit_nI, nI_eq' (by omega) (by omega)]; omega) (Go.gd (by rw [e2, inb_nI (by omega)]; exact hp) (Go.some ?_)))))))))
    have q2 : jix (mput B 217 0 0 217 53) = p := by rw [e2, jix_nI (by omega)]
    rw [jix_nI (by omega)]
    simp only [q2]
    refine ⟨?_, fin_e h ?_ (fb_put (fb_put (fb_rfl _ _) rfl) rfl) (fb_put (fb_put (fb_put (fb_rfl _ _) rfl) rfl) rfl)⟩
    · simp [mput, e1', p2]
    · refine ⟨?_, ?_, ?_, ⟨?_, p + 1, by omega, ?_, fun i hi => ?_, fun l hl => ?_⟩, ?_⟩
      · simpa [mput_s, mput_r] using eA
      · simpa [mput_s, mput_r] using eB
      · simpa [mput_s, mput_r] using eC
      · simp [mput, e1', p2]
      · simp [mput, p2, nI_1]
      · by_cases hi2 : i = p
        · subst hi2; exact ⟨a, ha, by simp [mput]⟩
        · obtain ⟨l, l1, l2⟩ := p3 i (by omega)
          exact ⟨l, l1, by simp [mput, hi2]; exact l2⟩
      · have q := p4 l hl
        have c1 : cnt (mput (mput (mput B 217 0 0) 247 p (nI a)) 217 53 (mput (mput B 217 0 0) 247 p (nI a) 217 53 + 1) 247) (nI l) p = cnt (B 247) (nI l) p := cnt_congr fun i hi => by simp [mput, show i ≠ p by omega]
        show _ = nI (cnt _ _ p + _)
        rw [c1]
        simp only [Nat.reduceAdd] at q
        by_cases la : l = a
        · subst la
          simp [mput, q, nI_1]
        · have la' : ¬ nI a = nI l := by rw [nI_eq' (by omega) (by omega)]; omega
          simp [mput, q, la, la']
      · simpa [mput_s, mput_r] using eR
  · exact Go.no (by rw [e1', lit_nI, nI_lt' (by omega) (by omega)]; exact hp) (Go.some (Go.some (Go.no x0 (Go.no (by rw [isIn_eq, w]; decide) (Go.yes (by rw [e2, lit_nI, nI_eq' (by omega) (by omega)]; omega) (Go.some ⟨rfl, fin_0 h⟩))))))
theorem sim_answer {A B : Mm} (x y : Int32) (h : RR A B) : Sim A B (fK_answer x y A) (fM_answer x y B) := by
  have h0 := h
  obtain ⟨-, -, hE, -⟩ := h0
  obtain ⟨eA, eB, eC, eD, ⟨e1, ⟨p, p1, p2⟩, p3⟩, eR⟩ := hE
  have e1' : A 138 7 = nI p := e1.trans p2
  have e2 : mput B 217 0 0 217 55 = nI p := p2
  unfold Sim fK_answer fE_addAnswer fM_answer
  refine go_bind.mpr ?_
  by_cases x0 : x = -1
  · refine Go.yes x0 (go_bind.mpr ?_)
    rw [fill_eq (by omega)]
    refine Go.some (Go.some (Go.some (Go.yes x0 (go_bind.mpr ?_))))
    rw [answer_fill]
    refine Go.some (Go.some ⟨rfl, fin_e h ?_ (fb_fill (fb_put (fb_rfl _ _) rfl) fun _ => rfl) (fb_fill (fb_put (fb_put (fb_rfl _ _) rfl) rfl) fun _ => rfl)⟩)
    refine ⟨?_, ?_, ?_, ?_, ⟨by simp [mfill, mput], ⟨0, by omega, by simp [mfill, mput]; rfl⟩, fun d hd => ?_⟩, ?_⟩
    · simpa [mput_s, mput_r, mfill_r] using eA
    · simpa [mput_s, mput_r, mfill_r] using eB
    · simpa [mput_s, mput_r, mfill_r] using eC
    · simpa [mput_s, mput_r, mfill_r] using eD
    · show mfill _ 143 49 0 143 d = mfill _ 248 49 0 248 d
      rw [mfill_in hd, mfill_in hd]
    · simpa [mput_s, mput_r, mfill_r] using eR
  refine Go.no x0 (go_bind.mpr ?_)
  rw [kind_some]
  rcases within_cases x 0 6 with ⟨w, w1, w2⟩ | ⟨w, -⟩
  rotate_left
  · exact Go.some (Go.yes w (Go.some (Go.some (Go.no x0 (Go.yes (by rw [isIn_eq, w]) (Go.some ⟨rfl, fin_0 h⟩))))))
  refine Go.some (Go.no (by rw [w]; decide) (go_bind.mpr ?_))
  rw [kind_some]
  rcases within_cases y 0 6 with ⟨v, v1, v2⟩ | ⟨v, -⟩
  rotate_left
  · exact Go.some (Go.yes v (Go.some (Go.some (Go.no x0 (Go.no (by rw [isIn_eq, w]; decide) (Go.yes (by rw [isIn_eq, v]) (Go.some ⟨rfl, fin_0 h⟩)))))))
  refine Go.some (Go.no (by rw [v]; decide) ?_)
  obtain ⟨a, rfl, a1, -⟩ := i32_ofs (x := x) (by simpa using w1)
  obtain ⟨b, rfl, b1, -⟩ := i32_ofs (x := y) (by simpa using v1)
  have ha : a < 7 := by have : Int32.toInt 6 = 6 := by decide
                        omega
  have hb : b < 7 := by have : Int32.toInt 6 = 6 := by decide
                        omega
  have i1 : nI a * 7 + nI b = nI (a * 7 + b) := by rw [lit_nI, nI_mul', nI_add]
  have i2 : 7 * nI a + nI b = nI (a * 7 + b) := by rw [lit_nI, nI_mul', nI_add, Nat.mul_comm]
  have i3 : inb (nI (a * 7 + b)) 49 := (inb_nI (by omega)).mpr (by omega)
  by_cases hp : p < 12
  · refine Go.yes (by rw [e1', lit_nI, nI_lt' (by omega) (by omega)]; exact hp) (Go.gd (by rw [i1]; exact i3) (Go.gd (by rw [i1]; exact i3) (Go.some (Go.some (Go.no x0 (Go.no (by rw [isIn_eq, w]; decide) (Go.no (by rw [isIn_eq, v]; decide) (Go.no (by rw [e2, lit_nI, nI_eq' (by omega) (by omega)]; omega) (Go.gd (by rw [i2]; exact i3) (Go.gd (by rw [i2]; exact i3) (Go.some ?_)))))))))))
    rw [i1, i2, jix_nI (by omega)]
    refine ⟨?_, fin_e h ?_ (fb_put (fb_put (fb_rfl _ _) rfl) rfl) (fb_put (fb_put (fb_put (fb_rfl _ _) rfl) rfl) rfl)⟩
    · simp [mput, e1', p2]
    · refine ⟨?_, ?_, ?_, ?_, ⟨?_, ⟨p + 1, by omega, ?_⟩, fun d hd => ?_⟩, ?_⟩
      · simpa [mput_s, mput_r] using eA
      · simpa [mput_s, mput_r] using eB
      · simpa [mput_s, mput_r] using eC
      · simpa [mput_s, mput_r] using eD
      · simp [mput, e1', p2]
      · simp [mput, p2, nI_1]
      · have q := p3 d hd
        simp only [Nat.reduceAdd] at q
        by_cases da : d = a * 7 + b
        · subst da; simp [mput, q]
        · simp [mput, da, q]
      · simpa [mput_s, mput_r] using eR
  · exact Go.no (by rw [e1', lit_nI, nI_lt' (by omega) (by omega)]; exact hp) (Go.some (Go.some (Go.no x0 (Go.no (by rw [isIn_eq, w]; decide) (Go.no (by rw [isIn_eq, v]; decide) (Go.yes (by rw [e2, lit_nI, nI_eq' (by omega) (by omega)]; omega) (Go.some ⟨rfl, fin_0 h⟩)))))))
theorem sim_face {A B : Mm} (x y : Int32) (h : RR A B) : Sim A B (fK_face x y A) (fM_face x y B) := by
  have h0 := h
  obtain ⟨-, -, hE, -⟩ := h0
  obtain ⟨eA, eB, eC, eD, eF, e1, p, p1, p2, p3⟩ := hE
  have e1' : A 138 9 = nI p := e1.trans p2
  have e2 : mput B 217 0 0 217 57 = nI p := p2
  unfold Sim fK_face fE_addChange fM_face
  refine go_bind.mpr ?_
  by_cases x0 : x = -1
  · refine Go.yes x0 (Go.some (Go.some (Go.yes x0 (Go.some ⟨rfl, fin_e h ?_ (fb_put (fb_rfl _ _) rfl) (fb_put (fb_put (fb_rfl _ _) rfl) rfl)⟩))))
    refine ⟨?_, ?_, ?_, ?_, ?_, rfl, 0, by omega, rfl, fun i hi => by omega⟩
    · simpa [mput_s, mput_r] using eA
    · simpa [mput_s, mput_r] using eB
    · simpa [mput_s, mput_r] using eC
    · simpa [mput_s, mput_r] using eD
    · simpa [mput_s, mput_r] using eF
  refine Go.no x0 (go_bind.mpr ?_)
  rcases within_cases x 0 63 with ⟨w, w1, w2⟩ | ⟨w, -⟩
  rotate_left
  · exact Go.yes w (Go.some (Go.yes rfl (Go.some (Go.some (Go.no x0 (Go.yes (by rw [isIn_eq, w]) (Go.some ⟨rfl, fin_0 h⟩)))))))
  refine Go.no (by rw [w]; decide) ?_
  rcases within_cases y (-2) 2 with ⟨v, v1, v2⟩ | ⟨v, -⟩
  rotate_left
  · exact Go.yes v (Go.some (Go.yes rfl (Go.some (Go.some (Go.no x0 (Go.no (by rw [isIn_eq, w]; decide) (Go.yes (by rw [isIn_eq, v]) (Go.some ⟨rfl, fin_0 h⟩))))))))
  refine Go.no (by rw [v]; decide) (Go.some (Go.no (by decide) ?_))
  obtain ⟨a, rfl, a1, -⟩ := i32_ofs (x := x) (by simpa using w1)
  have ha : a < 64 := by have : Int32.toInt 63 = 63 := by decide
                         omega
  by_cases hp : p < 8
  · have q1 : jix (A 138 9) = p := by rw [e1', jix_nI (by omega)]
    have q2 : jix (mput B 217 0 0 217 57) = p := by rw [e2, jix_nI (by omega)]
    have q3 : ∀ k v, mput A 144 k v 138 9 = nI p := fun k v => by rw [mput_r (by omega)]; exact e1'
    have q4 : ∀ k v, mput (mput B 217 0 0) 249 k v 217 57 = nI p := fun k v => by rw [mput_r (by omega)]; exact e2
    refine Go.yes (by rw [e1', lit_nI, nI_lt' (by omega) (by omega)]; exact hp) (Go.gd (by rw [e1', inb_nI (by omega)]; exact hp) (Go.gd (by rw [q3, inb_nI (by omega)]; exact hp) (Go.some (Go.some (Go.no x0 (Go.no (by rw [isIn_eq, w]; decide) (Go.no (by rw [isIn_eq, v]; decide) (Go.no (by rw [e2, lit_nI, nI_eq' (by omega) (by omega)]; omega) (Go.gd (by rw [e2, inb_nI (by omega)]; exact hp) (Go.gd (by rw [q4, inb_nI (by omega)]; exact hp) (Go.some ?_)))))))))))
    have jp : jix (nI p) = p := jix_nI (by omega)
    simp only [q3, q4, q1, q2, jp]
    refine ⟨?_, fin_e h ?_ (fb_put (fb_put (fb_put (fb_rfl _ _) rfl) rfl) rfl) (fb_put (fb_put (fb_put (fb_put (fb_rfl _ _) rfl) rfl) rfl) rfl)⟩
    · simp [mput, e1', p2]
    · refine ⟨?_, ?_, ?_, ?_, ?_, ?_, p + 1, by omega, ?_, fun i hi => ?_⟩
      · simpa [mput_s, mput_r] using eA
      · simpa [mput_s, mput_r] using eB
      · simpa [mput_s, mput_r] using eC
      · simpa [mput_s, mput_r] using eD
      · simpa [mput_s, mput_r] using eF
      · simp [mput, e1', p2]
      · simp [mput, p2, nI_1]
      · by_cases hi2 : i = p
        · subst hi2
          simp [mput]
          exact ⟨⟨a, ha, rfl⟩, v1, v2⟩
        · have := p3 i (by omega)
          simp [mput, hi2]
          simpa using this
  · exact Go.no (by rw [e1', lit_nI, nI_lt' (by omega) (by omega)]; exact hp) (Go.some (Go.some (Go.no x0 (Go.no (by rw [isIn_eq, w]; decide) (Go.no (by rw [isIn_eq, v]; decide) (Go.yes (by rw [e2, lit_nI, nI_eq' (by omega) (by omega)]; omega) (Go.some ⟨rfl, fin_0 h⟩)))))))
end PmTold2
