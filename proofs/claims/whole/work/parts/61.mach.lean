section RnT
set_option maxRecDepth 20000 in
theorem nfD_beginRound {P : Px} {w : Nat} (hw : Dr w) {M : Mm} {rr : Mm} (h : fD_beginRound w M = rr) {r : Option Value × Sg} (hr : r = (none, S rr)) : RN P 1 kX1_beginRound 0 [(0, .ref w)] [] (S M) r := by
  unfold fD_beginRound at h
  refine sb_in [(0, .aload_n 0, 1), (1, .getfield 21, 3), (4, .iconst 0, 1), (5, .aload_n 0, 1), (6, .getfield 24, 3), (9, .iconst 0, 1), (10, .bipush 12, 2), (12, .invokestatic 31, 3), (15, .return_, 1)] 16 (by decide +kernel) ?_
  refine sb_aload_n rfl ?_
  refine ss_getR g1_21 (hDr0 hw) (rDr4 hw) ?_
  refine sb_iconst cI0 ?_
  refine sb_aload_n rfl ?_
  refine ss_getR g1_24 (hDr0 hw) (rDr5 hw) ?_
  refine sb_iconst cI0 ?_
  refine sb_bipush cB12 ?_
  refine ss_copyL 12 lc1_31 acN acS acI (hDr4 hw) (hDr5 hw) (Nat.succ_ne_zero _) iL12 rfl rfl (by decide) rfl ?_
  subst h
  subst hr
  refine sb_return ?_
  exact rfl
theorem tfD_beginRound {P : Px} {w : Nat} (hw : Dr w) {M : Mm} : EX P 1 kX1_beginRound [.ref w] (S M) (none, S (fD_beginRound w M)) := ex_of oX1_beginRound (Nat.le_of_ble_eq_true rfl) (nfD_beginRound hw rfl rfl)
set_option maxRecDepth 20000 in
theorem nfW_visit {P : Px} {w : Nat} (hw : Wd w) {x1 : Int32} {M : Mm} {rr : (Int32 × Mm)} (h : fW_visit w x1 M = some rr) {r : Option Value × Sg} (hr : r = (some (.int rr.1), S rr.2)) : RN P 6 kX10_visit 0 [(0, .ref w), (1, .int x1), (2, .ref 124)] [] (S M) r := by
  unfold fW_visit at h
  refine sb_in [(0, .iconst 0, 1), (1, .istore_n 3, 1), (2, .iconst 0, 1), (3, .istore 4, 2), (5, .aload_n 0, 1), (6, .getfield 21, 3), (9, .getfield 193, 3), (12, .istore 5, 2)] 14 (by decide +kernel) ?_
  refine sb_iconst cI0 ?_
  refine sb_istore_n (by decide) rfl ?_
  refine sb_iconst cI0 ?_
  refine sb_istore (by decide) rfl ?_
  refine sb_aload_n rfl ?_
  refine ss_getR g10_21 (hWd0 hw) (rWd1 hw) ?_
  refine ss_getI g10_193 (hWd7 hw) ?_
  refine sb_istore (by decide) rfl ?_
  refine sb_end ?_
  obtain ⟨e14, hl14, h⟩ := bd h
  refine rn_sub [0, 1, 2, 3, 4, 5] rfl ?_
  refine lp_ind (P := fun s => RN P 6 kX10_visit 14 [(0, .ref w), (1, .int x1), (2, .ref 124), (3, .int s.1), (4, .int s.2.1), (5, .int s.2.2.1)] [] (S s.2.2.2) r) (E := fun p => RN P 6 kX10_visit 87 [(3, .int p.1)] [] (S p.2) r) ?_ _ _ _ hl14 ?_
  · intro s qx h hc
    obtain ⟨x3, x4, x5, M⟩ := s
    replace h : fW_visit_b14 w x1 x3 x4 x5 M = some qx := h
    show RN P 6 kX10_visit 14 [(0, .ref w), (1, .int x1), (2, .ref 124), (3, .int x3), (4, .int x4), (5, .int x5)] [] (S M) r
    unfold fW_visit_b14 at h
    refine sb_in [(14, .iload 5, 2), (16, .ifCond .le 71, 3)] 19 (by decide +kernel) ?_
    refine sb_iload rfl ?_
    rcases ife h with ⟨cz11, h⟩ | ⟨cz11, h⟩
    · refine sb_if_le_t 87 cz11 (by decide) ?_
      cases h
      exact rn_sub [3] rfl hc
    · refine sb_if_le_f 87 cz11 (by decide) ?_
      refine sb_in [(19, .aload_n 0, 1), (20, .getfield 21, 3), (23, .getfield 80, 3), (26, .iload 4, 2), (28, .iaload, 1), (29, .iload_n 1, 1), (30, .if_icmp .ne 23, 3)] 33 (by decide +kernel) ?_
      refine sb_aload_n rfl ?_
      refine ss_getR g10_21 (hWd0 hw) (rWd1 hw) ?_
      refine ss_getR g10_80 (hWd7 hw) (rWd7_3 hw) ?_
      refine sb_iload rfl ?_
      obtain ⟨hgz2, h⟩ := gd h
      refine ss_iald (hWd9 hw) hgz2 ?_
      refine sb_iload_n rfl ?_
      have hJ54 : RN P 6 kX10_visit 54 [(0, .ref w), (1, .int x1), (2, .ref 124), (3, .int x3), (4, .int x4), (5, .int x5)] [.int (if (M (w + 9) (jix x4)) = x1 then (if 24 ≤ (M w 9) then (0 : Int32) else (if (M w 5) ≤ 0 then (0 : Int32) else 1)) else 0)] (S M) r := by
        refine sb_in [(54, .istore 6, 2), (56, .iload 6, 2), (58, .ifCond .eq 20, 3)] 61 (by decide +kernel) ?_
        refine sb_istore (by decide) rfl ?_
        refine sb_iload rfl ?_
        obtain ⟨⟨yz6, yz7, Mz8⟩, hj81, h⟩ := bd h
        have hJ81 : RN P 6 kX10_visit 81 [(0, .ref w), (1, .int x1), (2, .ref 124), (3, .int yz6), (4, .int yz7), (5, .int x5)] [] (S Mz8) r := by
          refine sb_in [(81, .iinc 5 (-1), 3), (84, .goto (-70), 3)] 87 (by decide +kernel) ?_
          refine ss_iinc cIm1 rfl (by decide) rfl ?_
          refine sb_goto 14 (by decide) ?_
          cases h
          exact rn_sub [0, 1, 2, 3, 4, 5] rfl hc
        clear h
        have h := hj81
        clear hj81
        rcases ife h with ⟨cz12, h⟩ | ⟨cz12, h⟩
        · refine sb_if_eq_t 78 cz12 (by decide) ?_
          refine sb_in [(78, .iinc 4 1, 3)] 81 (by decide +kernel) ?_
          refine ss_iinc cI1 rfl (by decide) rfl ?_
          refine sb_end ?_
          cases h
          exact rn_sub [0, 1, 2, 3, 4, 5] rfl hJ81
        · refine sb_if_eq_f 78 cz12 (by decide) ?_
          refine sb_in [(61, .aload_n 0, 1), (62, .iload 4, 2), (64, .aload_n 2, 1), (65, .invokevirtual 196, 3), (68, .iconst (-1), 1), (69, .if_icmp .eq 9, 3)] 72 (by decide +kernel) ?_
          refine sb_aload_n rfl ?_
          refine sb_iload rfl ?_
          refine sb_aload_n rfl ?_
          obtain ⟨qz5, hez4, h⟩ := bd h
          refine sb_callVi 2 rfl oX10_bringAt ln10_196 vX10_bringAt (rc_own (hWd0 hw).1 (S_lt (hWd0 hw).2) (by decide)) (rnCk_of (by decide +kernel) rfl) (tfW_bringAt hw hez4) ?_
          refine sb_iconst cIm1 ?_
          rcases ife h with ⟨cz13, h⟩ | ⟨cz13, h⟩
          · refine sb_icmp_eq_t 78 cz13 (by decide) ?_
            refine sb_in [(78, .iinc 4 1, 3)] 81 (by decide +kernel) ?_
            refine ss_iinc cI1 rfl (by decide) rfl ?_
            refine sb_end ?_
            cases h
            exact rn_sub [0, 1, 2, 3, 4, 5] rfl hJ81
          · refine sb_icmp_eq_f 78 cz13 (by decide) ?_
            refine sb_in [(72, .iinc 3 1, 3), (75, .goto 6, 3)] 78 (by decide +kernel) ?_
            refine ss_iinc cI1 rfl (by decide) rfl ?_
            refine sb_goto 81 (by decide) ?_
            cases h
            exact rn_sub [0, 1, 2, 3, 4, 5] rfl hJ81
      rcases Decidable.em ((M (w + 9) (jix x4)) = x1) with cz14 | cz14
      · refine sb_icmp_ne_f 53 cz14 (by decide) ?_
        refine sb_in [(33, .aload_n 0, 1), (34, .getfield 69, 3), (37, .bipush 24, 2), (39, .if_icmp .ge 14, 3)] 42 (by decide +kernel) ?_
        refine sb_aload_n rfl ?_
        refine ss_getI g10_69 (hWd0 hw) ?_
        refine sb_bipush cB24 ?_
        rcases Decidable.em (24 ≤ (M w 9)) with cz15 | cz15
        · refine sb_icmp_ge_t 53 cz15 (by decide) ?_
          refine sb_in [(53, .iconst 0, 1)] 54 (by decide +kernel) ?_
          refine sb_iconst cI0 ?_
          refine sb_end ?_
          have hq := hJ54
          simp only [if_pos cz14] at hq
          simp only [if_pos cz15] at hq
          exact rn_sub [0, 1, 2, 3, 4, 5] rfl hq
        · refine sb_icmp_ge_f 53 cz15 (by decide) ?_
          refine sb_in [(42, .aload_n 0, 1), (43, .getfield 29, 3), (46, .ifCond .le 7, 3)] 49 (by decide +kernel) ?_
          refine sb_aload_n rfl ?_
          refine ss_getI g10_29 (hWd0 hw) ?_
          rcases Decidable.em ((M w 5) ≤ 0) with cz16 | cz16
          · refine sb_if_le_t 53 cz16 (by decide) ?_
            refine sb_in [(53, .iconst 0, 1)] 54 (by decide +kernel) ?_
            refine sb_iconst cI0 ?_
            refine sb_end ?_
            have hq := hJ54
            simp only [if_pos cz14] at hq
            simp only [if_neg cz15] at hq
            simp only [if_pos cz16] at hq
            exact rn_sub [0, 1, 2, 3, 4, 5] rfl hq
          · refine sb_if_le_f 53 cz16 (by decide) ?_
            refine sb_in [(49, .iconst 1, 1), (50, .goto 4, 3)] 53 (by decide +kernel) ?_
            refine sb_iconst cI1 ?_
            refine sb_goto 54 (by decide) ?_
            have hq := hJ54
            simp only [if_pos cz14] at hq
            simp only [if_neg cz15] at hq
            simp only [if_neg cz16] at hq
            exact rn_sub [0, 1, 2, 3, 4, 5] rfl hq
      · refine sb_icmp_ne_t 53 cz14 (by decide) ?_
        refine sb_in [(53, .iconst 0, 1)] 54 (by decide +kernel) ?_
        refine sb_iconst cI0 ?_
        refine sb_end ?_
        have hq := hJ54
        simp only [if_neg cz14] at hq
        exact rn_sub [0, 1, 2, 3, 4, 5] rfl hq
  · clear hl14
    obtain ⟨yz9, Mz10⟩ := e14
    show RN P 6 kX10_visit 87 [(3, .int yz9)] [] (S Mz10) r
    refine sb_in [(87, .iload_n 3, 1), (88, .ireturn, 1)] 89 (by decide +kernel) ?_
    refine sb_iload_n rfl ?_
    cases h
    subst hr
    refine sb_ireturn ?_
    exact ⟨.int, rfl, rfl⟩
theorem tfW_visit {P : Px} {w : Nat} (hw : Wd w) {x1 : Int32} {M : Mm} {rr : (Int32 × Mm)} (h : fW_visit w x1 M = some rr) : EX P 6 kX10_visit [.ref w, .int x1, .ref 124] (S M) (some (.int rr.1), S rr.2) := ex_of oX10_visit (Nat.le_of_ble_eq_true rfl) (nfW_visit hw h rfl)
set_option maxRecDepth 20000 in
theorem nfW_ageLetters {P : Px} {w : Nat} (hw : Wd w) {M : Mm} {rr : Mm} (h : fW_ageLetters w M = some rr) {r : Option Value × Sg} (hr : r = (none, S rr)) : RN P 2 kX10_ageLetters 0 [(0, .ref w)] [] (S M) r := by
  unfold fW_ageLetters at h
  refine sb_in [(0, .iconst 0, 1), (1, .istore_n 1, 1), (2, .aload_n 0, 1), (3, .getfield 21, 3), (6, .getfield 193, 3), (9, .istore_n 2, 1)] 10 (by decide +kernel) ?_
  refine sb_iconst cI0 ?_
  refine sb_istore_n (by decide) rfl ?_
  refine sb_aload_n rfl ?_
  refine ss_getR g10_21 (hWd0 hw) (rWd1 hw) ?_
  refine ss_getI g10_193 (hWd7 hw) ?_
  refine sb_istore_n (by decide) rfl ?_
  refine sb_end ?_
  obtain ⟨e10, hl10, h⟩ := bd h
  refine rn_sub [0, 1, 2] rfl ?_
  refine lp_ind (P := fun s => RN P 2 kX10_ageLetters 10 [(0, .ref w), (1, .int s.1), (2, .int s.2.1)] [] (S s.2.2) r) (E := fun p => RN P 2 kX10_ageLetters 94 [] [] (S p) r) ?_ _ _ _ hl10 ?_
  · intro s qx h hc
    obtain ⟨x1, x2, M⟩ := s
    replace h : fW_ageLetters_b10 w x1 x2 M = some qx := h
    show RN P 2 kX10_ageLetters 10 [(0, .ref w), (1, .int x1), (2, .int x2)] [] (S M) r
    unfold fW_ageLetters_b10 at h
    refine sb_in [(10, .iload_n 2, 1), (11, .ifCond .le 83, 3)] 14 (by decide +kernel) ?_
    refine sb_iload_n rfl ?_
    rcases ife h with ⟨cz16, h⟩ | ⟨cz16, h⟩
    · refine sb_if_le_t 94 cz16 (by decide) ?_
      cases h
      exact rn_sub [] rfl hc
    · refine sb_if_le_f 94 cz16 (by decide) ?_
      refine sb_in [(14, .aload_n 0, 1), (15, .getfield 21, 3), (18, .getfield 96, 3), (21, .iload_n 1, 1), (22, .dup2, 1), (23, .iaload, 1), (24, .iconst 1, 1), (25, .iadd, 1), (26, .iastore, 1), (27, .aload_n 0, 1), (28, .getfield 21, 3), (31, .getfield 96, 3), (34, .iload_n 1, 1), (35, .iaload, 1), (36, .bipush 9, 2), (38, .if_icmp .ge 9, 3)] 41 (by decide +kernel) ?_
      refine sb_aload_n rfl ?_
      refine ss_getR g10_21 (hWd0 hw) (rWd1 hw) ?_
      refine ss_getR g10_96 (hWd7 hw) (rWd7_6 hw) ?_
      refine sb_iload_n rfl ?_
      refine sb_dup2 rfl rfl ?_
      obtain ⟨hgz2, h⟩ := gd h
      refine ss_iald (hWd12 hw) hgz2 ?_
      refine sb_iconst cI1 ?_
      refine sb_iadd ?_
      obtain ⟨hgz4, h⟩ := gd h
      refine ss_iast (hWd12 hw) (Nat.succ_ne_zero _) hgz4 ?_
      refine sb_aload_n rfl ?_
      refine ss_getR g10_21 (hWd0 hw) (rWd1 hw) ?_
      refine ss_getR g10_96 (hWd7 hw) (rWd7_6 hw) ?_
      refine sb_iload_n rfl ?_
      obtain ⟨hgz5, h⟩ := gd h
      refine ss_iald (hWd12 hw) hgz5 ?_
      refine sb_bipush cB9 ?_
      obtain ⟨⟨yz13, Mz14⟩, hj88, h⟩ := bd h
      have hJ88 : RN P 2 kX10_ageLetters 88 [(0, .ref w), (1, .int yz13), (2, .int x2)] [] (S Mz14) r := by
        refine sb_in [(88, .iinc 2 (-1), 3), (91, .goto (-81), 3)] 94 (by decide +kernel) ?_
        refine ss_iinc cIm1 rfl (by decide) rfl ?_
        refine sb_goto 10 (by decide) ?_
        cases h
        exact rn_sub [0, 1, 2] rfl hc
      clear h
      have h := hj88
      clear hj88
      rcases ife h with ⟨cz17, h⟩ | ⟨cz17, h⟩
      · refine sb_icmp_ge_t 47 cz17 (by decide) ?_
        refine sb_in [(47, .aload_n 0, 1), (48, .dup, 1), (49, .getfield 44, 3), (52, .iconst 1, 1), (53, .iadd, 1), (54, .putfield 44, 3), (57, .aload_n 0, 1), (58, .iconst 3, 1), (59, .aload_n 0, 1), (60, .getfield 21, 3), (63, .getfield 77, 3), (66, .iload_n 1, 1), (67, .iaload, 1), (68, .aload_n 0, 1), (69, .getfield 21, 3), (72, .getfield 80, 3), (75, .iload_n 1, 1), (76, .iaload, 1), (77, .invokevirtual 47, 3), (80, .aload_n 0, 1), (81, .getfield 21, 3), (84, .iload_n 1, 1), (85, .invokevirtual 83, 3)] 88 (by decide +kernel) ?_
        refine sb_aload_n rfl ?_
        refine sb_dup rfl ?_
        refine ss_getI g10_44 (hWd0 hw) ?_
        refine sb_iconst cI1 ?_
        refine sb_iadd ?_
        refine ss_putI p10_44 (hWd0 hw) (fun q => (nzWd hw) q.1) ?_
        refine sb_aload_n rfl ?_
        refine sb_iconst cI3 ?_
        refine sb_aload_n rfl ?_
        refine ss_getR g10_21 (hWd0 hw) (rWd1 hw) ?_
        refine ss_getR g10_77 (hWd7 hw) (rWd7_2 hw) ?_
        refine sb_iload_n rfl ?_
        obtain ⟨hgz7, h⟩ := gd h
        refine ss_iald (hWd8 hw) hgz7 ?_
        refine sb_aload_n rfl ?_
        refine ss_getR g10_21 (hWd0 hw) (rWd1 hw) ?_
        refine ss_getR g10_80 (hWd7 hw) (rWd7_3 hw) ?_
        refine sb_iload_n rfl ?_
        obtain ⟨hgz8, h⟩ := gd h
        refine ss_iald (hWd9 hw) hgz8 ?_
        obtain ⟨Mz10, hez9, h⟩ := bd h
        refine sb_callVv 3 rfl oX10_write ln10_47 vX10_write (rc_own (hWd0 hw).1 (S_lt (hWd0 hw).2) (by decide)) (rnCk_of (by decide +kernel) rfl) (tfW_write hw hez9) ?_
        refine sb_aload_n rfl ?_
        refine ss_getR g10_21 (hWd0 hw) (rWd1 hw) ?_
        refine sb_iload_n rfl ?_
        obtain ⟨Mz12, hez11, h⟩ := bd h
        refine sb_callVv 1 rfl oX0_remove ln10_83 vX0_remove (rc_own (hWd7 hw).1 (S_lt (hWd7 hw).2) (by decide)) (rnCk_of (by decide +kernel) rfl) (tfB_remove (Wd_Bg hw) hez11) ?_
        refine sb_end ?_
        cases h
        exact rn_sub [0, 1, 2] rfl hJ88
      · refine sb_icmp_ge_f 47 cz17 (by decide) ?_
        refine sb_in [(41, .iinc 1 1, 3), (44, .goto 44, 3)] 47 (by decide +kernel) ?_
        refine ss_iinc cI1 rfl (by decide) rfl ?_
        refine sb_goto 88 (by decide) ?_
        cases h
        exact rn_sub [0, 1, 2] rfl hJ88
  · clear hl10
    obtain ⟨Mz15, hey⟩ : ∃ z, z = e10 := ⟨_, rfl⟩
    subst hey
    show RN P 2 kX10_ageLetters 94 [] [] (S Mz15) r
    refine sb_in [(94, .return_, 1)] 95 (by decide +kernel) ?_
    cases h
    subst hr
    refine sb_return ?_
    exact rfl
theorem tfW_ageLetters {P : Px} {w : Nat} (hw : Wd w) {M : Mm} {rr : Mm} (h : fW_ageLetters w M = some rr) : EX P 2 kX10_ageLetters [.ref w] (S M) (none, S rr) := ex_of oX10_ageLetters (Nat.le_of_ble_eq_true rfl) (nfW_ageLetters hw h rfl)
set_option maxRecDepth 20000 in
theorem nfD_calmTheUnvisited {P : Px} {w : Nat} (hw : Dr w) {M : Mm} {rr : Mm} (h : fD_calmTheUnvisited w M = some rr) {r : Option Value × Sg} (hr : r = (none, S rr)) : RN P 1 kX1_calmTheUnvisited 0 [(0, .ref w)] [] (S M) r := by
  unfold fD_calmTheUnvisited at h
  refine sb_in [(0, .iconst 0, 1), (1, .istore_n 1, 1)] 2 (by decide +kernel) ?_
  refine sb_iconst cI0 ?_
  refine sb_istore_n (by decide) rfl ?_
  refine sb_end ?_
  obtain ⟨e2, hl2, h⟩ := bd h
  refine rn_sub [0, 1] rfl ?_
  refine lp_ind (P := fun s => RN P 1 kX1_calmTheUnvisited 2 [(0, .ref w), (1, .int s.1)] [] (S s.2) r) (E := fun p => RN P 1 kX1_calmTheUnvisited 67 [] [] (S p) r) ?_ _ _ _ hl2 ?_
  · intro s qx h hc
    obtain ⟨x1, M⟩ := s
    replace h : fD_calmTheUnvisited_b2 w x1 M = some qx := h
    show RN P 1 kX1_calmTheUnvisited 2 [(0, .ref w), (1, .int x1)] [] (S M) r
    unfold fD_calmTheUnvisited_b2 at h
    refine sb_in [(2, .iload_n 1, 1), (3, .aload_n 0, 1), (4, .getfield 27, 3), (7, .if_icmp .ge 60, 3)] 10 (by decide +kernel) ?_
    refine sb_iload_n rfl ?_
    refine sb_aload_n rfl ?_
    refine ss_getI g1_27 (hDr0 hw) ?_
    rcases ife h with ⟨cz11, h⟩ | ⟨cz11, h⟩
    · refine sb_icmp_ge_t 67 cz11 (by decide) ?_
      cases h
      exact rn_sub [] rfl hc
    · refine sb_icmp_ge_f 67 cz11 (by decide) ?_
      refine sb_in [(10, .aload_n 0, 1), (11, .getfield 21, 3), (14, .iload_n 1, 1), (15, .iaload, 1), (16, .aload_n 0, 1), (17, .getfield 24, 3), (20, .iload_n 1, 1), (21, .iaload, 1), (22, .if_icmp .ne 39, 3)] 25 (by decide +kernel) ?_
      refine sb_aload_n rfl ?_
      refine ss_getR g1_21 (hDr0 hw) (rDr4 hw) ?_
      refine sb_iload_n rfl ?_
      obtain ⟨hgz1, h⟩ := gd h
      refine ss_iald (hDr4 hw) hgz1 ?_
      refine sb_aload_n rfl ?_
      refine ss_getR g1_24 (hDr0 hw) (rDr5 hw) ?_
      refine sb_iload_n rfl ?_
      obtain ⟨hgz2, h⟩ := gd h
      refine ss_iald (hDr5 hw) hgz2 ?_
      obtain ⟨Mz9, hj61, h⟩ := bd h
      have hJ61 : RN P 1 kX1_calmTheUnvisited 61 [(0, .ref w), (1, .int x1)] [] (S Mz9) r := by
        refine sb_in [(61, .iinc 1 1, 3), (64, .goto (-62), 3)] 67 (by decide +kernel) ?_
        refine ss_iinc cI1 rfl (by decide) rfl ?_
        refine sb_goto 2 (by decide) ?_
        cases h
        exact rn_sub [0, 1] rfl hc
      clear h
      have h := hj61
      clear hj61
      rcases ife h with ⟨cz12, h⟩ | ⟨cz12, h⟩
      · refine sb_icmp_ne_f 61 cz12 (by decide) ?_
        refine sb_in [(25, .aload_n 0, 1), (26, .getfield 9, 3), (29, .iload_n 1, 1), (30, .dup2, 1), (31, .iaload, 1), (32, .aload_n 0, 1), (33, .getfield 9, 3), (36, .iload_n 1, 1), (37, .iaload, 1), (38, .ifCond .le 7, 3)] 41 (by decide +kernel) ?_
        refine sb_aload_n rfl ?_
        refine ss_getR g1_9 (hDr0 hw) (rDr1 hw) ?_
        refine sb_iload_n rfl ?_
        refine sb_dup2 rfl rfl ?_
        obtain ⟨hgz3, h⟩ := gd h
        refine ss_iald (hDr1 hw) hgz3 ?_
        refine sb_aload_n rfl ?_
        refine ss_getR g1_9 (hDr0 hw) (rDr1 hw) ?_
        refine sb_iload_n rfl ?_
        obtain ⟨hgz4, h⟩ := gd h
        refine ss_iald (hDr1 hw) hgz4 ?_
        obtain ⟨yz6, hj59, h⟩ := bd h
        have hJ59 : RN P 1 kX1_calmTheUnvisited 59 [(0, .ref w), (1, .int x1)] [.int yz6, .int (M (w + 1) (jix x1)), .int x1, .ref (w + 1)] (S M) r := by
          refine sb_in [(59, .iadd, 1), (60, .iastore, 1)] 61 (by decide +kernel) ?_
          refine sb_iadd ?_
          obtain ⟨hgz8, h⟩ := gd h
          refine ss_iast (hDr1 hw) (Nat.succ_ne_zero _) hgz8 ?_
          refine sb_end ?_
          cases h
          exact rn_sub [0, 1] rfl hJ61
        clear h
        have h := hj59
        clear hj59
        rcases ife h with ⟨cz13, h⟩ | ⟨cz13, h⟩
        · refine sb_if_le_t 45 cz13 (by decide) ?_
          refine sb_in [(45, .aload_n 0, 1), (46, .getfield 9, 3), (49, .iload_n 1, 1), (50, .iaload, 1), (51, .ifCond .ge 7, 3)] 54 (by decide +kernel) ?_
          refine sb_aload_n rfl ?_
          refine ss_getR g1_9 (hDr0 hw) (rDr1 hw) ?_
          refine sb_iload_n rfl ?_
          obtain ⟨hgz5, h⟩ := gd h
          refine ss_iald (hDr1 hw) hgz5 ?_
          rcases ife h with ⟨cz14, h⟩ | ⟨cz14, h⟩
          · refine sb_if_ge_t 58 cz14 (by decide) ?_
            refine sb_in [(58, .iconst 0, 1)] 59 (by decide +kernel) ?_
            refine sb_iconst cI0 ?_
            refine sb_end ?_
            cases h
            exact rn_sub [0, 1] rfl hJ59
          · refine sb_if_ge_f 58 cz14 (by decide) ?_
            refine sb_in [(54, .iconst 1, 1), (55, .goto 4, 3)] 58 (by decide +kernel) ?_
            refine sb_iconst cI1 ?_
            refine sb_goto 59 (by decide) ?_
            cases h
            exact rn_sub [0, 1] rfl hJ59
        · refine sb_if_le_f 45 cz13 (by decide) ?_
          refine sb_in [(41, .iconst (-1), 1), (42, .goto 17, 3)] 45 (by decide +kernel) ?_
          refine sb_iconst cIm1 ?_
          refine sb_goto 59 (by decide) ?_
          cases h
          exact rn_sub [0, 1] rfl hJ59
      · refine sb_icmp_ne_t 61 cz12 (by decide) ?_
        cases h
        exact rn_sub [0, 1] rfl hJ61
  · clear hl2
    obtain ⟨Mz10, hey⟩ : ∃ z, z = e2 := ⟨_, rfl⟩
    subst hey
    show RN P 1 kX1_calmTheUnvisited 67 [] [] (S Mz10) r
    refine sb_in [(67, .return_, 1)] 68 (by decide +kernel) ?_
    cases h
    subst hr
    refine sb_return ?_
    exact rfl
theorem tfD_calmTheUnvisited {P : Px} {w : Nat} (hw : Dr w) {M : Mm} {rr : Mm} (h : fD_calmTheUnvisited w M = some rr) : EX P 1 kX1_calmTheUnvisited [.ref w] (S M) (none, S rr) := ex_of oX1_calmTheUnvisited (Nat.le_of_ble_eq_true rfl) (nfD_calmTheUnvisited hw h rfl)
set_option maxRecDepth 20000 in
theorem nfW_passDay {P : Px} {w : Nat} (hw : Wd w) {M : Mm} {rr : (Int32 × Mm)} (h : fW_passDay w M = some rr) {r : Option Value × Sg} (hr : r = (some (.int rr.1), S rr.2)) : RN P 7 kX10_passDay 0 [(0, .ref w), (1, .ref 123)] [] (S M) r := by
  unfold fW_passDay at h
  refine sb_in [(0, .aload_n 0, 1), (1, .iconst 0, 1), (2, .putfield 69, 3), (5, .aload_n 0, 1), (6, .aload_n 1, 1), (7, .invokevirtual 121, 3), (10, .aload_n 0, 1), (11, .getfield 12, 3), (14, .invokevirtual 125, 3), (17, .iconst 0, 1), (18, .istore_n 2, 1), (19, .iconst 0, 1), (20, .istore_n 3, 1)] 21 (by decide +kernel) ?_
  refine sb_aload_n rfl ?_
  refine sb_iconst cI0 ?_
  refine ss_putI p10_69 (hWd0 hw) (fun q => (nzWd hw) q.1) ?_
  refine sb_aload_n rfl ?_
  refine sb_aload_n rfl ?_
  obtain ⟨Mz3, hez2, h⟩ := bd h
  refine sb_callVv 1 rfl oX10_takePost ln10_121 vX10_takePost (rc_own (hWd0 hw).1 (S_lt (hWd0 hw).2) (by decide)) (rnCk_of (by decide +kernel) rfl) (tfW_takePost hw hez2) ?_
  refine sb_aload_n rfl ?_
  refine ss_getR g10_12 (hWd0 hw) (rWd0 hw) ?_
  refine sb_callVv 0 rfl oX1_beginRound ln10_125 vX1_beginRound (rc_own (hWd1 hw).1 (S_lt (hWd1 hw).2) (by decide)) (rnCk_of (by decide +kernel) rfl) (tfD_beginRound (Wd_Dr hw)) ?_
  refine sb_iconst cI0 ?_
  refine sb_istore_n (by decide) rfl ?_
  refine sb_iconst cI0 ?_
  refine sb_istore_n (by decide) rfl ?_
  refine sb_end ?_
  obtain ⟨e21, hl21, h⟩ := bd h
  refine rn_sub [0, 1, 2, 3] rfl ?_
  refine lp_ind (P := fun s => RN P 7 kX10_passDay 21 [(0, .ref w), (1, .ref 123), (2, .int s.1), (3, .int s.2.1)] [] (S s.2.2) r) (E := fun p => RN P 7 kX10_passDay 52 [(0, .ref w), (2, .int p.1)] [] (S p.2) r) ?_ _ _ _ hl21 ?_
  · intro s qx h hc
    obtain ⟨x2, x3, M⟩ := s
    replace h : fW_passDay_b21 w x2 x3 M = some qx := h
    show RN P 7 kX10_passDay 21 [(0, .ref w), (1, .ref 123), (2, .int x2), (3, .int x3)] [] (S M) r
    unfold fW_passDay_b21 at h
    refine sb_in [(21, .iload_n 3, 1), (22, .aload_n 1, 1), (23, .getfield 128, 3), (26, .if_icmp .ge 26, 3)] 29 (by decide +kernel) ?_
    refine sb_iload_n rfl ?_
    refine sb_aload_n rfl ?_
    refine ss_getI g10_128 h123 ?_
    rcases ife h with ⟨cz19, h⟩ | ⟨cz19, h⟩
    · refine sb_icmp_ge_t 52 cz19 (by decide) ?_
      cases h
      exact rn_sub [0, 2] rfl hc
    · refine sb_icmp_ge_f 52 cz19 (by decide) ?_
      refine sb_in [(29, .iload_n 2, 1), (30, .aload_n 0, 1), (31, .aload_n 1, 1), (32, .getfield 133, 3), (35, .iload_n 3, 1), (36, .iaload, 1), (37, .aload_n 1, 1), (38, .getfield 136, 3), (41, .invokevirtual 140, 3), (44, .iadd, 1), (45, .istore_n 2, 1), (46, .iinc 3 1, 3), (49, .goto (-28), 3)] 52 (by decide +kernel) ?_
      refine sb_iload_n rfl ?_
      refine sb_aload_n rfl ?_
      refine sb_aload_n rfl ?_
      refine ss_getR g10_133 h123 r123_7 ?_
      refine sb_iload_n rfl ?_
      obtain ⟨hgz5, h⟩ := gd h
      refine ss_iald h136 hgz5 ?_
      refine sb_aload_n rfl ?_
      refine ss_getR g10_136 h123 r123_0 ?_
      obtain ⟨qz7, hez6, h⟩ := bd h
      refine sb_callVi 2 rfl oX10_visit ln10_140 vX10_visit (rc_own (hWd0 hw).1 (S_lt (hWd0 hw).2) (by decide)) (rnCk_of (by decide +kernel) rfl) (tfW_visit hw hez6) ?_
      refine sb_iadd ?_
      refine sb_istore_n (by decide) rfl ?_
      refine ss_iinc cI1 rfl (by decide) rfl ?_
      refine sb_goto 21 (by decide) ?_
      cases h
      exact rn_sub [0, 1, 2, 3] rfl hc
  · clear hl21
    obtain ⟨yz9, Mz10⟩ := e21
    show RN P 7 kX10_passDay 52 [(0, .ref w), (2, .int yz9)] [] (S Mz10) r
    refine sb_in [(52, .aload_n 0, 1), (53, .invokevirtual 144, 3), (56, .aload_n 0, 1), (57, .bipush 99, 2), (59, .aload_n 0, 1), (60, .getfield 108, 3), (63, .iconst 5, 1), (64, .iadd, 1), (65, .invokestatic 72, 3), (68, .putfield 108, 3), (71, .aload_n 0, 1), (72, .aload_n 0, 1), (73, .getfield 108, 3), (76, .bipush 50, 2), (78, .if_icmp .le 12, 3)] 81 (by decide +kernel) ?_
    refine sb_aload_n rfl ?_
    obtain ⟨Mz12, hez11, h⟩ := bd h
    refine sb_callVv 0 rfl oX10_ageLetters ln10_144 vX10_ageLetters (rc_own (hWd0 hw).1 (S_lt (hWd0 hw).2) (by decide)) (rnCk_of (by decide +kernel) rfl) (tfW_ageLetters hw hez11) ?_
    refine sb_aload_n rfl ?_
    refine sb_bipush cB99 ?_
    refine sb_aload_n rfl ?_
    refine ss_getI g10_108 (hWd0 hw) ?_
    refine sb_iconst cI5 ?_
    refine sb_iadd ?_
    refine sb_min lm10_72 minS maI minC (by decide) rfl ?_
    refine ss_putI p10_108 (hWd0 hw) (fun q => (nzWd hw) q.1) ?_
    refine sb_aload_n rfl ?_
    refine sb_aload_n rfl ?_
    refine ss_getI g10_108 (hWd0 hw) ?_
    refine sb_bipush cB50 ?_
    have hJ96 : RN P 7 kX10_passDay 96 [(0, .ref w), (2, .int yz9)] [.int (if ((mput Mz12 w 6 (jmin 99 ((Mz12 w 6) + 5))) w 6) ≤ 50 then (((mput Mz12 w 6 (jmin 99 ((Mz12 w 6) + 5))) w 5) + 3) else (((mput Mz12 w 6 (jmin 99 ((Mz12 w 6) + 5))) w 5) - 5)), .ref w] (S (mput Mz12 w 6 (jmin 99 ((Mz12 w 6) + 5)))) r := by
      refine sb_in [(96, .iconst 0, 1), (97, .bipush 99, 2), (99, .invokestatic 147, 3), (102, .putfield 29, 3), (105, .aload_n 0, 1), (106, .getfield 12, 3), (109, .invokevirtual 150, 3), (112, .aload_n 0, 1), (113, .dup, 1), (114, .getfield 114, 3), (117, .iconst 1, 1), (118, .iadd, 1), (119, .putfield 114, 3), (122, .iload_n 2, 1), (123, .ireturn, 1)] 124 (by decide +kernel) ?_
      refine sb_iconst cI0 ?_
      refine sb_bipush cB99 ?_
      refine sb_callSNi 3 rfl oX11_held ln10_147 vX11_held (rnCk_of (by decide +kernel) rfl) (tfK_held) ?_
      refine ss_putI p10_29 (hWd0 hw) (fun q => (nzWd hw) q.1) ?_
      refine sb_aload_n rfl ?_
      refine ss_getR g10_12 (hWd0 hw) (rWd0 hw) ?_
      obtain ⟨Mz17, hez16, h⟩ := bd h
      refine sb_callVv 0 rfl oX1_calmTheUnvisited ln10_150 vX1_calmTheUnvisited (rc_own (hWd1 hw).1 (S_lt (hWd1 hw).2) (by decide)) (rnCk_of (by decide +kernel) rfl) (tfD_calmTheUnvisited (Wd_Dr hw) hez16) ?_
      refine sb_aload_n rfl ?_
      refine sb_dup rfl ?_
      refine ss_getI g10_114 (hWd0 hw) ?_
      refine sb_iconst cI1 ?_
      refine sb_iadd ?_
      refine ss_putI p10_114 (hWd0 hw) (fun q => (nzWd hw) q.1) ?_
      refine sb_iload_n rfl ?_
      cases h
      subst hr
      refine sb_ireturn ?_
      exact ⟨.int, rfl, rfl⟩
    rcases Decidable.em (((mput Mz12 w 6 (jmin 99 ((Mz12 w 6) + 5))) w 6) ≤ 50) with cz20 | cz20
    · refine sb_icmp_le_t 90 cz20 (by decide) ?_
      refine sb_in [(90, .aload_n 0, 1), (91, .getfield 29, 3), (94, .iconst 3, 1), (95, .iadd, 1)] 96 (by decide +kernel) ?_
      refine sb_aload_n rfl ?_
      refine ss_getI g10_29 (hWd0 hw) ?_
      refine sb_iconst cI3 ?_
      refine sb_iadd ?_
      refine sb_end ?_
      have hq := hJ96
      simp only [if_pos cz20] at hq
      exact rn_sub [0, 2] rfl hq
    · refine sb_icmp_le_f 90 cz20 (by decide) ?_
      refine sb_in [(81, .aload_n 0, 1), (82, .getfield 29, 3), (85, .iconst 5, 1), (86, .isub, 1), (87, .goto 9, 3)] 90 (by decide +kernel) ?_
      refine sb_aload_n rfl ?_
      refine ss_getI g10_29 (hWd0 hw) ?_
      refine sb_iconst cI5 ?_
      refine sb_isub ?_
      refine sb_goto 96 (by decide) ?_
      have hq := hJ96
      simp only [if_neg cz20] at hq
      exact rn_sub [0, 2] rfl hq
theorem tfW_passDay {P : Px} {w : Nat} (hw : Wd w) {M : Mm} {rr : (Int32 × Mm)} (h : fW_passDay w M = some rr) : EX P 7 kX10_passDay [.ref w, .ref 123] (S M) (some (.int rr.1), S rr.2) := ex_of oX10_passDay (Nat.le_of_ble_eq_true rfl) (nfW_passDay hw h rfl)
set_option maxRecDepth 20000 in
theorem nfK_days {P : Px} {x1 : Int32} {M : Mm} {rr : (Int32 × Mm)} (h : fK_days x1 M = some rr) {r : Option Value × Sg} (hr : r = (some (.int rr.1), S rr.2)) : RN P 8 kX11_days 0 [(0, .ref 0), (1, .int x1)] [] (S M) r := by
  unfold fK_days at h
  refine sb_in [(0, .iload_n 1, 1), (1, .iconst 1, 1), (2, .bipush 60, 2), (4, .invokestatic 91, 3), (7, .ifCond .eq 18, 3)] 10 (by decide +kernel) ?_
  refine sb_iload_n rfl ?_
  refine sb_iconst cI1 ?_
  refine sb_bipush cB60 ?_
  refine sb_callSi 3 rfl oX11_isWithin ln11_91 vX11_isWithin (rnCk_of (by decide +kernel) rfl) (tfK_isWithin) ?_
  rcases ife h with ⟨cz9, h⟩ | ⟨cz9, h⟩
  · refine sb_if_eq_t 25 cz9 (by decide) ?_
    refine sb_in [(25, .iconst (-1), 1), (26, .ireturn, 1)] 27 (by decide +kernel) ?_
    refine sb_iconst cIm1 ?_
    cases h
    subst hr
    refine sb_ireturn ?_
    exact ⟨.int, rfl, rfl⟩
  · refine sb_if_eq_f 25 cz9 (by decide) ?_
    refine sb_in [(10, .aload_n 0, 1), (11, .getfield 16, 3), (14, .getfield 155, 3), (17, .iload_n 1, 1), (18, .iadd, 1), (19, .sipush 9999, 3), (22, .if_icmp .le 5, 3)] 25 (by decide +kernel) ?_
    refine sb_aload_n rfl ?_
    refine ss_getR g11_16 h0 r0_0 ?_
    refine ss_getI g11_155 h1 ?_
    refine sb_iload_n rfl ?_
    refine sb_iadd ?_
    refine sb_sipush cS9999 ?_
    rcases ife h with ⟨cz10, h⟩ | ⟨cz10, h⟩
    · refine sb_icmp_le_t 27 cz10 (by decide) ?_
      refine sb_in [(27, .iconst 0, 1), (28, .istore_n 2, 1), (29, .iconst 0, 1), (30, .istore_n 3, 1)] 31 (by decide +kernel) ?_
      refine sb_iconst cI0 ?_
      refine sb_istore_n (by decide) rfl ?_
      refine sb_iconst cI0 ?_
      refine sb_istore_n (by decide) rfl ?_
      refine sb_end ?_
      obtain ⟨e31, hl31, h⟩ := bd h
      refine rn_sub [0, 1, 2, 3] rfl ?_
      refine lp_ind (P := fun s => RN P 8 kX11_days 31 [(0, .ref 0), (1, .int x1), (2, .int s.1), (3, .int s.2.1)] [] (S s.2.2) r) (E := fun p => RN P 8 kX11_days 67 [(2, .int p.1)] [] (S p.2) r) ?_ _ _ _ hl31 ?_
      · intro s qx h hc
        obtain ⟨x2, x3, M⟩ := s
        replace h : fK_days_b31 x1 x2 x3 M = some qx := h
        show RN P 8 kX11_days 31 [(0, .ref 0), (1, .int x1), (2, .int x2), (3, .int x3)] [] (S M) r
        unfold fK_days_b31 at h
        refine sb_in [(31, .iload_n 3, 1), (32, .iload_n 1, 1), (33, .if_icmp .ge 34, 3)] 36 (by decide +kernel) ?_
        refine sb_iload_n rfl ?_
        refine sb_iload_n rfl ?_
        rcases ife h with ⟨cz11, h⟩ | ⟨cz11, h⟩
        · refine sb_icmp_ge_t 67 cz11 (by decide) ?_
          cases h
          exact rn_sub [2] rfl hc
        · refine sb_icmp_ge_f 67 cz11 (by decide) ?_
          refine sb_in [(36, .aload_n 0, 1), (37, .getfield 26, 3), (40, .aload_n 0, 1), (41, .getfield 16, 3), (44, .invokevirtual 130, 3), (47, .iload_n 2, 1), (48, .aload_n 0, 1), (49, .getfield 16, 3), (52, .aload_n 0, 1), (53, .getfield 33, 3), (56, .invokevirtual 158, 3), (59, .iadd, 1), (60, .istore_n 2, 1), (61, .iinc 3 1, 3), (64, .goto (-33), 3)] 67 (by decide +kernel) ?_
          refine sb_aload_n rfl ?_
          refine ss_getR g11_26 h0 r0_2 ?_
          refine sb_aload_n rfl ?_
          refine ss_getR g11_16 h0 r0_0 ?_
          obtain ⟨Mz3, hez2, h⟩ := bd h
          refine sb_callVv 1 rfl oX4_keep ln11_130 vX4_keep (rc_own h31.1 (S_lt h31.2) (by decide)) (rnCk_of (by decide +kernel) rfl) (tfP_keep hez2) ?_
          refine sb_iload_n rfl ?_
          refine sb_aload_n rfl ?_
          refine ss_getR g11_16 h0 r0_0 ?_
          refine sb_aload_n rfl ?_
          refine ss_getR g11_33 h0 r0_3 ?_
          obtain ⟨qz5, hez4, h⟩ := bd h
          refine sb_callVi 1 rfl oX10_passDay ln11_158 vX10_passDay (rc_own h1.1 (S_lt h1.2) (by decide)) (rnCk_of (by decide +kernel) rfl) (tfW_passDay lWd1 hez4) ?_
          refine sb_iadd ?_
          refine sb_istore_n (by decide) rfl ?_
          refine ss_iinc cI1 rfl (by decide) rfl ?_
          refine sb_goto 31 (by decide) ?_
          cases h
          exact rn_sub [0, 1, 2, 3] rfl hc
      · clear hl31
        obtain ⟨yz7, Mz8⟩ := e31
        show RN P 8 kX11_days 67 [(2, .int yz7)] [] (S Mz8) r
        refine sb_in [(67, .iload_n 2, 1), (68, .ireturn, 1)] 69 (by decide +kernel) ?_
        refine sb_iload_n rfl ?_
        cases h
        subst hr
        refine sb_ireturn ?_
        exact ⟨.int, rfl, rfl⟩
    · refine sb_icmp_le_f 27 cz10 (by decide) ?_
      refine sb_in [(25, .iconst (-1), 1), (26, .ireturn, 1)] 27 (by decide +kernel) ?_
      refine sb_iconst cIm1 ?_
      cases h
      subst hr
      refine sb_ireturn ?_
      exact ⟨.int, rfl, rfl⟩
theorem tfK_days {P : Px} {x1 : Int32} {M : Mm} {rr : (Int32 × Mm)} (h : fK_days x1 M = some rr) : EX P 8 kX11_days [.ref 0, .int x1] (S M) (some (.int rr.1), S rr.2) := ex_of oX11_days (Nat.le_of_ble_eq_true rfl) (nfK_days  h rfl)
set_option maxRecDepth 20000 in
theorem nfK_feedOne {P : Px} {x1 : Int32} {M : Mm} {rr : Mm} (h : fK_feedOne x1 M = some rr) {r : Option Value × Sg} (hr : r = (none, S rr)) : RN P 1 kX11_feedOne 0 [(0, .ref 0), (1, .int x1)] [] (S M) r := by
  unfold fK_feedOne at h
  refine sb_in [(0, .bipush 24, 2), (2, .istore_n 2, 1)] 3 (by decide +kernel) ?_
  refine sb_bipush cB24 ?_
  refine sb_istore_n (by decide) rfl ?_
  refine sb_end ?_
  obtain ⟨e3, hl3, h⟩ := bd h
  refine rn_sub [0, 1, 2] rfl ?_
  refine lp_ind (P := fun s => RN P 1 kX11_feedOne 3 [(0, .ref 0), (1, .int x1), (2, .int s.1)] [] (S s.2) r) (E := fun p => RN P 1 kX11_feedOne 46 [] [] (S p) r) ?_ _ _ _ hl3 ?_
  · intro s qx h hc
    obtain ⟨x2, M⟩ := s
    replace h : fK_feedOne_b3 x1 x2 M = some qx := h
    show RN P 1 kX11_feedOne 3 [(0, .ref 0), (1, .int x1), (2, .int x2)] [] (S M) r
    unfold fK_feedOne_b3 at h
    refine sb_in [(3, .iload_n 2, 1), (4, .ifCond .lt 42, 3)] 7 (by decide +kernel) ?_
    refine sb_iload_n rfl ?_
    rcases ife h with ⟨cz5, h⟩ | ⟨cz5, h⟩
    · refine sb_if_lt_t 46 cz5 (by decide) ?_
      cases h
      exact rn_sub [] rfl hc
    · refine sb_if_lt_f 46 cz5 (by decide) ?_
      refine sb_in [(7, .aload_n 0, 1), (8, .getfield 162, 3), (11, .sipush 400, 3), (14, .if_icmp .ge 32, 3)] 17 (by decide +kernel) ?_
      refine sb_aload_n rfl ?_
      refine ss_getI g11_162 h0 ?_
      refine sb_sipush cS400 ?_
      rcases ife h with ⟨cz6, h⟩ | ⟨cz6, h⟩
      · refine sb_icmp_ge_t 46 cz6 (by decide) ?_
        cases h
        exact rn_sub [] rfl hc
      · refine sb_icmp_ge_f 46 cz6 (by decide) ?_
        refine sb_in [(17, .aload_n 0, 1), (18, .getfield 67, 3), (21, .aload_n 0, 1), (22, .getfield 162, 3), (25, .iload_n 1, 1), (26, .iload_n 2, 1), (27, .iushr, 1), (28, .i2b, 1), (29, .bastore, 1), (30, .aload_n 0, 1), (31, .dup, 1), (32, .getfield 162, 3), (35, .iconst 1, 1), (36, .iadd, 1), (37, .putfield 162, 3), (40, .iinc 2 (-8), 3), (43, .goto (-40), 3)] 46 (by decide +kernel) ?_
        refine sb_aload_n rfl ?_
        refine ss_getR g11_67 h0 r0_9 ?_
        refine sb_aload_n rfl ?_
        refine ss_getI g11_162 h0 ?_
        refine sb_iload_n rfl ?_
        refine sb_iload_n rfl ?_
        refine sb_iushr ?_
        refine sb_i2b ?_
        obtain ⟨hgz2, h⟩ := gd h
        refine ss_bast h178 (by decide) hgz2 ?_
        refine sb_aload_n rfl ?_
        refine sb_dup rfl ?_
        refine ss_getI g11_162 h0 ?_
        refine sb_iconst cI1 ?_
        refine sb_iadd ?_
        refine ss_putI p11_162 h0 (by decide) ?_
        refine ss_iinc cIm8 rfl (by decide) rfl ?_
        refine sb_goto 3 (by decide) ?_
        cases h
        exact rn_sub [0, 1, 2] rfl hc
  · clear hl3
    obtain ⟨Mz4, hey⟩ : ∃ z, z = e3 := ⟨_, rfl⟩
    subst hey
    show RN P 1 kX11_feedOne 46 [] [] (S Mz4) r
    refine sb_in [(46, .return_, 1)] 47 (by decide +kernel) ?_
    cases h
    subst hr
    refine sb_return ?_
    exact rfl
theorem tfK_feedOne {P : Px} {x1 : Int32} {M : Mm} {rr : Mm} (h : fK_feedOne x1 M = some rr) : EX P 1 kX11_feedOne [.ref 0, .int x1] (S M) (none, S rr) := ex_of oX11_feedOne (Nat.le_of_ble_eq_true rfl) (nfK_feedOne  h rfl)
set_option maxRecDepth 20000 in
theorem nfK_feed {P : Px} {x1 : Int32} {x2 : Int32} {x3 : Int32} {x4 : Int32} {x5 : Int32} {M : Mm} {rr : (Int32 × Mm)} (h : fK_feed x1 x2 x3 x4 x5 M = some rr) {r : Option Value × Sg} (hr : r = (some (.int rr.1), S rr.2)) : RN P 2 kX11_feed 0 [(0, .ref 0), (1, .int x1), (2, .int x2), (3, .int x3), (4, .int x4), (5, .int x5)] [] (S M) r := by
  unfold fK_feed at h
  refine sb_in [(0, .aload_n 0, 1), (1, .getfield 162, 3), (4, .bipush 20, 2), (6, .iadd, 1), (7, .sipush 400, 3), (10, .if_icmp .le 5, 3)] 13 (by decide +kernel) ?_
  refine sb_aload_n rfl ?_
  refine ss_getI g11_162 h0 ?_
  refine sb_bipush cB20 ?_
  refine sb_iadd ?_
  refine sb_sipush cS400 ?_
  rcases ife h with ⟨cz11, h⟩ | ⟨cz11, h⟩
  · refine sb_icmp_le_t 15 cz11 (by decide) ?_
    refine sb_in [(15, .aload_n 0, 1), (16, .iload_n 1, 1), (17, .invokevirtual 165, 3), (20, .aload_n 0, 1), (21, .iload_n 2, 1), (22, .invokevirtual 165, 3), (25, .aload_n 0, 1), (26, .iload_n 3, 1), (27, .invokevirtual 165, 3), (30, .aload_n 0, 1), (31, .iload 4, 2), (33, .invokevirtual 165, 3), (36, .aload_n 0, 1), (37, .iload 5, 2), (39, .invokevirtual 165, 3), (42, .aload_n 0, 1), (43, .getfield 162, 3), (46, .ireturn, 1)] 47 (by decide +kernel) ?_
    refine sb_aload_n rfl ?_
    refine sb_iload_n rfl ?_
    obtain ⟨Mz2, hez1, h⟩ := bd h
    refine sb_callVv 1 rfl oX11_feedOne ln11_165 vX11_feedOne (rc_own h0.1 (S_lt h0.2) (by decide)) (rnCk_of (by decide +kernel) rfl) (tfK_feedOne hez1) ?_
    refine sb_aload_n rfl ?_
    refine sb_iload_n rfl ?_
    obtain ⟨Mz4, hez3, h⟩ := bd h
    refine sb_callVv 1 rfl oX11_feedOne ln11_165 vX11_feedOne (rc_own h0.1 (S_lt h0.2) (by decide)) (rnCk_of (by decide +kernel) rfl) (tfK_feedOne hez3) ?_
    refine sb_aload_n rfl ?_
    refine sb_iload_n rfl ?_
    obtain ⟨Mz6, hez5, h⟩ := bd h
    refine sb_callVv 1 rfl oX11_feedOne ln11_165 vX11_feedOne (rc_own h0.1 (S_lt h0.2) (by decide)) (rnCk_of (by decide +kernel) rfl) (tfK_feedOne hez5) ?_
    refine sb_aload_n rfl ?_
    refine sb_iload rfl ?_
    obtain ⟨Mz8, hez7, h⟩ := bd h
    refine sb_callVv 1 rfl oX11_feedOne ln11_165 vX11_feedOne (rc_own h0.1 (S_lt h0.2) (by decide)) (rnCk_of (by decide +kernel) rfl) (tfK_feedOne hez7) ?_
    refine sb_aload_n rfl ?_
    refine sb_iload rfl ?_
    obtain ⟨Mz10, hez9, h⟩ := bd h
    refine sb_callVv 1 rfl oX11_feedOne ln11_165 vX11_feedOne (rc_own h0.1 (S_lt h0.2) (by decide)) (rnCk_of (by decide +kernel) rfl) (tfK_feedOne hez9) ?_
    refine sb_aload_n rfl ?_
    refine ss_getI g11_162 h0 ?_
    cases h
    subst hr
    refine sb_ireturn ?_
    exact ⟨.int, rfl, rfl⟩
  · refine sb_icmp_le_f 15 cz11 (by decide) ?_
    refine sb_in [(13, .iconst (-1), 1), (14, .ireturn, 1)] 15 (by decide +kernel) ?_
    refine sb_iconst cIm1 ?_
    cases h
    subst hr
    refine sb_ireturn ?_
    exact ⟨.int, rfl, rfl⟩
theorem tfK_feed {P : Px} {x1 : Int32} {x2 : Int32} {x3 : Int32} {x4 : Int32} {x5 : Int32} {M : Mm} {rr : (Int32 × Mm)} (h : fK_feed x1 x2 x3 x4 x5 M = some rr) : EX P 2 kX11_feed [.ref 0, .int x1, .int x2, .int x3, .int x4, .int x5] (S M) (some (.int rr.1), S rr.2) := ex_of oX11_feed (Nat.le_of_ble_eq_true rfl) (nfK_feed  h rfl)
set_option maxRecDepth 20000 in
theorem nfK_end {P : Px} {x1 : Int32} {M : Mm} {rr : (Int32 × Mm)} (h : fK_end x1 M = rr) {r : Option Value × Sg} (hr : r = (some (.int rr.1), S rr.2)) : RN P 2 kX11_end 0 [(0, .ref 0), (1, .int x1)] [] (S M) r := by
  unfold fK_end at h
  refine sb_in [(0, .iload_n 1, 1), (1, .iconst 0, 1), (2, .aload_n 0, 1), (3, .getfield 162, 3), (6, .invokestatic 91, 3), (9, .ifCond .ne 5, 3)] 12 (by decide +kernel) ?_
  refine sb_iload_n rfl ?_
  refine sb_iconst cI0 ?_
  refine sb_aload_n rfl ?_
  refine ss_getI g11_162 h0 ?_
  refine sb_callSi 3 rfl oX11_isWithin ln11_91 vX11_isWithin (rnCk_of (by decide +kernel) rfl) (tfK_isWithin) ?_
  rcases ife h with ⟨cz3, h⟩ | ⟨cz3, h⟩
  · refine sb_if_ne_f 14 cz3 (by decide) ?_
    refine sb_in [(12, .iconst 0, 1), (13, .ireturn, 1)] 14 (by decide +kernel) ?_
    refine sb_iconst cI0 ?_
    subst h
    subst hr
    refine sb_ireturn ?_
    exact ⟨.boolean, rfl, by decide⟩
  · refine sb_if_ne_t 14 cz3 (by decide) ?_
    refine sb_in [(14, .aload_n 0, 1), (15, .iload_n 1, 1), (16, .putfield 162, 3), (19, .iconst 1, 1), (20, .ireturn, 1)] 21 (by decide +kernel) ?_
    refine sb_aload_n rfl ?_
    refine sb_iload_n rfl ?_
    refine ss_putI p11_162 h0 (by decide) ?_
    refine sb_iconst cI1 ?_
    subst h
    subst hr
    refine sb_ireturn ?_
    exact ⟨.boolean, rfl, by decide⟩
theorem tfK_end {P : Px} {x1 : Int32} {M : Mm} : EX P 2 kX11_end [.ref 0, .int x1] (S M) (some (.int (fK_end x1 M).1), S (fK_end x1 M).2) := ex_of oX11_end (Nat.le_of_ble_eq_true rfl) (nfK_end  rfl rfl)
set_option maxRecDepth 20000 in
theorem nfR_forgive {P : Px} {M : Mm} {rr : Mm} (h : fR_forgive M = rr) {r : Option Value × Sg} (hr : r = (none, S rr)) : RN P 1 kX5_forgive 0 [(0, .ref 146)] [] (S M) r := by
  unfold fR_forgive at h
  refine sb_in [(0, .aload_n 0, 1), (1, .iconst 0, 1), (2, .putfield 33, 3), (5, .aload_n 0, 1), (6, .iconst (-1), 1), (7, .putfield 18, 3), (10, .return_, 1)] 11 (by decide +kernel) ?_
  refine sb_aload_n rfl ?_
  refine sb_iconst cI0 ?_
  refine ss_putI p5_33 h146 (by decide) ?_
  refine sb_aload_n rfl ?_
  refine sb_iconst cIm1 ?_
  refine ss_putI p5_18 h146 (by decide) ?_
  subst h
  subst hr
  refine sb_return ?_
  exact rfl
theorem tfR_forgive {P : Px} {M : Mm} : EX P 1 kX5_forgive [.ref 146] (S M) (none, S (fR_forgive M)) := ex_of oX5_forgive (Nat.le_of_ble_eq_true rfl) (nfR_forgive  rfl rfl)
set_option maxRecDepth 20000 in
theorem nfJ_isLatin1_aae02_3 {P : Px} {M : Mm} {r : Option Value × Sg} (hr : r = (some (.int 1), S M)) : RN P 1 kJ0_isLatin1_aae02 0 [(0, .ref 1003)] [] (S M) r := by
  refine sb_in [(0, .getstatic 38, 3), (3, .ifCond .eq 14, 3)] 6 (by decide +kernel) ?_
  refine rn_gets (v := .int 1) lf14_38 (fun X s h => z_comp h) ?_
  refine sb_if_eq_f 17 (by decide) (by decide) ?_
  refine sb_in [(6, .aload_n 0, 1), (7, .getfield 15, 3), (10, .ifCond .ne 7, 3)] 13 (by decide +kernel) ?_
  refine sb_aload_n rfl ?_
  refine rn_getS (v := .int 0) lf14_15 (fun X s h => s_cod3 h) ?_
  refine sb_if_ne_f 17 (by decide) (by decide) ?_
  refine sb_in [(13, .iconst 1, 1), (14, .goto 4, 3)] 17 (by decide +kernel) ?_
  refine sb_iconst cI1 ?_
  refine sb_goto 18 (by decide) ?_
  refine sb_in [(18, .ireturn, 1)] 19 (by decide +kernel) ?_
  subst hr
  refine sb_ireturn ?_
  exact ⟨.boolean, rfl, by decide⟩
theorem tfJ_isLatin1_aae02_3 {P : Px} {M : Mm} : EX P 1 kJ0_isLatin1_aae02 [.ref 1003] (S M) (some (.int 1), S M) := ex_of oJ0_isLatin1_aae02 (Nat.le_of_ble_eq_true rfl) (nfJ_isLatin1_aae02_3 rfl)
set_option maxRecDepth 20000 in
theorem nfJ_coder_7d493_3 {P : Px} {M : Mm} {r : Option Value × Sg} (hr : r = (some (.int 0), S M)) : RN P 1 kJ0_coder_7d493 0 [(0, .ref 1003)] [] (S M) r := by
  refine sb_in [(0, .getstatic 38, 3), (3, .ifCond .eq 10, 3)] 6 (by decide +kernel) ?_
  refine rn_gets (v := .int 1) lf14_38 (fun X s h => z_comp h) ?_
  refine sb_if_eq_f 13 (by decide) (by decide) ?_
  refine sb_in [(6, .aload_n 0, 1), (7, .getfield 15, 3), (10, .goto 4, 3)] 13 (by decide +kernel) ?_
  refine sb_aload_n rfl ?_
  refine rn_getS (v := .int 0) lf14_15 (fun X s h => s_cod3 h) ?_
  refine sb_goto 14 (by decide) ?_
  refine sb_in [(14, .ireturn, 1)] 15 (by decide +kernel) ?_
  subst hr
  refine sb_ireturn ?_
  exact ⟨.byte, rfl, by decide⟩
theorem tfJ_coder_7d493_3 {P : Px} {M : Mm} : EX P 1 kJ0_coder_7d493 [.ref 1003] (S M) (some (.int 0), S M) := ex_of oJ0_coder_7d493 (Nat.le_of_ble_eq_true rfl) (nfJ_coder_7d493_3 rfl)
set_option maxRecDepth 20000 in
theorem nfJ_length_8abf5_3 {P : Px} {M : Mm} {rr : Int32} (h : fJ_length_8abf5_3 = rr) {r : Option Value × Sg} (hr : r = (some (.int rr), S M)) : RN P 2 kJ0_length_8abf5 0 [(0, .ref 1003)] [] (S M) r := by
  unfold fJ_length_8abf5_3 at h
  refine sb_in [(0, .aload_n 0, 1), (1, .getfield 9, 3), (4, .arraylength, 1), (5, .aload_n 0, 1), (6, .invokevirtual 335, 3), (9, .ishr, 1), (10, .ireturn, 1)] 11 (by decide +kernel) ?_
  refine sb_aload_n rfl ?_
  refine rn_getS (v := .ref 1004) lf14_9 (fun X s h => s_val3 h) ?_
  refine sb_balc 4 (by decide) ?_
  refine sb_aload_n rfl ?_
  refine sb_callVi 0 rfl oJ0_coder_7d493 ln14_335 vJ0_coder_7d493 (rc_str (Or.inl rfl)) (rnCk_of (by decide +kernel) rfl) (tfJ_coder_7d493_3) ?_
  refine sb_ishr ?_
  subst h
  subst hr
  refine sb_ireturn ?_
  exact ⟨.int, rfl, rfl⟩
theorem tfJ_length_8abf5_3 {P : Px} {M : Mm} : EX P 2 kJ0_length_8abf5 [.ref 1003] (S M) (some (.int (fJ_length_8abf5_3)), S M) := ex_of oJ0_length_8abf5 (Nat.le_of_ble_eq_true rfl) (nfJ_length_8abf5_3  rfl rfl)
set_option maxRecDepth 20000 in
theorem nfJ_canEncode_9a6ad {P : Px} {x0 : Int32} {M : Mm} {rr : Int32} (h : fJ_canEncode_9a6ad x0 = rr) {r : Option Value × Sg} (hr : r = (some (.int rr), S M)) : RN P 1 kJ1_canEncode_9a6ad 0 [(0, .int x0)] [] (S M) r := by
  unfold fJ_canEncode_9a6ad at h
  refine sb_in [(0, .iload_n 0, 1), (1, .ifCond .lt 14, 3)] 4 (by decide +kernel) ?_
  refine sb_iload_n rfl ?_
  rcases ife h with ⟨cz1, h⟩ | ⟨cz1, h⟩
  · refine sb_if_lt_t 15 cz1 (by decide) ?_
    refine sb_in [(15, .iconst 0, 1)] 16 (by decide +kernel) ?_
    refine sb_iconst cI0 ?_
    refine sb_end ?_
    refine sb_in [(16, .ireturn, 1)] 17 (by decide +kernel) ?_
    subst h
    subst hr
    refine sb_ireturn ?_
    exact ⟨.boolean, rfl, by decide⟩
  · refine sb_if_lt_f 15 cz1 (by decide) ?_
    refine sb_in [(4, .iload_n 0, 1), (5, .sipush 255, 3), (8, .if_icmp .gt 7, 3)] 11 (by decide +kernel) ?_
    refine sb_iload_n rfl ?_
    refine sb_sipush cS255 ?_
    rcases ife h with ⟨cz2, h⟩ | ⟨cz2, h⟩
    · refine sb_icmp_gt_t 15 cz2 (by decide) ?_
      refine sb_in [(15, .iconst 0, 1)] 16 (by decide +kernel) ?_
      refine sb_iconst cI0 ?_
      refine sb_end ?_
      refine sb_in [(16, .ireturn, 1)] 17 (by decide +kernel) ?_
      subst h
      subst hr
      refine sb_ireturn ?_
      exact ⟨.boolean, rfl, by decide⟩
    · refine sb_icmp_gt_f 15 cz2 (by decide) ?_
      refine sb_in [(11, .iconst 1, 1), (12, .goto 4, 3)] 15 (by decide +kernel) ?_
      refine sb_iconst cI1 ?_
      refine sb_goto 16 (by decide) ?_
      refine sb_in [(16, .ireturn, 1)] 17 (by decide +kernel) ?_
      subst h
      subst hr
      refine sb_ireturn ?_
      exact ⟨.boolean, rfl, by decide⟩
theorem tfJ_canEncode_9a6ad {P : Px} {x0 : Int32} {M : Mm} : EX P 1 kJ1_canEncode_9a6ad [.int x0] (S M) (some (.int (fJ_canEncode_9a6ad x0)), S M) := ex_of oJ1_canEncode_9a6ad (Nat.le_of_ble_eq_true rfl) (nfJ_canEncode_9a6ad  rfl rfl)
set_option maxRecDepth 20000 in
theorem nfJ_indexOfChar_4cfef_3 {P : Px} {x1 : Int32} {x2 : Int32} {x3 : Int32} {M : Mm} {rr : Int32} (h : fJ_indexOfChar_4cfef_3 x1 x2 x3 M = some rr) {r : Option Value × Sg} (hr : r = (some (.int rr), S M)) : RN P 1 kJ1_indexOfChar_4cfef 0 [(0, .ref 1004), (1, .int x1), (2, .int x2), (3, .int x3)] [] (S M) r := by
  unfold fJ_indexOfChar_4cfef_3 at h
  refine sb_in [(0, .iload_n 1, 1), (1, .i2b, 1), (2, .istore 4, 2), (4, .iload_n 2, 1), (5, .istore 5, 2)] 7 (by decide +kernel) ?_
  refine sb_iload_n rfl ?_
  refine sb_i2b ?_
  refine sb_istore (by decide) rfl ?_
  refine sb_iload_n rfl ?_
  refine sb_istore (by decide) rfl ?_
  refine sb_end ?_
  obtain ⟨e7, hl7, h⟩ := bd h
  refine rn_sub [0, 3, 4, 5] rfl ?_
  refine lp_ind (P := fun s => RN P 1 kJ1_indexOfChar_4cfef 7 [(0, .ref 1004), (3, .int x3), (4, .int ((jbyte x1))), (5, .int s)] [] (S M) r) (E := fun e => match e with | Sum.inl p => RN P 1 kJ1_indexOfChar_4cfef 22 [(5, .int p)] [] (S M) r | Sum.inr p => RN P 1 kJ1_indexOfChar_4cfef 31 [] [] (S M) r) ?_ _ _ _ hl7 ?_
  · intro x5 qx h hc
    replace h : fJ_indexOfChar_4cfef_3_b7 x3 ((jbyte x1)) M x5 = some qx := h
    show RN P 1 kJ1_indexOfChar_4cfef 7 [(0, .ref 1004), (3, .int x3), (4, .int ((jbyte x1))), (5, .int x5)] [] (S M) r
    generalize ((jbyte x1)) = x4 at h hc ⊢
    unfold fJ_indexOfChar_4cfef_3_b7 at h
    refine sb_in [(7, .iload 5, 2), (9, .iload_n 3, 1), (10, .if_icmp .ge 21, 3)] 13 (by decide +kernel) ?_
    refine sb_iload rfl ?_
    refine sb_iload_n rfl ?_
    rcases ife h with ⟨cz4, h⟩ | ⟨cz4, h⟩
    · refine sb_icmp_ge_t 31 cz4 (by decide) ?_
      cases h
      exact rn_sub [] rfl hc
    · refine sb_icmp_ge_f 31 cz4 (by decide) ?_
      refine sb_in [(13, .aload_n 0, 1), (14, .iload 5, 2), (16, .baload, 1), (17, .iload 4, 2), (19, .if_icmp .ne 6, 3)] 22 (by decide +kernel) ?_
      refine sb_aload_n rfl ?_
      refine sb_iload rfl ?_
      obtain ⟨hgz2, h⟩ := gd h
      refine sb_bcld 4 (by decide) hgz2 ?_
      refine sb_iload rfl ?_
      rcases ife h with ⟨cz5, h⟩ | ⟨cz5, h⟩
      · refine sb_icmp_ne_f 25 cz5 (by decide) ?_
        cases h
        exact rn_sub [5] rfl hc
      · refine sb_icmp_ne_t 25 cz5 (by decide) ?_
        refine sb_in [(25, .iinc 5 1, 3), (28, .goto (-21), 3)] 31 (by decide +kernel) ?_
        refine ss_iinc cI1 rfl (by decide) rfl ?_
        refine sb_goto 7 (by decide) ?_
        cases h
        exact rn_sub [0, 3, 4, 5] rfl hc
  · clear hl7
    rcases e7 with e7 | e7
    · skip
      obtain ⟨yz3, hey⟩ : ∃ z, z = e7 := ⟨_, rfl⟩
      subst hey
      show RN P 1 kJ1_indexOfChar_4cfef 22 [(5, .int yz3)] [] (S M) r
      refine sb_in [(22, .iload 5, 2), (24, .ireturn, 1)] 25 (by decide +kernel) ?_
      refine sb_iload rfl ?_
      cases h
      subst hr
      refine sb_ireturn ?_
      exact ⟨.int, rfl, rfl⟩
    · skip
      show RN P 1 kJ1_indexOfChar_4cfef 31 [] [] (S M) r
      refine sb_in [(31, .iconst (-1), 1), (32, .ireturn, 1)] 33 (by decide +kernel) ?_
      refine sb_iconst cIm1 ?_
      cases h
      subst hr
      refine sb_ireturn ?_
      exact ⟨.int, rfl, rfl⟩
theorem tfJ_indexOfChar_4cfef_3 {P : Px} {x1 : Int32} {x2 : Int32} {x3 : Int32} {M : Mm} {rr : Int32} (h : fJ_indexOfChar_4cfef_3 x1 x2 x3 M = some rr) : EX P 1 kJ1_indexOfChar_4cfef [.ref 1004, .int x1, .int x2, .int x3] (S M) (some (.int rr), S M) := ex_of oJ1_indexOfChar_4cfef (Nat.le_of_ble_eq_true rfl) (nfJ_indexOfChar_4cfef_3  h rfl)
set_option maxRecDepth 20000 in
theorem nfJ_indexOf_4cfef_3 {P : Px} {x1 : Int32} {x2 : Int32} {x3 : Int32} {M : Mm} {rr : Int32} (h : fJ_indexOf_4cfef_3 x1 x2 x3 M = some rr) {r : Option Value × Sg} (hr : r = (some (.int rr), S M)) : RN P 2 kJ1_indexOf_4cfef 0 [(0, .ref 1004), (1, .int x1), (2, .int x2), (3, .int x3)] [] (S M) r := by
  unfold fJ_indexOf_4cfef_3 at h
  refine sb_in [(0, .iload_n 1, 1), (1, .invokestatic 88, 3), (4, .ifCond .ne 5, 3)] 7 (by decide +kernel) ?_
  refine sb_iload_n rfl ?_
  refine sb_callSi 1 rfl oJ1_canEncode_9a6ad ln15_88 vJ1_canEncode_9a6ad (rnCk_of (by decide +kernel) rfl) (tfJ_canEncode_9a6ad) ?_
  rcases ife h with ⟨cz6, h⟩ | ⟨cz6, h⟩
  · refine sb_if_ne_f 9 cz6 (by decide) ?_
    refine sb_in [(7, .iconst (-1), 1), (8, .ireturn, 1)] 9 (by decide +kernel) ?_
    refine sb_iconst cIm1 ?_
    cases h
    subst hr
    refine sb_ireturn ?_
    exact ⟨.int, rfl, rfl⟩
  · refine sb_if_ne_t 9 cz6 (by decide) ?_
    refine sb_in [(9, .iload_n 2, 1), (10, .iconst 0, 1), (11, .invokestatic 92, 3), (14, .istore_n 2, 1), (15, .iload_n 3, 1), (16, .aload_n 0, 1), (17, .arraylength, 1), (18, .invokestatic 38, 3), (21, .istore_n 3, 1), (22, .iload_n 2, 1), (23, .iload_n 3, 1), (24, .if_icmp .lt 5, 3)] 27 (by decide +kernel) ?_
    refine sb_iload_n rfl ?_
    refine sb_iconst cI0 ?_
    refine sb_max lm15_92 maxS maI maxC (by decide) rfl ?_
    refine sb_istore_n (by decide) rfl ?_
    refine sb_iload_n rfl ?_
    refine sb_aload_n rfl ?_
    refine sb_balc 4 (by decide) ?_
    refine sb_min lm15_38 minS maI minC (by decide) rfl ?_
    refine sb_istore_n (by decide) rfl ?_
    refine sb_iload_n rfl ?_
    refine sb_iload_n rfl ?_
    rcases ife h with ⟨cz7, h⟩ | ⟨cz7, h⟩
    · refine sb_icmp_lt_t 29 cz7 (by decide) ?_
      refine sb_in [(29, .aload_n 0, 1), (30, .iload_n 1, 1), (31, .iload_n 2, 1), (32, .iload_n 3, 1), (33, .invokestatic 95, 3), (36, .ireturn, 1)] 37 (by decide +kernel) ?_
      refine sb_aload_n rfl ?_
      refine sb_iload_n rfl ?_
      refine sb_iload_n rfl ?_
      refine sb_iload_n rfl ?_
      obtain ⟨qz5, hez4, h⟩ := bd h
      refine sb_callSi 4 rfl oJ1_indexOfChar_4cfef ln15_95 vJ1_indexOfChar_4cfef (rnCk_of (by decide +kernel) rfl) (tfJ_indexOfChar_4cfef_3 hez4) ?_
      cases h
      subst hr
      refine sb_ireturn ?_
      exact ⟨.int, rfl, rfl⟩
    · refine sb_icmp_lt_f 29 cz7 (by decide) ?_
      refine sb_in [(27, .iconst (-1), 1), (28, .ireturn, 1)] 29 (by decide +kernel) ?_
      refine sb_iconst cIm1 ?_
      cases h
      subst hr
      refine sb_ireturn ?_
      exact ⟨.int, rfl, rfl⟩
theorem tfJ_indexOf_4cfef_3 {P : Px} {x1 : Int32} {x2 : Int32} {x3 : Int32} {M : Mm} {rr : Int32} (h : fJ_indexOf_4cfef_3 x1 x2 x3 M = some rr) : EX P 2 kJ1_indexOf_4cfef [.ref 1004, .int x1, .int x2, .int x3] (S M) (some (.int rr), S M) := ex_of oJ1_indexOf_4cfef (Nat.le_of_ble_eq_true rfl) (nfJ_indexOf_4cfef_3  h rfl)
set_option maxRecDepth 20000 in
theorem nfJ_indexOf_7cf53_3 {P : Px} {x1 : Int32} {x2 : Int32} {M : Mm} {rr : Int32} (h : fJ_indexOf_7cf53_3 x1 x2 M = some rr) {r : Option Value × Sg} (hr : r = (some (.int rr), S M)) : RN P 3 kJ0_indexOf_7cf53 0 [(0, .ref 1003), (1, .int x1), (2, .int x2)] [] (S M) r := by
  unfold fJ_indexOf_7cf53_3 at h
  refine sb_in [(0, .aload_n 0, 1), (1, .invokevirtual 492, 3), (4, .ifCond .eq 19, 3)] 7 (by decide +kernel) ?_
  refine sb_aload_n rfl ?_
  refine sb_callVi 0 rfl oJ0_isLatin1_aae02 ln14_492 vJ0_isLatin1_aae02 (rc_str (Or.inl rfl)) (rnCk_of (by decide +kernel) rfl) (tfJ_isLatin1_aae02_3) ?_
  refine sb_if_eq_f 23 (by decide) (by decide) ?_
  refine sb_in [(7, .aload_n 0, 1), (8, .getfield 9, 3), (11, .iload_n 1, 1), (12, .iload_n 2, 1), (13, .aload_n 0, 1), (14, .invokevirtual 505, 3), (17, .invokestatic 637, 3), (20, .goto 16, 3)] 23 (by decide +kernel) ?_
  refine sb_aload_n rfl ?_
  refine rn_getS (v := .ref 1004) lf14_9 (fun X s h => s_val3 h) ?_
  refine sb_iload_n rfl ?_
  refine sb_iload_n rfl ?_
  refine sb_aload_n rfl ?_
  refine sb_callVi 0 rfl oJ0_length_8abf5 ln14_505 vJ0_length_8abf5 (rc_str (Or.inl rfl)) (rnCk_of (by decide +kernel) rfl) (tfJ_length_8abf5_3) ?_
  obtain ⟨qz3, hez2, h⟩ := bd h
  refine sb_callSi 4 rfl oJ1_indexOf_4cfef ln14_637 vJ1_indexOf_4cfef (rnCk_of (by decide +kernel) rfl) (tfJ_indexOf_4cfef_3 hez2) ?_
  refine sb_goto 36 (by decide) ?_
  refine sb_in [(36, .ireturn, 1)] 37 (by decide +kernel) ?_
  cases h
  subst hr
  refine sb_ireturn ?_
  exact ⟨.int, rfl, rfl⟩
theorem tfJ_indexOf_7cf53_3 {P : Px} {x1 : Int32} {x2 : Int32} {M : Mm} {rr : Int32} (h : fJ_indexOf_7cf53_3 x1 x2 M = some rr) : EX P 3 kJ0_indexOf_7cf53 [.ref 1003, .int x1, .int x2] (S M) (some (.int rr), S M) := ex_of oJ0_indexOf_7cf53 (Nat.le_of_ble_eq_true rfl) (nfJ_indexOf_7cf53_3  h rfl)
set_option maxRecDepth 20000 in
theorem nfJ_indexOf_0f7a4_3 {P : Px} {x1 : Int32} {M : Mm} {rr : Int32} (h : fJ_indexOf_0f7a4_3 x1 M = some rr) {r : Option Value × Sg} (hr : r = (some (.int rr), S M)) : RN P 4 kJ0_indexOf_0f7a4 0 [(0, .ref 1003), (1, .int x1)] [] (S M) r := by
  unfold fJ_indexOf_0f7a4_3 at h
  refine sb_in [(0, .aload_n 0, 1), (1, .iload_n 1, 1), (2, .iconst 0, 1), (3, .invokevirtual 633, 3), (6, .ireturn, 1)] 7 (by decide +kernel) ?_
  refine sb_aload_n rfl ?_
  refine sb_iload_n rfl ?_
  refine sb_iconst cI0 ?_
  obtain ⟨qz2, hez1, h⟩ := bd h
  refine sb_callVi 2 rfl oJ0_indexOf_7cf53 ln14_633 vJ0_indexOf_7cf53 (rc_str (Or.inl rfl)) (rnCk_of (by decide +kernel) rfl) (tfJ_indexOf_7cf53_3 hez1) ?_
  cases h
  subst hr
  refine sb_ireturn ?_
  exact ⟨.int, rfl, rfl⟩
theorem tfJ_indexOf_0f7a4_3 {P : Px} {x1 : Int32} {M : Mm} {rr : Int32} (h : fJ_indexOf_0f7a4_3 x1 M = some rr) : EX P 4 kJ0_indexOf_0f7a4 [.ref 1003, .int x1] (S M) (some (.int rr), S M) := ex_of oJ0_indexOf_0f7a4 (Nat.le_of_ble_eq_true rfl) (nfJ_indexOf_0f7a4_3  h rfl)
set_option maxRecDepth 20000 in
theorem nfO_sortOf {P : Px} {x0 : Int32} {M : Mm} {rr : Int32} (h : fO_sortOf x0 M = some rr) {r : Option Value × Sg} (hr : r = (some (.int rr), S M)) : RN P 5 kX7_sortOf 0 [(0, .int x0)] [] (S M) r := by
  unfold fO_sortOf at h
  refine sb_in [(0, .iload_n 0, 1), (1, .bipush 32, 2), (3, .if_icmp .eq 9, 3)] 6 (by decide +kernel) ?_
  refine sb_iload_n rfl ?_
  refine sb_bipush cB32 ?_
  rcases ife h with ⟨cz6, h⟩ | ⟨cz6, h⟩
  · refine sb_icmp_eq_t 12 cz6 (by decide) ?_
    refine sb_in [(12, .iconst 3, 1), (13, .ireturn, 1)] 14 (by decide +kernel) ?_
    refine sb_iconst cI3 ?_
    cases h
    subst hr
    refine sb_ireturn ?_
    exact ⟨.int, rfl, rfl⟩
  · refine sb_icmp_eq_f 12 cz6 (by decide) ?_
    refine sb_in [(6, .iload_n 0, 1), (7, .bipush 10, 2), (9, .if_icmp .ne 5, 3)] 12 (by decide +kernel) ?_
    refine sb_iload_n rfl ?_
    refine sb_bipush cB10 ?_
    rcases ife h with ⟨cz7, h⟩ | ⟨cz7, h⟩
    · refine sb_icmp_ne_f 14 cz7 (by decide) ?_
      refine sb_in [(12, .iconst 3, 1), (13, .ireturn, 1)] 14 (by decide +kernel) ?_
      refine sb_iconst cI3 ?_
      cases h
      subst hr
      refine sb_ireturn ?_
      exact ⟨.int, rfl, rfl⟩
    · refine sb_icmp_ne_t 14 cz7 (by decide) ?_
      refine sb_in [(14, .iload_n 0, 1), (15, .bipush 48, 2), (17, .bipush 57, 2), (19, .invokestatic 40, 3), (22, .ifCond .eq 5, 3)] 25 (by decide +kernel) ?_
      refine sb_iload_n rfl ?_
      refine sb_bipush cB48 ?_
      refine sb_bipush cB57 ?_
      refine sb_callSNi 3 rfl oX11_isWithin ln7_40 vX11_isWithin (rnCk_of (by decide +kernel) rfl) (tfK_isWithin) ?_
      rcases ife h with ⟨cz8, h⟩ | ⟨cz8, h⟩
      · refine sb_if_eq_t 27 cz8 (by decide) ?_
        refine sb_in [(27, .iload_n 0, 1), (28, .bipush 97, 2), (30, .bipush 122, 2), (32, .invokestatic 40, 3), (35, .ifCond .ne 14, 3)] 38 (by decide +kernel) ?_
        refine sb_iload_n rfl ?_
        refine sb_bipush cB97 ?_
        refine sb_bipush cB122 ?_
        refine sb_callSNi 3 rfl oX11_isWithin ln7_40 vX11_isWithin (rnCk_of (by decide +kernel) rfl) (tfK_isWithin) ?_
        rcases ife h with ⟨cz9, h⟩ | ⟨cz9, h⟩
        · refine sb_if_ne_f 49 cz9 (by decide) ?_
          refine sb_in [(38, .iload_n 0, 1), (39, .bipush 65, 2), (41, .bipush 90, 2), (43, .invokestatic 40, 3), (46, .ifCond .eq 5, 3)] 49 (by decide +kernel) ?_
          refine sb_iload_n rfl ?_
          refine sb_bipush cB65 ?_
          refine sb_bipush cB90 ?_
          refine sb_callSNi 3 rfl oX11_isWithin ln7_40 vX11_isWithin (rnCk_of (by decide +kernel) rfl) (tfK_isWithin) ?_
          rcases ife h with ⟨cz10, h⟩ | ⟨cz10, h⟩
          · refine sb_if_eq_t 51 cz10 (by decide) ?_
            refine sb_in [(51, .iload_n 0, 1), (52, .ifCond .le 17, 3)] 55 (by decide +kernel) ?_
            refine sb_iload_n rfl ?_
            rcases ife h with ⟨cz11, h⟩ | ⟨cz11, h⟩
            · refine sb_if_le_t 69 cz11 (by decide) ?_
              refine sb_in [(69, .iconst 0, 1)] 70 (by decide +kernel) ?_
              refine sb_iconst cI0 ?_
              refine sb_end ?_
              refine sb_in [(70, .ireturn, 1)] 71 (by decide +kernel) ?_
              cases h
              subst hr
              refine sb_ireturn ?_
              exact ⟨.int, rfl, rfl⟩
            · refine sb_if_le_f 69 cz11 (by decide) ?_
              refine sb_in [(55, .ldc 44, 2), (57, .iload_n 0, 1), (58, .i2c, 1), (59, .invokevirtual 46, 3), (62, .ifCond .lt 7, 3)] 65 (by decide +kernel) ?_
              refine sb_ldcS3 rfl ?_
              refine sb_iload_n rfl ?_
              refine sb_i2c ?_
              obtain ⟨qz5, hez4, h⟩ := bd h
              refine sb_callVi 1 rfl oJ0_indexOf_0f7a4 ln7_46 vJ0_indexOf_0f7a4 (rc_str (Or.inl rfl)) (rnCk_of (by decide +kernel) rfl) (tfJ_indexOf_0f7a4_3 hez4) ?_
              rcases ife h with ⟨cz12, h⟩ | ⟨cz12, h⟩
              · refine sb_if_lt_t 69 cz12 (by decide) ?_
                refine sb_in [(69, .iconst 0, 1)] 70 (by decide +kernel) ?_
                refine sb_iconst cI0 ?_
                refine sb_end ?_
                refine sb_in [(70, .ireturn, 1)] 71 (by decide +kernel) ?_
                cases h
                subst hr
                refine sb_ireturn ?_
                exact ⟨.int, rfl, rfl⟩
              · refine sb_if_lt_f 69 cz12 (by decide) ?_
                refine sb_in [(65, .iload_n 0, 1), (66, .goto 4, 3)] 69 (by decide +kernel) ?_
                refine sb_iload_n rfl ?_
                refine sb_goto 70 (by decide) ?_
                refine sb_in [(70, .ireturn, 1)] 71 (by decide +kernel) ?_
                cases h
                subst hr
                refine sb_ireturn ?_
                exact ⟨.int, rfl, rfl⟩
          · refine sb_if_eq_f 51 cz10 (by decide) ?_
            refine sb_in [(49, .iconst 4, 1), (50, .ireturn, 1)] 51 (by decide +kernel) ?_
            refine sb_iconst cI4 ?_
            cases h
            subst hr
            refine sb_ireturn ?_
            exact ⟨.int, rfl, rfl⟩
        · refine sb_if_ne_t 49 cz9 (by decide) ?_
          refine sb_in [(49, .iconst 4, 1), (50, .ireturn, 1)] 51 (by decide +kernel) ?_
          refine sb_iconst cI4 ?_
          cases h
          subst hr
          refine sb_ireturn ?_
          exact ⟨.int, rfl, rfl⟩
      · refine sb_if_eq_f 27 cz8 (by decide) ?_
        refine sb_in [(25, .iconst 1, 1), (26, .ireturn, 1)] 27 (by decide +kernel) ?_
        refine sb_iconst cI1 ?_
        cases h
        subst hr
        refine sb_ireturn ?_
        exact ⟨.int, rfl, rfl⟩
theorem tfO_sortOf {P : Px} {x0 : Int32} {M : Mm} {rr : Int32} (h : fO_sortOf x0 M = some rr) : EX P 5 kX7_sortOf [.int x0] (S M) (some (.int rr), S M) := ex_of oX7_sortOf (Nat.le_of_ble_eq_true rfl) (nfO_sortOf  h rfl)
set_option maxRecDepth 20000 in
theorem nfO_add {P : Px} {x1 : Int32} {x2 : Int32} {x3 : Int32} {M : Mm} {rr : Mm} (h : fO_add x1 x2 x3 M = some rr) {r : Option Value × Sg} (hr : r = (none, S rr)) : RN P 1 kX7_add 0 [(0, .ref 162), (1, .int x1), (2, .int x2), (3, .int x3)] [] (S M) r := by
  unfold fO_add at h
  refine sb_in [(0, .aload_n 0, 1), (1, .getfield 24, 3), (4, .sipush 400, 3), (7, .if_icmp .gt 53, 3)] 10 (by decide +kernel) ?_
  refine sb_aload_n rfl ?_
  refine ss_getI g7_24 h162 ?_
  refine sb_sipush cS400 ?_
  rcases ife h with ⟨cz10, h⟩ | ⟨cz10, h⟩
  · refine sb_icmp_gt_t 60 cz10 (by decide) ?_
    refine sb_in [(60, .return_, 1)] 61 (by decide +kernel) ?_
    cases h
    subst hr
    refine sb_return ?_
    exact rfl
  · refine sb_icmp_gt_f 60 cz10 (by decide) ?_
    refine sb_in [(10, .aload_n 0, 1), (11, .getfield 11, 3), (14, .aload_n 0, 1), (15, .getfield 24, 3), (18, .iload_n 1, 1), (19, .iastore, 1), (20, .aload_n 0, 1), (21, .getfield 15, 3), (24, .aload_n 0, 1), (25, .getfield 24, 3), (28, .iconst 0, 1), (29, .iastore, 1), (30, .aload_n 0, 1), (31, .getfield 18, 3), (34, .aload_n 0, 1), (35, .getfield 24, 3), (38, .iload_n 2, 1), (39, .iastore, 1), (40, .aload_n 0, 1), (41, .getfield 21, 3), (44, .aload_n 0, 1), (45, .getfield 24, 3), (48, .iload_n 3, 1), (49, .iastore, 1), (50, .aload_n 0, 1), (51, .dup, 1), (52, .getfield 24, 3), (55, .iconst 1, 1), (56, .iadd, 1), (57, .putfield 24, 3)] 60 (by decide +kernel) ?_
    refine sb_aload_n rfl ?_
    refine ss_getR g7_11 h162 r162_1 ?_
    refine sb_aload_n rfl ?_
    refine ss_getI g7_24 h162 ?_
    refine sb_iload_n rfl ?_
    obtain ⟨hgz2, h⟩ := gd h
    refine ss_iast h163 (by decide) hgz2 ?_
    refine sb_aload_n rfl ?_
    refine ss_getR g7_15 h162 r162_2 ?_
    refine sb_aload_n rfl ?_
    refine ss_getI g7_24 h162 ?_
    refine sb_iconst cI0 ?_
    obtain ⟨hgz4, h⟩ := gd h
    refine ss_iast h164 (by decide) hgz4 ?_
    refine sb_aload_n rfl ?_
    refine ss_getR g7_18 h162 r162_3 ?_
    refine sb_aload_n rfl ?_
    refine ss_getI g7_24 h162 ?_
    refine sb_iload_n rfl ?_
    obtain ⟨hgz6, h⟩ := gd h
    refine ss_iast h165 (by decide) hgz6 ?_
    refine sb_aload_n rfl ?_
    refine ss_getR g7_21 h162 r162_4 ?_
    refine sb_aload_n rfl ?_
    refine ss_getI g7_24 h162 ?_
    refine sb_iload_n rfl ?_
    obtain ⟨hgz8, h⟩ := gd h
    refine ss_iast h166 (by decide) hgz8 ?_
    refine sb_aload_n rfl ?_
    refine sb_dup rfl ?_
    refine ss_getI g7_24 h162 ?_
    refine sb_iconst cI1 ?_
    refine sb_iadd ?_
    refine ss_putI p7_24 h162 (by decide) ?_
    refine sb_end ?_
    refine sb_in [(60, .return_, 1)] 61 (by decide +kernel) ?_
    cases h
    subst hr
    refine sb_return ?_
    exact rfl
theorem tfO_add {P : Px} {x1 : Int32} {x2 : Int32} {x3 : Int32} {M : Mm} {rr : Mm} (h : fO_add x1 x2 x3 M = some rr) : EX P 1 kX7_add [.ref 162, .int x1, .int x2, .int x3] (S M) (none, S rr) := ex_of oX7_add (Nat.le_of_ble_eq_true rfl) (nfO_add  h rfl)
set_option maxRecDepth 20000 in
theorem nfJ_coder_7d493_5 {P : Px} {M : Mm} {r : Option Value × Sg} (hr : r = (some (.int 0), S M)) : RN P 1 kJ0_coder_7d493 0 [(0, .ref 1005)] [] (S M) r := by
  refine sb_in [(0, .getstatic 38, 3), (3, .ifCond .eq 10, 3)] 6 (by decide +kernel) ?_
  refine rn_gets (v := .int 1) lf14_38 (fun X s h => z_comp h) ?_
  refine sb_if_eq_f 13 (by decide) (by decide) ?_
  refine sb_in [(6, .aload_n 0, 1), (7, .getfield 15, 3), (10, .goto 4, 3)] 13 (by decide +kernel) ?_
  refine sb_aload_n rfl ?_
  refine rn_getS (v := .int 0) lf14_15 (fun X s h => s_cod5 h) ?_
  refine sb_goto 14 (by decide) ?_
  refine sb_in [(14, .ireturn, 1)] 15 (by decide +kernel) ?_
  subst hr
  refine sb_ireturn ?_
  exact ⟨.byte, rfl, by decide⟩
theorem tfJ_coder_7d493_5 {P : Px} {M : Mm} : EX P 1 kJ0_coder_7d493 [.ref 1005] (S M) (some (.int 0), S M) := ex_of oJ0_coder_7d493 (Nat.le_of_ble_eq_true rfl) (nfJ_coder_7d493_5 rfl)
set_option maxRecDepth 20000 in
theorem nfJ_length_8abf5_5 {P : Px} {M : Mm} {rr : Int32} (h : fJ_length_8abf5_5 = rr) {r : Option Value × Sg} (hr : r = (some (.int rr), S M)) : RN P 2 kJ0_length_8abf5 0 [(0, .ref 1005)] [] (S M) r := by
  unfold fJ_length_8abf5_5 at h
  refine sb_in [(0, .aload_n 0, 1), (1, .getfield 9, 3), (4, .arraylength, 1), (5, .aload_n 0, 1), (6, .invokevirtual 335, 3), (9, .ishr, 1), (10, .ireturn, 1)] 11 (by decide +kernel) ?_
  refine sb_aload_n rfl ?_
  refine rn_getS (v := .ref 1006) lf14_9 (fun X s h => s_val5 h) ?_
  refine sb_balc 6 (by decide) ?_
  refine sb_aload_n rfl ?_
  refine sb_callVi 0 rfl oJ0_coder_7d493 ln14_335 vJ0_coder_7d493 (rc_str (Or.inr rfl)) (rnCk_of (by decide +kernel) rfl) (tfJ_coder_7d493_5) ?_
  refine sb_ishr ?_
  subst h
  subst hr
  refine sb_ireturn ?_
  exact ⟨.int, rfl, rfl⟩
theorem tfJ_length_8abf5_5 {P : Px} {M : Mm} : EX P 2 kJ0_length_8abf5 [.ref 1005] (S M) (some (.int (fJ_length_8abf5_5)), S M) := ex_of oJ0_length_8abf5 (Nat.le_of_ble_eq_true rfl) (nfJ_length_8abf5_5  rfl rfl)
set_option maxRecDepth 20000 in
theorem nfJ_isLatin1_aae02_5 {P : Px} {M : Mm} {r : Option Value × Sg} (hr : r = (some (.int 1), S M)) : RN P 1 kJ0_isLatin1_aae02 0 [(0, .ref 1005)] [] (S M) r := by
  refine sb_in [(0, .getstatic 38, 3), (3, .ifCond .eq 14, 3)] 6 (by decide +kernel) ?_
  refine rn_gets (v := .int 1) lf14_38 (fun X s h => z_comp h) ?_
  refine sb_if_eq_f 17 (by decide) (by decide) ?_
  refine sb_in [(6, .aload_n 0, 1), (7, .getfield 15, 3), (10, .ifCond .ne 7, 3)] 13 (by decide +kernel) ?_
  refine sb_aload_n rfl ?_
  refine rn_getS (v := .int 0) lf14_15 (fun X s h => s_cod5 h) ?_
  refine sb_if_ne_f 17 (by decide) (by decide) ?_
  refine sb_in [(13, .iconst 1, 1), (14, .goto 4, 3)] 17 (by decide +kernel) ?_
  refine sb_iconst cI1 ?_
  refine sb_goto 18 (by decide) ?_
  refine sb_in [(18, .ireturn, 1)] 19 (by decide +kernel) ?_
  subst hr
  refine sb_ireturn ?_
  exact ⟨.boolean, rfl, by decide⟩
theorem tfJ_isLatin1_aae02_5 {P : Px} {M : Mm} : EX P 1 kJ0_isLatin1_aae02 [.ref 1005] (S M) (some (.int 1), S M) := ex_of oJ0_isLatin1_aae02 (Nat.le_of_ble_eq_true rfl) (nfJ_isLatin1_aae02_5 rfl)
set_option maxRecDepth 20000 in
theorem nfJ_checkIndex_8e157 {P : Px} {x0 : Int32} {x1 : Int32} {M : Mm} {rr : Int32} (h : fJ_checkIndex_8e157 x0 x1 = some rr) {r : Option Value × Sg} (hr : r = (some (.int rr), S M)) : RN P 1 kJ3_checkIndex_8e157 0 [(0, .int x0), (1, .int x1), (2, .retAddr 0)] [] (S M) r := by
  unfold fJ_checkIndex_8e157 at h
  refine sb_in [(0, .iload_n 0, 1), (1, .ifCond .lt 8, 3)] 4 (by decide +kernel) ?_
  refine sb_iload_n rfl ?_
  have hJ9 : ∀ (z0 : Int32) (z1 : Int32), fJ_checkIndex_8e157_j9 z0 z1 = some rr → RN P 1 kJ3_checkIndex_8e157 9 [(0, .int z0), (1, .int z1), (2, .retAddr 0)] [] (S M) r := by
    intro z0 z1 h
    unfold fJ_checkIndex_8e157_j9 at h
    cases h
  rcases ife h with ⟨cz1, h⟩ | ⟨cz1, h⟩
  · refine sb_if_lt_t 9 cz1 (by decide) ?_
    exact rn_sub [0, 1, 2] rfl (hJ9 _ _ h)
  · refine sb_if_lt_f 9 cz1 (by decide) ?_
    refine sb_in [(4, .iload_n 0, 1), (5, .iload_n 1, 1), (6, .if_icmp .lt 10, 3)] 9 (by decide +kernel) ?_
    refine sb_iload_n rfl ?_
    refine sb_iload_n rfl ?_
    rcases ife h with ⟨cz2, h⟩ | ⟨cz2, h⟩
    · refine sb_icmp_lt_t 16 cz2 (by decide) ?_
      refine sb_in [(16, .iload_n 0, 1), (17, .ireturn, 1)] 18 (by decide +kernel) ?_
      refine sb_iload_n rfl ?_
      cases h
      subst hr
      refine sb_ireturn ?_
      exact ⟨.int, rfl, rfl⟩
    · refine sb_icmp_lt_f 16 cz2 (by decide) ?_
      exact rn_sub [0, 1, 2] rfl (hJ9 _ _ h)
theorem tfJ_checkIndex_8e157 {P : Px} {x0 : Int32} {x1 : Int32} {M : Mm} {rr : Int32} (h : fJ_checkIndex_8e157 x0 x1 = some rr) : EX P 1 kJ3_checkIndex_8e157 [.int x0, .int x1, .retAddr 0] (S M) (some (.int rr), S M) := ex_of oJ3_checkIndex_8e157 (Nat.le_of_ble_eq_true rfl) (nfJ_checkIndex_8e157  h rfl)
set_option maxRecDepth 20000 in
theorem nfJ_checkIndex_df160 {P : Px} {x0 : Int32} {x1 : Int32} {M : Mm} {rr : Unit} (h : fJ_checkIndex_df160 x0 x1 = some rr) {r : Option Value × Sg} (hr : r = (none, S M)) : RN P 2 kJ0_checkIndex_df160 0 [(0, .int x0), (1, .int x1)] [] (S M) r := by
  unfold fJ_checkIndex_df160 at h
  refine sb_in [(0, .iload_n 0, 1), (1, .iload_n 1, 1), (2, .getstatic 1053, 3), (5, .invokestatic 1059, 3), (8, .pop, 1), (9, .return_, 1)] 10 (by decide +kernel) ?_
  refine sb_iload_n rfl ?_
  refine sb_iload_n rfl ?_
  refine rn_gets (v := .retAddr 0) lf14_1053 (fun X s h => z_form h) ?_
  obtain ⟨qz2, hez1, h⟩ := bd h
  refine sb_callSi 3 rfl oJ3_checkIndex_8e157 ln14_1059 vJ3_checkIndex_8e157 (rnCk_of (by decide +kernel) rfl) (tfJ_checkIndex_8e157 hez1) ?_
  refine sb_pop rfl ?_
  cases h
  subst hr
  refine sb_return ?_
  exact rfl
theorem tfJ_checkIndex_df160 {P : Px} {x0 : Int32} {x1 : Int32} {M : Mm} {rr : Unit} (h : fJ_checkIndex_df160 x0 x1 = some rr) : EX P 2 kJ0_checkIndex_df160 [.int x0, .int x1] (S M) (none, S M) := ex_of oJ0_checkIndex_df160 (Nat.le_of_ble_eq_true rfl) (nfJ_checkIndex_df160  h rfl)
set_option maxRecDepth 20000 in
theorem nfJ_charAt_3b067_5 {P : Px} {x1 : Int32} {M : Mm} {rr : Int32} (h : fJ_charAt_3b067_5 x1 M = some rr) {r : Option Value × Sg} (hr : r = (some (.int rr), S M)) : RN P 3 kJ1_charAt_3b067 0 [(0, .ref 1006), (1, .int x1)] [] (S M) r := by
  unfold fJ_charAt_3b067_5 at h
  refine sb_in [(0, .iload_n 1, 1), (1, .aload_n 0, 1), (2, .arraylength, 1), (3, .invokestatic 9, 3), (6, .aload_n 0, 1), (7, .iload_n 1, 1), (8, .baload, 1), (9, .sipush 255, 3), (12, .iand, 1), (13, .i2c, 1), (14, .ireturn, 1)] 15 (by decide +kernel) ?_
  refine sb_iload_n rfl ?_
  refine sb_aload_n rfl ?_
  refine sb_balc 6 (by decide) ?_
  obtain ⟨uz2, hez1, h⟩ := bd h
  refine sb_callSv 2 rfl oJ0_checkIndex_df160 ln15_9 vJ0_checkIndex_df160 (rnCk_of (by decide +kernel) rfl) (tfJ_checkIndex_df160 hez1) ?_
  refine sb_aload_n rfl ?_
  refine sb_iload_n rfl ?_
  obtain ⟨hgz3, h⟩ := gd h
  refine sb_bcld 6 (by decide) hgz3 ?_
  refine sb_sipush cS255 ?_
  refine sb_iand ?_
  refine sb_i2c ?_
  obtain ⟨hgz4, h⟩ := gd h
  cases h
  subst hr
  refine sb_ireturn ?_
  exact ⟨.char, rfl, hgz4⟩
theorem tfJ_charAt_3b067_5 {P : Px} {x1 : Int32} {M : Mm} {rr : Int32} (h : fJ_charAt_3b067_5 x1 M = some rr) : EX P 3 kJ1_charAt_3b067 [.ref 1006, .int x1] (S M) (some (.int rr), S M) := ex_of oJ1_charAt_3b067 (Nat.le_of_ble_eq_true rfl) (nfJ_charAt_3b067_5  h rfl)
set_option maxRecDepth 20000 in
theorem nfJ_charAt_5068e_5 {P : Px} {x1 : Int32} {M : Mm} {rr : Int32} (h : fJ_charAt_5068e_5 x1 M = some rr) {r : Option Value × Sg} (hr : r = (some (.int rr), S M)) : RN P 4 kJ0_charAt_5068e 0 [(0, .ref 1005), (1, .int x1)] [] (S M) r := by
  unfold fJ_charAt_5068e_5 at h
  refine sb_in [(0, .aload_n 0, 1), (1, .invokevirtual 492, 3), (4, .ifCond .eq 12, 3)] 7 (by decide +kernel) ?_
  refine sb_aload_n rfl ?_
  refine sb_callVi 0 rfl oJ0_isLatin1_aae02 ln14_492 vJ0_isLatin1_aae02 (rc_str (Or.inr rfl)) (rnCk_of (by decide +kernel) rfl) (tfJ_isLatin1_aae02_5) ?_
  refine sb_if_eq_f 16 (by decide) (by decide) ?_
  refine sb_in [(7, .aload_n 0, 1), (8, .getfield 9, 3), (11, .iload_n 1, 1), (12, .invokestatic 495, 3), (15, .ireturn, 1)] 16 (by decide +kernel) ?_
  refine sb_aload_n rfl ?_
  refine rn_getS (v := .ref 1006) lf14_9 (fun X s h => s_val5 h) ?_
  refine sb_iload_n rfl ?_
  obtain ⟨qz2, hez1, h⟩ := bd h
  refine sb_callSi 2 rfl oJ1_charAt_3b067 ln14_495 vJ1_charAt_3b067 (rnCk_of (by decide +kernel) rfl) (tfJ_charAt_3b067_5 hez1) ?_
  obtain ⟨hgz3, h⟩ := gd h
  cases h
  subst hr
  refine sb_ireturn ?_
  exact ⟨.char, rfl, hgz3⟩
theorem tfJ_charAt_5068e_5 {P : Px} {x1 : Int32} {M : Mm} {rr : Int32} (h : fJ_charAt_5068e_5 x1 M = some rr) : EX P 4 kJ0_charAt_5068e [.ref 1005, .int x1] (S M) (some (.int rr), S M) := ex_of oJ0_charAt_5068e (Nat.le_of_ble_eq_true rfl) (nfJ_charAt_5068e_5  h rfl)
set_option maxRecDepth 20000 in
theorem nfO_isWordAt {P : Px} {x0 : Int32} {x2 : Int32} {x3 : Int32} {M : Mm} {rr : Int32} (h : fO_isWordAt x0 x2 x3 M = some rr) {r : Option Value × Sg} (hr : r = (some (.int rr), S M)) : RN P 5 kX7_isWordAt 0 [(0, .int x0), (1, .ref 178), (2, .int x2), (3, .int x3)] [] (S M) r := by
  unfold fO_isWordAt at h
  refine sb_in [(0, .iload_n 2, 1), (1, .istore 4, 2)] 3 (by decide +kernel) ?_
  refine sb_iload_n rfl ?_
  refine sb_istore (by decide) rfl ?_
  refine sb_end ?_
  obtain ⟨e3, hl3, h⟩ := bd h
  refine rn_sub [0, 1, 2, 3, 4] rfl ?_
  refine lp_ind (P := fun s => RN P 5 kX7_isWordAt 3 [(0, .int x0), (1, .ref 178), (2, .int x2), (3, .int x3), (4, .int s)] [] (S M) r) (E := fun e => match e with | Sum.inl p => RN P 5 kX7_isWordAt 27 [] [] (S M) r | Sum.inr p => RN P 5 kX7_isWordAt 35 [] [] (S M) r) ?_ _ _ _ hl3 ?_
  · intro x4 qx h hc
    replace h : fO_isWordAt_b3 x0 x2 x3 M x4 = some qx := h
    show RN P 5 kX7_isWordAt 3 [(0, .int x0), (1, .ref 178), (2, .int x2), (3, .int x3), (4, .int x4)] [] (S M) r
    unfold fO_isWordAt_b3 at h
    refine sb_in [(3, .iload 4, 2), (5, .iload_n 3, 1), (6, .if_icmp .ge 29, 3)] 9 (by decide +kernel) ?_
    refine sb_iload rfl ?_
    refine sb_iload_n rfl ?_
    rcases ife h with ⟨cz4, h⟩ | ⟨cz4, h⟩
    · refine sb_icmp_ge_t 35 cz4 (by decide) ?_
      cases h
      exact rn_sub [] rfl hc
    · refine sb_icmp_ge_f 35 cz4 (by decide) ?_
      refine sb_in [(9, .ldc 55, 2), (11, .iload_n 0, 1), (12, .iload 4, 2), (14, .iadd, 1), (15, .iload_n 2, 1), (16, .isub, 1), (17, .invokevirtual 61, 3), (20, .aload_n 1, 1), (21, .iload 4, 2), (23, .baload, 1), (24, .if_icmp .eq 5, 3)] 27 (by decide +kernel) ?_
      refine sb_ldcS5 rfl ?_
      refine sb_iload_n rfl ?_
      refine sb_iload rfl ?_
      refine sb_iadd ?_
      refine sb_iload_n rfl ?_
      refine sb_isub ?_
      obtain ⟨qz2, hez1, h⟩ := bd h
      refine sb_callVi 1 rfl oJ0_charAt_5068e ln7_61 vJ0_charAt_5068e (rc_str (Or.inr rfl)) (rnCk_of (by decide +kernel) rfl) (tfJ_charAt_5068e_5 hez1) ?_
      refine sb_aload_n rfl ?_
      refine sb_iload rfl ?_
      obtain ⟨hgz3, h⟩ := gd h
      refine ss_bald h178 hgz3 ?_
      rcases ife h with ⟨cz5, h⟩ | ⟨cz5, h⟩
      · refine sb_icmp_eq_t 29 cz5 (by decide) ?_
        refine sb_in [(29, .iinc 4 1, 3), (32, .goto (-29), 3)] 35 (by decide +kernel) ?_
        refine ss_iinc cI1 rfl (by decide) rfl ?_
        refine sb_goto 3 (by decide) ?_
        cases h
        exact rn_sub [0, 1, 2, 3, 4] rfl hc
      · refine sb_icmp_eq_f 29 cz5 (by decide) ?_
        cases h
        exact rn_sub [] rfl hc
  · clear hl3
    rcases e3 with e3 | e3
    · skip
      show RN P 5 kX7_isWordAt 27 [] [] (S M) r
      refine sb_in [(27, .iconst 0, 1), (28, .ireturn, 1)] 29 (by decide +kernel) ?_
      refine sb_iconst cI0 ?_
      cases h
      subst hr
      refine sb_ireturn ?_
      exact ⟨.boolean, rfl, by decide⟩
    · skip
      show RN P 5 kX7_isWordAt 35 [] [] (S M) r
      refine sb_in [(35, .iconst 1, 1), (36, .ireturn, 1)] 37 (by decide +kernel) ?_
      refine sb_iconst cI1 ?_
      cases h
      subst hr
      refine sb_ireturn ?_
      exact ⟨.boolean, rfl, by decide⟩
theorem tfO_isWordAt {P : Px} {x0 : Int32} {x2 : Int32} {x3 : Int32} {M : Mm} {rr : Int32} (h : fO_isWordAt x0 x2 x3 M = some rr) : EX P 5 kX7_isWordAt [.int x0, .ref 178, .int x2, .int x3] (S M) (some (.int rr), S M) := ex_of oX7_isWordAt (Nat.le_of_ble_eq_true rfl) (nfO_isWordAt  h rfl)
set_option maxRecDepth 20000 in
theorem nfO_wordOf {P : Px} {x1 : Int32} {x2 : Int32} {M : Mm} {rr : Int32} (h : fO_wordOf x1 x2 M = some rr) {r : Option Value × Sg} (hr : r = (some (.int rr), S M)) : RN P 6 kX7_wordOf 0 [(0, .ref 178), (1, .int x1), (2, .int x2)] [] (S M) r := by
  unfold fO_wordOf at h
  refine sb_in [(0, .sipush 256, 3), (3, .istore_n 3, 1), (4, .iconst 0, 1), (5, .istore 4, 2), (7, .iconst 0, 1), (8, .istore 5, 2)] 10 (by decide +kernel) ?_
  refine sb_sipush cS256 ?_
  refine sb_istore_n (by decide) rfl ?_
  refine sb_iconst cI0 ?_
  refine sb_istore (by decide) rfl ?_
  refine sb_iconst cI0 ?_
  refine sb_istore (by decide) rfl ?_
  refine sb_end ?_
  obtain ⟨e10, hl10, h⟩ := bd h
  refine rn_sub [0, 1, 2, 3, 4, 5] rfl ?_
  refine lp_ind (P := fun s => RN P 6 kX7_wordOf 10 [(0, .ref 178), (1, .int x1), (2, .int x2), (3, .int s.1), (4, .int s.2.1), (5, .int s.2.2)] [] (S M) r) (E := fun e => match e with | Sum.inl p => RN P 6 kX7_wordOf 54 [(3, .int p)] [] (S M) r | Sum.inr p => RN P 6 kX7_wordOf 71 [] [] (S M) r) ?_ _ _ _ hl10 ?_
  · intro s qx h hc
    obtain ⟨x3, x4, x5⟩ := s
    replace h : fO_wordOf_b10 x1 x2 M x3 x4 x5 = some qx := h
    show RN P 6 kX7_wordOf 10 [(0, .ref 178), (1, .int x1), (2, .int x2), (3, .int x3), (4, .int x4), (5, .int x5)] [] (S M) r
    unfold fO_wordOf_b10 at h
    refine sb_in [(10, .iload 5, 2), (12, .ldc 55, 2), (14, .invokevirtual 57, 3), (17, .if_icmp .ge 54, 3)] 20 (by decide +kernel) ?_
    refine sb_iload rfl ?_
    refine sb_ldcS5 rfl ?_
    refine sb_callVi 0 rfl oJ0_length_8abf5 ln7_57 vJ0_length_8abf5 (rc_str (Or.inr rfl)) (rnCk_of (by decide +kernel) rfl) (tfJ_length_8abf5_5) ?_
    rcases ife h with ⟨cz8, h⟩ | ⟨cz8, h⟩
    · refine sb_icmp_ge_t 71 cz8 (by decide) ?_
      cases h
      exact rn_sub [] rfl hc
    · refine sb_icmp_ge_f 71 cz8 (by decide) ?_
      refine sb_in [(20, .ldc 55, 2), (22, .iload 5, 2), (24, .invokevirtual 61, 3), (27, .bipush 32, 2), (29, .if_icmp .ne 36, 3)] 32 (by decide +kernel) ?_
      refine sb_ldcS5 rfl ?_
      refine sb_iload rfl ?_
      obtain ⟨qz3, hez2, h⟩ := bd h
      refine sb_callVi 1 rfl oJ0_charAt_5068e ln7_61 vJ0_charAt_5068e (rc_str (Or.inr rfl)) (rnCk_of (by decide +kernel) rfl) (tfJ_charAt_5068e_5 hez2) ?_
      refine sb_bipush cB32 ?_
      have hJ65 : ∀ (z3 : Int32) (z4 : Int32) (z5 : Int32), fO_wordOf_j65 x1 x2 z3 z4 z5 M = some qx → RN P 6 kX7_wordOf 65 [(0, .ref 178), (1, .int x1), (2, .int x2), (3, .int z3), (4, .int z4), (5, .int z5)] [] (S M) r := by
        intro z3 z4 z5 h
        unfold fO_wordOf_j65 at h
        refine sb_in [(65, .iinc 5 1, 3), (68, .goto (-58), 3)] 71 (by decide +kernel) ?_
        refine ss_iinc cI1 rfl (by decide) rfl ?_
        refine sb_goto 10 (by decide) ?_
        cases h
        exact rn_sub [0, 1, 2, 3, 4, 5] rfl hc
      rcases ife h with ⟨cz9, h⟩ | ⟨cz9, h⟩
      · refine sb_icmp_ne_f 65 cz9 (by decide) ?_
        refine sb_in [(32, .iload 5, 2), (34, .iload 4, 2), (36, .isub, 1), (37, .iload_n 2, 1), (38, .iload_n 1, 1), (39, .isub, 1), (40, .if_icmp .ne 16, 3)] 43 (by decide +kernel) ?_
        refine sb_iload rfl ?_
        refine sb_iload rfl ?_
        refine sb_isub ?_
        refine sb_iload_n rfl ?_
        refine sb_iload_n rfl ?_
        refine sb_isub ?_
        have hJ56 : ∀ (z3 : Int32) (z5 : Int32), fO_wordOf_j56 x1 x2 z3 z5 M = some qx → RN P 6 kX7_wordOf 56 [(0, .ref 178), (1, .int x1), (2, .int x2), (3, .int z3), (5, .int z5)] [] (S M) r := by
          intro z3 z5 h
          unfold fO_wordOf_j56 at h
          refine sb_in [(56, .iinc 3 1, 3), (59, .iload 5, 2), (61, .iconst 1, 1), (62, .iadd, 1), (63, .istore 4, 2)] 65 (by decide +kernel) ?_
          refine ss_iinc cI1 rfl (by decide) rfl ?_
          refine sb_iload rfl ?_
          refine sb_iconst cI1 ?_
          refine sb_iadd ?_
          refine sb_istore (by decide) rfl ?_
          refine sb_end ?_
          exact rn_sub [0, 1, 2, 3, 4, 5] rfl (hJ65 _ _ _ h)
        rcases ife h with ⟨cz10, h⟩ | ⟨cz10, h⟩
        · refine sb_icmp_ne_f 56 cz10 (by decide) ?_
          refine sb_in [(43, .iload 4, 2), (45, .aload_n 0, 1), (46, .iload_n 1, 1), (47, .iload_n 2, 1), (48, .invokestatic 65, 3), (51, .ifCond .eq 5, 3)] 54 (by decide +kernel) ?_
          refine sb_iload rfl ?_
          refine sb_aload_n rfl ?_
          refine sb_iload_n rfl ?_
          refine sb_iload_n rfl ?_
          obtain ⟨qz5, hez4, h⟩ := bd h
          refine sb_callSi 4 rfl oX7_isWordAt ln7_65 vX7_isWordAt (rnCk_of (by decide +kernel) rfl) (tfO_isWordAt hez4) ?_
          rcases ife h with ⟨cz11, h⟩ | ⟨cz11, h⟩
          · refine sb_if_eq_t 56 cz11 (by decide) ?_
            exact rn_sub [0, 1, 2, 3, 5] rfl (hJ56 _ _ h)
          · refine sb_if_eq_f 56 cz11 (by decide) ?_
            cases h
            exact rn_sub [3] rfl hc
        · refine sb_icmp_ne_t 56 cz10 (by decide) ?_
          exact rn_sub [0, 1, 2, 3, 5] rfl (hJ56 _ _ h)
      · refine sb_icmp_ne_t 65 cz9 (by decide) ?_
        exact rn_sub [0, 1, 2, 3, 4, 5] rfl (hJ65 _ _ _ h)
  · clear hl10
    rcases e10 with e10 | e10
    · skip
      obtain ⟨yz7, hey⟩ : ∃ z, z = e10 := ⟨_, rfl⟩
      subst hey
      show RN P 6 kX7_wordOf 54 [(3, .int yz7)] [] (S M) r
      refine sb_in [(54, .iload_n 3, 1), (55, .ireturn, 1)] 56 (by decide +kernel) ?_
      refine sb_iload_n rfl ?_
      cases h
      subst hr
      refine sb_ireturn ?_
      exact ⟨.int, rfl, rfl⟩
    · skip
      show RN P 6 kX7_wordOf 71 [] [] (S M) r
      refine sb_in [(71, .iconst 0, 1), (72, .ireturn, 1)] 73 (by decide +kernel) ?_
      refine sb_iconst cI0 ?_
      cases h
      subst hr
      refine sb_ireturn ?_
      exact ⟨.int, rfl, rfl⟩
theorem tfO_wordOf {P : Px} {x1 : Int32} {x2 : Int32} {M : Mm} {rr : Int32} (h : fO_wordOf x1 x2 M = some rr) : EX P 6 kX7_wordOf [.ref 178, .int x1, .int x2] (S M) (some (.int rr), S M) := ex_of oX7_wordOf (Nat.le_of_ble_eq_true rfl) (nfO_wordOf  h rfl)
set_option maxRecDepth 20000 in
theorem nfO_weigh {P : Px} {x1 : Int32} {M : Mm} {rr : Mm} (h : fO_weigh x1 M = some rr) {r : Option Value × Sg} (hr : r = (none, S rr)) : RN P 7 kX7_weigh 0 [(0, .ref 162), (1, .int x1), (2, .ref 178)] [] (S M) r := by
  unfold fO_weigh at h
  refine sb_in [(0, .aload_n 0, 1), (1, .getfield 11, 3), (4, .iload_n 1, 1), (5, .iaload, 1), (6, .iconst 4, 1), (7, .if_icmp .ne 28, 3)] 10 (by decide +kernel) ?_
  refine sb_aload_n rfl ?_
  refine ss_getR g7_11 h162 r162_1 ?_
  refine sb_iload_n rfl ?_
  obtain ⟨hgz1, h⟩ := gd h
  refine ss_iald h163 hgz1 ?_
  refine sb_iconst cI4 ?_
  rcases ife h with ⟨cz22, h⟩ | ⟨cz22, h⟩
  · refine sb_icmp_ne_f 35 cz22 (by decide) ?_
    refine sb_in [(10, .aload_n 0, 1), (11, .getfield 11, 3), (14, .iload_n 1, 1), (15, .aload_n 2, 1), (16, .aload_n 0, 1), (17, .getfield 18, 3), (20, .iload_n 1, 1), (21, .iaload, 1), (22, .aload_n 0, 1), (23, .getfield 21, 3), (26, .iload_n 1, 1), (27, .iaload, 1), (28, .invokestatic 51, 3), (31, .iastore, 1), (32, .goto 95, 3)] 35 (by decide +kernel) ?_
    refine sb_aload_n rfl ?_
    refine ss_getR g7_11 h162 r162_1 ?_
    refine sb_iload_n rfl ?_
    refine sb_aload_n rfl ?_
    refine sb_aload_n rfl ?_
    refine ss_getR g7_18 h162 r162_3 ?_
    refine sb_iload_n rfl ?_
    obtain ⟨hgz16, h⟩ := gd h
    refine ss_iald h165 hgz16 ?_
    refine sb_aload_n rfl ?_
    refine ss_getR g7_21 h162 r162_4 ?_
    refine sb_iload_n rfl ?_
    obtain ⟨hgz17, h⟩ := gd h
    refine ss_iald h166 hgz17 ?_
    obtain ⟨qz19, hez18, h⟩ := bd h
    refine sb_callSi 3 rfl oX7_wordOf ln7_51 vX7_wordOf (rnCk_of (by decide +kernel) rfl) (tfO_wordOf hez18) ?_
    obtain ⟨hgz21, h⟩ := gd h
    refine ss_iast h163 (by decide) hgz21 ?_
    refine sb_goto 127 (by decide) ?_
    refine sb_in [(127, .return_, 1)] 128 (by decide +kernel) ?_
    cases h
    subst hr
    refine sb_return ?_
    exact rfl
  · refine sb_icmp_ne_t 35 cz22 (by decide) ?_
    refine sb_in [(35, .aload_n 0, 1), (36, .getfield 11, 3), (39, .iload_n 1, 1), (40, .iaload, 1), (41, .iconst 1, 1), (42, .if_icmp .ne 30, 3)] 45 (by decide +kernel) ?_
    refine sb_aload_n rfl ?_
    refine ss_getR g7_11 h162 r162_1 ?_
    refine sb_iload_n rfl ?_
    obtain ⟨hgz2, h⟩ := gd h
    refine ss_iald h163 hgz2 ?_
    refine sb_iconst cI1 ?_
    have hJ72 : ∀ (z1 : Int32) (M : Mm), fO_weigh_j72 z1 M = some rr → RN P 7 kX7_weigh 72 [(0, .ref 162), (1, .int z1), (2, .ref 178)] [] (S M) r := by
      intro z1 M h
      unfold fO_weigh_j72 at h
      refine sb_in [(72, .aload_n 0, 1), (73, .getfield 11, 3), (76, .iload_n 1, 1), (77, .iaload, 1), (78, .iconst 1, 1), (79, .if_icmp .ne 48, 3)] 82 (by decide +kernel) ?_
      refine sb_aload_n rfl ?_
      refine ss_getR g7_11 h162 r162_1 ?_
      refine sb_iload_n rfl ?_
      obtain ⟨hgz7, h⟩ := gd h
      refine ss_iald h163 hgz7 ?_
      refine sb_iconst cI1 ?_
      rcases ife h with ⟨cz23, h⟩ | ⟨cz23, h⟩
      · refine sb_icmp_ne_f 127 cz23 (by decide) ?_
        refine sb_in [(82, .aload_n 0, 1), (83, .getfield 18, 3), (86, .iload_n 1, 1), (87, .iaload, 1), (88, .istore_n 3, 1)] 89 (by decide +kernel) ?_
        refine sb_aload_n rfl ?_
        refine ss_getR g7_18 h162 r162_3 ?_
        refine sb_iload_n rfl ?_
        obtain ⟨hgz8, h⟩ := gd h
        refine ss_iald h165 hgz8 ?_
        refine sb_istore_n (by decide) rfl ?_
        refine sb_end ?_
        obtain ⟨e89, hl89, h⟩ := bd h
        refine rn_sub [0, 1, 2, 3] rfl ?_
        refine lp_ind (P := fun s => RN P 7 kX7_weigh 89 [(0, .ref 162), (1, .int z1), (2, .ref 178), (3, .int s.1)] [] (S s.2) r) (E := fun p => RN P 7 kX7_weigh 127 [] [] (S p) r) ?_ _ _ _ hl89 ?_
        · intro s qx h hc
          obtain ⟨x3, M⟩ := s
          replace h : fO_weigh_b89 z1 x3 M = some qx := h
          show RN P 7 kX7_weigh 89 [(0, .ref 162), (1, .int z1), (2, .ref 178), (3, .int x3)] [] (S M) r
          generalize z1 = x1 at h hc ⊢
          unfold fO_weigh_b89 at h
          refine sb_in [(89, .iload_n 3, 1), (90, .aload_n 0, 1), (91, .getfield 21, 3), (94, .iload_n 1, 1), (95, .iaload, 1), (96, .if_icmp .ge 31, 3)] 99 (by decide +kernel) ?_
          refine sb_iload_n rfl ?_
          refine sb_aload_n rfl ?_
          refine ss_getR g7_21 h162 r162_4 ?_
          refine sb_iload_n rfl ?_
          obtain ⟨hgz10, h⟩ := gd h
          refine ss_iald h166 hgz10 ?_
          rcases ife h with ⟨cz24, h⟩ | ⟨cz24, h⟩
          · refine sb_icmp_ge_t 127 cz24 (by decide) ?_
            cases h
            exact rn_sub [] rfl hc
          · refine sb_icmp_ge_f 127 cz24 (by decide) ?_
            refine sb_in [(99, .aload_n 0, 1), (100, .getfield 15, 3), (103, .iload_n 1, 1), (104, .bipush 10, 2), (106, .aload_n 0, 1), (107, .getfield 15, 3), (110, .iload_n 1, 1), (111, .iaload, 1), (112, .imul, 1), (113, .aload_n 2, 1), (114, .iload_n 3, 1), (115, .baload, 1), (116, .iadd, 1), (117, .bipush 48, 2), (119, .isub, 1), (120, .iastore, 1), (121, .iinc 3 1, 3), (124, .goto (-35), 3)] 127 (by decide +kernel) ?_
            refine sb_aload_n rfl ?_
            refine ss_getR g7_15 h162 r162_2 ?_
            refine sb_iload_n rfl ?_
            refine sb_bipush cB10 ?_
            refine sb_aload_n rfl ?_
            refine ss_getR g7_15 h162 r162_2 ?_
            refine sb_iload_n rfl ?_
            obtain ⟨hgz11, h⟩ := gd h
            refine ss_iald h164 hgz11 ?_
            refine sb_imul ?_
            refine sb_aload_n rfl ?_
            refine sb_iload_n rfl ?_
            obtain ⟨hgz12, h⟩ := gd h
            refine ss_bald h178 hgz12 ?_
            refine sb_iadd ?_
            refine sb_bipush cB48 ?_
            refine sb_isub ?_
            obtain ⟨hgz14, h⟩ := gd h
            refine ss_iast h164 (by decide) hgz14 ?_
            refine ss_iinc cI1 rfl (by decide) rfl ?_
            refine sb_goto 89 (by decide) ?_
            cases h
            exact rn_sub [0, 1, 2, 3] rfl hc
        · clear hl89
          obtain ⟨Mz15, hey⟩ : ∃ z, z = e89 := ⟨_, rfl⟩
          subst hey
          show RN P 7 kX7_weigh 127 [] [] (S Mz15) r
          refine sb_in [(127, .return_, 1)] 128 (by decide +kernel) ?_
          cases h
          subst hr
          refine sb_return ?_
          exact rfl
      · refine sb_icmp_ne_t 127 cz23 (by decide) ?_
        refine sb_in [(127, .return_, 1)] 128 (by decide +kernel) ?_
        cases h
        subst hr
        refine sb_return ?_
        exact rfl
    rcases ife h with ⟨cz25, h⟩ | ⟨cz25, h⟩
    · refine sb_icmp_ne_f 72 cz25 (by decide) ?_
      refine sb_in [(45, .aload_n 0, 1), (46, .getfield 21, 3), (49, .iload_n 1, 1), (50, .iaload, 1), (51, .aload_n 0, 1), (52, .getfield 18, 3), (55, .iload_n 1, 1), (56, .iaload, 1), (57, .isub, 1), (58, .iconst 4, 1), (59, .if_icmp .le 13, 3)] 62 (by decide +kernel) ?_
      refine sb_aload_n rfl ?_
      refine ss_getR g7_21 h162 r162_4 ?_
      refine sb_iload_n rfl ?_
      obtain ⟨hgz3, h⟩ := gd h
      refine ss_iald h166 hgz3 ?_
      refine sb_aload_n rfl ?_
      refine ss_getR g7_18 h162 r162_3 ?_
      refine sb_iload_n rfl ?_
      obtain ⟨hgz4, h⟩ := gd h
      refine ss_iald h165 hgz4 ?_
      refine sb_isub ?_
      refine sb_iconst cI4 ?_
      rcases ife h with ⟨cz26, h⟩ | ⟨cz26, h⟩
      · refine sb_icmp_le_t 72 cz26 (by decide) ?_
        exact rn_sub [0, 1, 2] rfl (hJ72 _ _ h)
      · refine sb_icmp_le_f 72 cz26 (by decide) ?_
        refine sb_in [(62, .aload_n 0, 1), (63, .getfield 11, 3), (66, .iload_n 1, 1), (67, .iconst 0, 1), (68, .iastore, 1), (69, .goto 58, 3)] 72 (by decide +kernel) ?_
        refine sb_aload_n rfl ?_
        refine ss_getR g7_11 h162 r162_1 ?_
        refine sb_iload_n rfl ?_
        refine sb_iconst cI0 ?_
        obtain ⟨hgz6, h⟩ := gd h
        refine ss_iast h163 (by decide) hgz6 ?_
        refine sb_goto 127 (by decide) ?_
        refine sb_in [(127, .return_, 1)] 128 (by decide +kernel) ?_
        cases h
        subst hr
        refine sb_return ?_
        exact rfl
    · refine sb_icmp_ne_t 72 cz25 (by decide) ?_
      exact rn_sub [0, 1, 2] rfl (hJ72 _ _ h)
theorem tfO_weigh {P : Px} {x1 : Int32} {M : Mm} {rr : Mm} (h : fO_weigh x1 M = some rr) : EX P 7 kX7_weigh [.ref 162, .int x1, .ref 178] (S M) (none, S rr) := ex_of oX7_weigh (Nat.le_of_ble_eq_true rfl) (nfO_weigh  h rfl)
set_option maxRecDepth 20000 in
theorem nfO_scan {P : Px} {x2 : Int32} {M : Mm} {rr : Mm} (h : fO_scan x2 M = some rr) {r : Option Value × Sg} (hr : r = (none, S rr)) : RN P 8 kX7_scan 0 [(0, .ref 162), (1, .ref 178), (2, .int x2)] [] (S M) r := by
  unfold fO_scan at h
  refine sb_in [(0, .aload_n 0, 1), (1, .iconst 0, 1), (2, .putfield 24, 3), (5, .iconst 3, 1), (6, .istore_n 3, 1), (7, .iconst 0, 1), (8, .istore 4, 2)] 10 (by decide +kernel) ?_
  refine sb_aload_n rfl ?_
  refine sb_iconst cI0 ?_
  refine ss_putI p7_24 h162 (by decide) ?_
  refine sb_iconst cI3 ?_
  refine sb_istore_n (by decide) rfl ?_
  refine sb_iconst cI0 ?_
  refine sb_istore (by decide) rfl ?_
  refine sb_end ?_
  obtain ⟨e10, hl10, h⟩ := bd h
  refine rn_sub [0, 1, 2, 3, 4] rfl ?_
  refine lp_ind (P := fun s => RN P 8 kX7_scan 10 [(0, .ref 162), (1, .ref 178), (2, .int x2), (3, .int s.1), (4, .int s.2.1)] [] (S s.2.2) r) (E := fun p => RN P 8 kX7_scan 114 [(0, .ref 162), (1, .ref 178), (2, .int x2)] [] (S p) r) ?_ _ _ _ hl10 ?_
  · intro s qx h hc
    obtain ⟨x3, x4, M⟩ := s
    replace h : fO_scan_b10 x2 x3 x4 M = some qx := h
    show RN P 8 kX7_scan 10 [(0, .ref 162), (1, .ref 178), (2, .int x2), (3, .int x3), (4, .int x4)] [] (S M) r
    unfold fO_scan_b10 at h
    refine sb_in [(10, .iload 4, 2), (12, .iload_n 2, 1), (13, .if_icmp .ge 101, 3)] 16 (by decide +kernel) ?_
    refine sb_iload rfl ?_
    refine sb_iload_n rfl ?_
    rcases ife h with ⟨cz19, h⟩ | ⟨cz19, h⟩
    · refine sb_icmp_ge_t 114 cz19 (by decide) ?_
      cases h
      exact rn_sub [0, 1, 2] rfl hc
    · refine sb_icmp_ge_f 114 cz19 (by decide) ?_
      refine sb_in [(16, .iload 4, 2), (18, .aload_n 1, 1), (19, .arraylength, 1), (20, .if_icmp .ge 94, 3)] 23 (by decide +kernel) ?_
      refine sb_iload rfl ?_
      refine sb_aload_n rfl ?_
      refine ss_alen h178 (Or.inr (Or.inl rfl)) nL400 ?_
      rcases ife h with ⟨cz20, h⟩ | ⟨cz20, h⟩
      · refine sb_icmp_ge_t 114 cz20 (by decide) ?_
        cases h
        exact rn_sub [0, 1, 2] rfl hc
      · refine sb_icmp_ge_f 114 cz20 (by decide) ?_
        refine sb_in [(23, .aload_n 1, 1), (24, .iload 4, 2), (26, .baload, 1), (27, .invokestatic 28, 3), (30, .istore 5, 2), (32, .iload 5, 2), (34, .iload_n 3, 1), (35, .if_icmp .ne 19, 3)] 38 (by decide +kernel) ?_
        refine sb_aload_n rfl ?_
        refine sb_iload rfl ?_
        obtain ⟨hgz2, h⟩ := gd h
        refine ss_bald h178 hgz2 ?_
        obtain ⟨qz4, hez3, h⟩ := bd h
        refine sb_callSi 1 rfl oX7_sortOf ln7_28 vX7_sortOf (rnCk_of (by decide +kernel) rfl) (tfO_sortOf hez3) ?_
        refine sb_istore (by decide) rfl ?_
        refine sb_iload rfl ?_
        refine sb_iload_n rfl ?_
        have hJ55 : RN P 8 kX7_scan 55 [(0, .ref 162), (1, .ref 178), (2, .int x2), (4, .int x4), (5, .int qz4)] [.int (if qz4 = x3 then (if qz4 = 4 then (1 : Int32) else (if qz4 = 1 then (1 : Int32) else 0)) else 0)] (S M) r := by
          refine sb_in [(55, .istore 6, 2), (57, .iload 6, 2), (59, .ifCond .eq 28, 3)] 62 (by decide +kernel) ?_
          refine sb_istore (by decide) rfl ?_
          refine sb_iload rfl ?_
          obtain ⟨Mz12, hj105, h⟩ := bd h
          have hJ105 : RN P 8 kX7_scan 105 [(0, .ref 162), (1, .ref 178), (2, .int x2), (4, .int x4), (5, .int qz4)] [] (S Mz12) r := by
            refine sb_in [(105, .iload 5, 2), (107, .istore_n 3, 1), (108, .iinc 4 1, 3), (111, .goto (-101), 3)] 114 (by decide +kernel) ?_
            refine sb_iload rfl ?_
            refine sb_istore_n (by decide) rfl ?_
            refine ss_iinc cI1 rfl (by decide) rfl ?_
            refine sb_goto 10 (by decide) ?_
            cases h
            exact rn_sub [0, 1, 2, 3, 4] rfl hc
          clear h
          have h := hj105
          clear hj105
          rcases ife h with ⟨cz21, h⟩ | ⟨cz21, h⟩
          · refine sb_if_eq_t 87 cz21 (by decide) ?_
            refine sb_in [(87, .iload 5, 2), (89, .iconst 3, 1), (90, .if_icmp .eq 15, 3)] 93 (by decide +kernel) ?_
            refine sb_iload rfl ?_
            refine sb_iconst cI3 ?_
            rcases ife h with ⟨cz22, h⟩ | ⟨cz22, h⟩
            · refine sb_icmp_eq_t 105 cz22 (by decide) ?_
              cases h
              exact rn_sub [0, 1, 2, 4, 5] rfl hJ105
            · refine sb_icmp_eq_f 105 cz22 (by decide) ?_
              refine sb_in [(93, .aload_n 0, 1), (94, .iload 5, 2), (96, .iload 4, 2), (98, .iload 4, 2), (100, .iconst 1, 1), (101, .iadd, 1), (102, .invokevirtual 32, 3)] 105 (by decide +kernel) ?_
              refine sb_aload_n rfl ?_
              refine sb_iload rfl ?_
              refine sb_iload rfl ?_
              refine sb_iload rfl ?_
              refine sb_iconst cI1 ?_
              refine sb_iadd ?_
              obtain ⟨Mz7, hez6, h⟩ := bd h
              refine sb_callVv 3 rfl oX7_add ln7_32 vX7_add (rc_own h162.1 (S_lt h162.2) (by decide)) (rnCk_of (by decide +kernel) rfl) (tfO_add hez6) ?_
              refine sb_end ?_
              cases h
              exact rn_sub [0, 1, 2, 4, 5] rfl hJ105
          · refine sb_if_eq_f 87 cz21 (by decide) ?_
            refine sb_in [(62, .aload_n 0, 1), (63, .getfield 24, 3), (66, .ifCond .le 21, 3)] 69 (by decide +kernel) ?_
            refine sb_aload_n rfl ?_
            refine ss_getI g7_24 h162 ?_
            rcases ife h with ⟨cz23, h⟩ | ⟨cz23, h⟩
            · refine sb_if_le_t 87 cz23 (by decide) ?_
              refine sb_in [(87, .iload 5, 2), (89, .iconst 3, 1), (90, .if_icmp .eq 15, 3)] 93 (by decide +kernel) ?_
              refine sb_iload rfl ?_
              refine sb_iconst cI3 ?_
              rcases ife h with ⟨cz24, h⟩ | ⟨cz24, h⟩
              · refine sb_icmp_eq_t 105 cz24 (by decide) ?_
                cases h
                exact rn_sub [0, 1, 2, 4, 5] rfl hJ105
              · refine sb_icmp_eq_f 105 cz24 (by decide) ?_
                refine sb_in [(93, .aload_n 0, 1), (94, .iload 5, 2), (96, .iload 4, 2), (98, .iload 4, 2), (100, .iconst 1, 1), (101, .iadd, 1), (102, .invokevirtual 32, 3)] 105 (by decide +kernel) ?_
                refine sb_aload_n rfl ?_
                refine sb_iload rfl ?_
                refine sb_iload rfl ?_
                refine sb_iload rfl ?_
                refine sb_iconst cI1 ?_
                refine sb_iadd ?_
                obtain ⟨Mz9, hez8, h⟩ := bd h
                refine sb_callVv 3 rfl oX7_add ln7_32 vX7_add (rc_own h162.1 (S_lt h162.2) (by decide)) (rnCk_of (by decide +kernel) rfl) (tfO_add hez8) ?_
                refine sb_end ?_
                cases h
                exact rn_sub [0, 1, 2, 4, 5] rfl hJ105
            · refine sb_if_le_f 87 cz23 (by decide) ?_
              refine sb_in [(69, .aload_n 0, 1), (70, .getfield 21, 3), (73, .aload_n 0, 1), (74, .getfield 24, 3), (77, .iconst 1, 1), (78, .isub, 1), (79, .iload 4, 2), (81, .iconst 1, 1), (82, .iadd, 1), (83, .iastore, 1), (84, .goto 21, 3)] 87 (by decide +kernel) ?_
              refine sb_aload_n rfl ?_
              refine ss_getR g7_21 h162 r162_4 ?_
              refine sb_aload_n rfl ?_
              refine ss_getI g7_24 h162 ?_
              refine sb_iconst cI1 ?_
              refine sb_isub ?_
              refine sb_iload rfl ?_
              refine sb_iconst cI1 ?_
              refine sb_iadd ?_
              obtain ⟨hgz11, h⟩ := gd h
              refine ss_iast h166 (by decide) hgz11 ?_
              refine sb_goto 105 (by decide) ?_
              cases h
              exact rn_sub [0, 1, 2, 4, 5] rfl hJ105
        rcases Decidable.em (qz4 = x3) with cz25 | cz25
        · refine sb_icmp_ne_f 54 cz25 (by decide) ?_
          refine sb_in [(38, .iload 5, 2), (40, .iconst 4, 1), (41, .if_icmp .eq 9, 3)] 44 (by decide +kernel) ?_
          refine sb_iload rfl ?_
          refine sb_iconst cI4 ?_
          rcases Decidable.em (qz4 = 4) with cz26 | cz26
          · refine sb_icmp_eq_t 50 cz26 (by decide) ?_
            refine sb_in [(50, .iconst 1, 1), (51, .goto 4, 3)] 54 (by decide +kernel) ?_
            refine sb_iconst cI1 ?_
            refine sb_goto 55 (by decide) ?_
            have hq := hJ55
            simp only [if_pos cz25] at hq
            simp only [if_pos cz26] at hq
            exact rn_sub [0, 1, 2, 4, 5] rfl hq
          · refine sb_icmp_eq_f 50 cz26 (by decide) ?_
            refine sb_in [(44, .iload 5, 2), (46, .iconst 1, 1), (47, .if_icmp .ne 7, 3)] 50 (by decide +kernel) ?_
            refine sb_iload rfl ?_
            refine sb_iconst cI1 ?_
            rcases Decidable.em (qz4 = 1) with cz27 | cz27
            · refine sb_icmp_ne_f 54 cz27 (by decide) ?_
              refine sb_in [(50, .iconst 1, 1), (51, .goto 4, 3)] 54 (by decide +kernel) ?_
              refine sb_iconst cI1 ?_
              refine sb_goto 55 (by decide) ?_
              have hq := hJ55
              simp only [if_pos cz25] at hq
              simp only [if_neg cz26] at hq
              simp only [if_pos cz27] at hq
              exact rn_sub [0, 1, 2, 4, 5] rfl hq
            · refine sb_icmp_ne_t 54 cz27 (by decide) ?_
              refine sb_in [(54, .iconst 0, 1)] 55 (by decide +kernel) ?_
              refine sb_iconst cI0 ?_
              refine sb_end ?_
              have hq := hJ55
              simp only [if_pos cz25] at hq
              simp only [if_neg cz26] at hq
              simp only [if_neg cz27] at hq
              exact rn_sub [0, 1, 2, 4, 5] rfl hq
        · refine sb_icmp_ne_t 54 cz25 (by decide) ?_
          refine sb_in [(54, .iconst 0, 1)] 55 (by decide +kernel) ?_
          refine sb_iconst cI0 ?_
          refine sb_end ?_
          have hq := hJ55
          simp only [if_neg cz25] at hq
          exact rn_sub [0, 1, 2, 4, 5] rfl hq
  · clear hl10
    obtain ⟨Mz13, hey⟩ : ∃ z, z = e10 := ⟨_, rfl⟩
    subst hey
    show RN P 8 kX7_scan 114 [(0, .ref 162), (1, .ref 178), (2, .int x2)] [] (S Mz13) r
    refine sb_in [(114, .aload_n 0, 1), (115, .iconst 2, 1), (116, .iload_n 2, 1), (117, .iload_n 2, 1), (118, .invokevirtual 32, 3), (121, .iconst 0, 1), (122, .istore 4, 2)] 124 (by decide +kernel) ?_
    refine sb_aload_n rfl ?_
    refine sb_iconst cI2 ?_
    refine sb_iload_n rfl ?_
    refine sb_iload_n rfl ?_
    obtain ⟨Mz15, hez14, h⟩ := bd h
    refine sb_callVv 3 rfl oX7_add ln7_32 vX7_add (rc_own h162.1 (S_lt h162.2) (by decide)) (rnCk_of (by decide +kernel) rfl) (tfO_add hez14) ?_
    refine sb_iconst cI0 ?_
    refine sb_istore (by decide) rfl ?_
    refine sb_end ?_
    obtain ⟨e124, hl124, h⟩ := bd h
    refine rn_sub [0, 1, 4] rfl ?_
    refine lp_ind (P := fun s => RN P 8 kX7_scan 124 [(0, .ref 162), (1, .ref 178), (4, .int s.1)] [] (S s.2) r) (E := fun p => RN P 8 kX7_scan 146 [] [] (S p) r) ?_ _ _ _ hl124 ?_
    · intro s qx h hc
      obtain ⟨x4, M⟩ := s
      replace h : fO_scan_b124 x4 M = some qx := h
      show RN P 8 kX7_scan 124 [(0, .ref 162), (1, .ref 178), (4, .int x4)] [] (S M) r
      unfold fO_scan_b124 at h
      refine sb_in [(124, .iload 4, 2), (126, .aload_n 0, 1), (127, .getfield 24, 3), (130, .if_icmp .ge 16, 3)] 133 (by decide +kernel) ?_
      refine sb_iload rfl ?_
      refine sb_aload_n rfl ?_
      refine ss_getI g7_24 h162 ?_
      rcases ife h with ⟨cz28, h⟩ | ⟨cz28, h⟩
      · refine sb_icmp_ge_t 146 cz28 (by decide) ?_
        cases h
        exact rn_sub [] rfl hc
      · refine sb_icmp_ge_f 146 cz28 (by decide) ?_
        refine sb_in [(133, .aload_n 0, 1), (134, .iload 4, 2), (136, .aload_n 1, 1), (137, .invokevirtual 36, 3), (140, .iinc 4 1, 3), (143, .goto (-19), 3)] 146 (by decide +kernel) ?_
        refine sb_aload_n rfl ?_
        refine sb_iload rfl ?_
        refine sb_aload_n rfl ?_
        obtain ⟨Mz17, hez16, h⟩ := bd h
        refine sb_callVv 2 rfl oX7_weigh ln7_36 vX7_weigh (rc_own h162.1 (S_lt h162.2) (by decide)) (rnCk_of (by decide +kernel) rfl) (tfO_weigh hez16) ?_
        refine ss_iinc cI1 rfl (by decide) rfl ?_
        refine sb_goto 124 (by decide) ?_
        cases h
        exact rn_sub [0, 1, 4] rfl hc
    · clear hl124
      obtain ⟨Mz18, hey⟩ : ∃ z, z = e124 := ⟨_, rfl⟩
      subst hey
      show RN P 8 kX7_scan 146 [] [] (S Mz18) r
      refine sb_in [(146, .return_, 1)] 147 (by decide +kernel) ?_
      cases h
      subst hr
      refine sb_return ?_
      exact rfl
theorem tfO_scan {P : Px} {x2 : Int32} {M : Mm} {rr : Mm} (h : fO_scan x2 M = some rr) : EX P 8 kX7_scan [.ref 162, .ref 178, .int x2] (S M) (none, S rr) := ex_of oX7_scan (Nat.le_of_ble_eq_true rfl) (nfO_scan  h rfl)
set_option maxRecDepth 20000 in
theorem nfL_clear {P : Px} {M : Mm} {rr : Mm} (h : fL_clear M = rr) {r : Option Value × Sg} (hr : r = (none, S rr)) : RN P 1 kX2_clear 0 [(0, .ref 148)] [] (S M) r := by
  unfold fL_clear at h
  refine sb_in [(0, .aload_n 0, 1), (1, .iconst 0, 1), (2, .putfield 37, 3), (5, .aload_n 0, 1), (6, .iconst 0, 1), (7, .putfield 49, 3), (10, .return_, 1)] 11 (by decide +kernel) ?_
  refine sb_aload_n rfl ?_
  refine sb_iconst cI0 ?_
  refine ss_putI p2_37 h148 (by decide) ?_
  refine sb_aload_n rfl ?_
  refine sb_iconst cI0 ?_
  refine ss_putI p2_49 h148 (by decide) ?_
  subst h
  subst hr
  refine sb_return ?_
  exact rfl
theorem tfL_clear {P : Px} {M : Mm} : EX P 1 kX2_clear [.ref 148] (S M) (none, S (fL_clear M)) := ex_of oX2_clear (Nat.le_of_ble_eq_true rfl) (nfL_clear  rfl rfl)
set_option maxRecDepth 20000 in
theorem nfJ_fill_53178 {P : Px} {a na : Nat} (ha : shp a 20 na) (ha0 : a ≠ 0) {x1 : Int32} {M : Mm} {rr : Mm} (h : fJ_fill_53178 a na x1 M = some rr) {r : Option Value × Sg} (hr : r = (none, S rr)) : RN P 1 kJ7_fill_53178 0 [(0, .ref a), (1, .int x1)] [] (S M) r := by
  unfold fJ_fill_53178 at h
  refine sb_in [(0, .iconst 0, 1), (1, .istore_n 2, 1), (2, .aload_n 0, 1), (3, .arraylength, 1), (4, .istore_n 3, 1)] 5 (by decide +kernel) ?_
  refine sb_iconst cI0 ?_
  refine sb_istore_n (by decide) rfl ?_
  refine sb_aload_n rfl ?_
  refine ss_alen ha (Or.inl rfl) rfl ?_
  refine sb_istore_n (by decide) rfl ?_
  refine sb_end ?_
  obtain ⟨e5, hl5, h⟩ := bd h
  refine rn_sub [0, 1, 2, 3] rfl ?_
  refine lp_ind (P := fun s => RN P 1 kJ7_fill_53178 5 [(0, .ref a), (1, .int x1), (2, .int s.1), (3, .int ((nI na)))] [] (S s.2) r) (E := fun p => RN P 1 kJ7_fill_53178 20 [] [] (S p) r) ?_ _ _ _ hl5 ?_
  · intro s qx h hc
    obtain ⟨x2, M⟩ := s
    replace h : fJ_fill_53178_b5 a na x1 ((nI na)) x2 M = some qx := h
    show RN P 1 kJ7_fill_53178 5 [(0, .ref a), (1, .int x1), (2, .int x2), (3, .int ((nI na)))] [] (S M) r
    generalize ((nI na)) = x3 at h hc ⊢
    unfold fJ_fill_53178_b5 at h
    refine sb_in [(5, .iload_n 2, 1), (6, .iload_n 3, 1), (7, .if_icmp .ge 13, 3)] 10 (by decide +kernel) ?_
    refine sb_iload_n rfl ?_
    refine sb_iload_n rfl ?_
    rcases ife h with ⟨cz5, h⟩ | ⟨cz5, h⟩
    · refine sb_icmp_ge_t 20 cz5 (by decide) ?_
      cases h
      exact rn_sub [] rfl hc
    · refine sb_icmp_ge_f 20 cz5 (by decide) ?_
      refine sb_in [(10, .aload_n 0, 1), (11, .iload_n 2, 1), (12, .iload_n 1, 1), (13, .iastore, 1), (14, .iinc 2 1, 3), (17, .goto (-12), 3)] 20 (by decide +kernel) ?_
      refine sb_aload_n rfl ?_
      refine sb_iload_n rfl ?_
      refine sb_iload_n rfl ?_
      obtain ⟨hgz3, h⟩ := gd h
      refine ss_iast ha ha0 hgz3 ?_
      refine ss_iinc cI1 rfl (by decide) rfl ?_
      refine sb_goto 5 (by decide) ?_
      cases h
      exact rn_sub [0, 1, 2, 3] rfl hc
  · clear hl5
    obtain ⟨Mz4, hey⟩ : ∃ z, z = e5 := ⟨_, rfl⟩
    subst hey
    show RN P 1 kJ7_fill_53178 20 [] [] (S Mz4) r
    refine sb_in [(20, .return_, 1)] 21 (by decide +kernel) ?_
    cases h
    subst hr
    refine sb_return ?_
    exact rfl
theorem tfJ_fill_53178 {P : Px} {a na : Nat} (ha : shp a 20 na) (ha0 : a ≠ 0) {x1 : Int32} {M : Mm} {rr : Mm} (h : fJ_fill_53178 a na x1 M = some rr) : EX P 1 kJ7_fill_53178 [.ref a, .int x1] (S M) (none, S rr) := ex_of oJ7_fill_53178 (Nat.le_of_ble_eq_true rfl) (nfJ_fill_53178 ha ha0 h rfl)
set_option maxRecDepth 20000 in
theorem nfT_clearOne {P : Px} {x1 : Int32} {M : Mm} {rr : Mm} (h : fT_clearOne x1 M = some rr) {r : Option Value × Sg} (hr : r = (none, S rr)) : RN P 2 kX6_clearOne 0 [(0, .ref 147), (1, .int x1)] [] (S M) r := by
  unfold fT_clearOne at h
  refine sb_in [(0, .iload_n 1, 1), (1, .tableswitch 53 0 2 #[27, 37, 45], 27)] 28 (by decide +kernel) ?_
  refine sb_iload_n rfl ?_
  rcases ife h with ⟨cz7, h⟩ | ⟨cz7, h⟩
  · refine sb_tsw_in (off := 27) 0 28 cz7 (by decide +kernel) ?_
    refine sb_in [(28, .aload_n 0, 1), (29, .getfield 12, 3), (32, .invokevirtual 50, 3), (35, .goto 32, 3)] 38 (by decide +kernel) ?_
    refine sb_aload_n rfl ?_
    refine ss_getR g6_12 h147 r147_0 ?_
    refine sb_callVv 0 rfl oX2_clear ln6_50 vX2_clear (rc_own h148.1 (S_lt h148.2) (by decide)) (rnCk_of (by decide +kernel) rfl) (tfL_clear) ?_
    refine sb_goto 67 (by decide) ?_
    refine sb_in [(67, .return_, 1)] 68 (by decide +kernel) ?_
    cases h
    subst hr
    refine sb_return ?_
    exact rfl
  rcases ife h with ⟨cz8, h⟩ | ⟨cz8, h⟩
  · refine sb_tsw_in (off := 37) 1 38 cz8 (by decide +kernel) ?_
    refine sb_in [(38, .aload_n 0, 1), (39, .iconst 0, 1), (40, .putfield 41, 3), (43, .goto 24, 3)] 46 (by decide +kernel) ?_
    refine sb_aload_n rfl ?_
    refine sb_iconst cI0 ?_
    refine ss_putI p6_41 h147 (by decide) ?_
    refine sb_goto 67 (by decide) ?_
    refine sb_in [(67, .return_, 1)] 68 (by decide +kernel) ?_
    cases h
    subst hr
    refine sb_return ?_
    exact rfl
  rcases ife h with ⟨cz9, h⟩ | ⟨cz9, h⟩
  · refine sb_tsw_in (off := 45) 2 46 cz9 (by decide +kernel) ?_
    refine sb_in [(46, .aload_n 0, 1), (47, .iconst 0, 1), (48, .putfield 44, 3), (51, .goto 16, 3)] 54 (by decide +kernel) ?_
    refine sb_aload_n rfl ?_
    refine sb_iconst cI0 ?_
    refine ss_putI p6_44 h147 (by decide) ?_
    refine sb_goto 67 (by decide) ?_
    refine sb_in [(67, .return_, 1)] 68 (by decide +kernel) ?_
    cases h
    subst hr
    refine sb_return ?_
    exact rfl
  refine sb_tsw_out 0 3 54 ((lt_s (lt_s (lt_s lt_0 cz7) cz8) cz9)) (by decide +kernel) ?_
  refine sb_in [(54, .aload_n 0, 1), (55, .iconst 0, 1), (56, .putfield 47, 3), (59, .aload_n 0, 1), (60, .getfield 34, 3), (63, .iconst 0, 1), (64, .invokestatic 53, 3)] 67 (by decide +kernel) ?_
  refine sb_aload_n rfl ?_
  refine sb_iconst cI0 ?_
  refine ss_putI p6_47 h147 (by decide) ?_
  refine sb_aload_n rfl ?_
  refine ss_getR g6_34 h147 r147_9 ?_
  refine sb_iconst cI0 ?_
  obtain ⟨Mz6, hez5, h⟩ := bd h
  refine sb_callSv 2 rfl oJ7_fill_53178 ln6_53 vJ7_fill_53178 (rnCk_of (by decide +kernel) rfl) (tfJ_fill_53178 h161 (by decide) hez5) ?_
  refine sb_end ?_
  refine sb_in [(67, .return_, 1)] 68 (by decide +kernel) ?_
  cases h
  subst hr
  refine sb_return ?_
  exact rfl
theorem tfT_clearOne {P : Px} {x1 : Int32} {M : Mm} {rr : Mm} (h : fT_clearOne x1 M = some rr) : EX P 2 kX6_clearOne [.ref 147, .int x1] (S M) (none, S rr) := ex_of oX6_clearOne (Nat.le_of_ble_eq_true rfl) (nfT_clearOne  h rfl)
set_option maxRecDepth 20000 in
theorem nfR_sort {P : Px} {M : Mm} {rr : Int32} (h : fR_sort M = some rr) {r : Option Value × Sg} (hr : r = (some (.int rr), S M)) : RN P 1 kX5_sort 0 [(0, .ref 146)] [] (S M) r := by
  unfold fR_sort at h
  refine sb_in [(0, .aload_n 0, 1), (1, .getfield 33, 3), (4, .ifCond .eq 5, 3)] 7 (by decide +kernel) ?_
  refine sb_aload_n rfl ?_
  refine ss_getI g5_33 h146 ?_
  rcases ife h with ⟨cz2, h⟩ | ⟨cz2, h⟩
  · refine sb_if_eq_t 9 cz2 (by decide) ?_
    refine sb_in [(9, .aload_n 0, 1), (10, .getfield 44, 3), (13, .aload_n 0, 1), (14, .getfield 25, 3), (17, .getfield 189, 3), (20, .if_icmp .ge 18, 3)] 23 (by decide +kernel) ?_
    refine sb_aload_n rfl ?_
    refine ss_getI g5_44 h146 ?_
    refine sb_aload_n rfl ?_
    refine ss_getR g5_25 h146 r146_3 ?_
    refine ss_getI g5_189 h162 ?_
    rcases ife h with ⟨cz3, h⟩ | ⟨cz3, h⟩
    · refine sb_icmp_ge_t 38 cz3 (by decide) ?_
      refine sb_in [(38, .iconst 2, 1)] 39 (by decide +kernel) ?_
      refine sb_iconst cI2 ?_
      refine sb_end ?_
      refine sb_in [(39, .ireturn, 1)] 40 (by decide +kernel) ?_
      cases h
      subst hr
      refine sb_ireturn ?_
      exact ⟨.int, rfl, rfl⟩
    · refine sb_icmp_ge_f 38 cz3 (by decide) ?_
      refine sb_in [(23, .aload_n 0, 1), (24, .getfield 25, 3), (27, .getfield 192, 3), (30, .aload_n 0, 1), (31, .getfield 44, 3), (34, .iaload, 1), (35, .goto 4, 3)] 38 (by decide +kernel) ?_
      refine sb_aload_n rfl ?_
      refine ss_getR g5_25 h146 r146_3 ?_
      refine ss_getR g5_192 h162 r162_1 ?_
      refine sb_aload_n rfl ?_
      refine ss_getI g5_44 h146 ?_
      obtain ⟨hgz1, h⟩ := gd h
      refine ss_iald h163 hgz1 ?_
      refine sb_goto 39 (by decide) ?_
      refine sb_in [(39, .ireturn, 1)] 40 (by decide +kernel) ?_
      cases h
      subst hr
      refine sb_ireturn ?_
      exact ⟨.int, rfl, rfl⟩
  · refine sb_if_eq_f 9 cz2 (by decide) ?_
    refine sb_in [(7, .iconst 0, 1), (8, .ireturn, 1)] 9 (by decide +kernel) ?_
    refine sb_iconst cI0 ?_
    cases h
    subst hr
    refine sb_ireturn ?_
    exact ⟨.int, rfl, rfl⟩
theorem tfR_sort {P : Px} {M : Mm} {rr : Int32} (h : fR_sort M = some rr) : EX P 1 kX5_sort [.ref 146] (S M) (some (.int rr), S M) := ex_of oX5_sort (Nat.le_of_ble_eq_true rfl) (nfR_sort  h rfl)
set_option maxRecDepth 20000 in
theorem nfR_isFirstWord {P : Px} {x0 : Int32} {x1 : Int32} {M : Mm} {rr : Int32} (h : fR_isFirstWord x0 x1 = some rr) {r : Option Value × Sg} (hr : r = (some (.int rr), S M)) : RN P 2 kX5_isFirstWord 0 [(0, .int x0), (1, .int x1)] [] (S M) r := by
  unfold fR_isFirstWord at h
  refine sb_in [(0, .iload_n 0, 1), (1, .tableswitch 64 0 2 #[27, 38, 51], 27)] 28 (by decide +kernel) ?_
  refine sb_iload_n rfl ?_
  rcases ife h with ⟨cz3, h⟩ | ⟨cz3, h⟩
  · refine sb_tsw_in (off := 27) 0 28 cz3 (by decide +kernel) ?_
    refine sb_in [(28, .iload_n 1, 1), (29, .sipush 256, 3), (32, .sipush 258, 3), (35, .invokestatic 76, 3), (38, .ireturn, 1)] 39 (by decide +kernel) ?_
    refine sb_iload_n rfl ?_
    refine sb_sipush cS256 ?_
    refine sb_sipush cS258 ?_
    refine sb_callSNi 3 rfl oX11_isWithin ln5_76 vX11_isWithin (rnCk_of (by decide +kernel) rfl) (tfK_isWithin) ?_
    obtain ⟨hgz2, h⟩ := gd h
    cases h
    subst hr
    refine sb_ireturn ?_
    exact ⟨.boolean, rfl, rn_nz hgz2⟩
  rcases ife h with ⟨cz4, h⟩ | ⟨cz4, h⟩
  · refine sb_tsw_in (off := 38) 1 39 cz4 (by decide +kernel) ?_
    refine sb_in [(39, .iload_n 1, 1), (40, .sipush 274, 3), (43, .if_icmp .ne 7, 3)] 46 (by decide +kernel) ?_
    refine sb_iload_n rfl ?_
    refine sb_sipush cS274 ?_
    rcases ife h with ⟨cz5, h⟩ | ⟨cz5, h⟩
    · refine sb_icmp_ne_f 50 cz5 (by decide) ?_
      refine sb_in [(46, .iconst 1, 1), (47, .goto 4, 3)] 50 (by decide +kernel) ?_
      refine sb_iconst cI1 ?_
      refine sb_goto 51 (by decide) ?_
      refine sb_in [(51, .ireturn, 1)] 52 (by decide +kernel) ?_
      cases h
      subst hr
      refine sb_ireturn ?_
      exact ⟨.boolean, rfl, by decide⟩
    · refine sb_icmp_ne_t 50 cz5 (by decide) ?_
      refine sb_in [(50, .iconst 0, 1)] 51 (by decide +kernel) ?_
      refine sb_iconst cI0 ?_
      refine sb_end ?_
      refine sb_in [(51, .ireturn, 1)] 52 (by decide +kernel) ?_
      cases h
      subst hr
      refine sb_ireturn ?_
      exact ⟨.boolean, rfl, by decide⟩
  rcases ife h with ⟨cz6, h⟩ | ⟨cz6, h⟩
  · refine sb_tsw_in (off := 51) 2 52 cz6 (by decide +kernel) ?_
    refine sb_in [(52, .iload_n 1, 1), (53, .sipush 283, 3), (56, .if_icmp .ne 7, 3)] 59 (by decide +kernel) ?_
    refine sb_iload_n rfl ?_
    refine sb_sipush cS283 ?_
    rcases ife h with ⟨cz7, h⟩ | ⟨cz7, h⟩
    · refine sb_icmp_ne_f 63 cz7 (by decide) ?_
      refine sb_in [(59, .iconst 1, 1), (60, .goto 4, 3)] 63 (by decide +kernel) ?_
      refine sb_iconst cI1 ?_
      refine sb_goto 64 (by decide) ?_
      refine sb_in [(64, .ireturn, 1)] 65 (by decide +kernel) ?_
      cases h
      subst hr
      refine sb_ireturn ?_
      exact ⟨.boolean, rfl, by decide⟩
    · refine sb_icmp_ne_t 63 cz7 (by decide) ?_
      refine sb_in [(63, .iconst 0, 1)] 64 (by decide +kernel) ?_
      refine sb_iconst cI0 ?_
      refine sb_end ?_
      refine sb_in [(64, .ireturn, 1)] 65 (by decide +kernel) ?_
      cases h
      subst hr
      refine sb_ireturn ?_
      exact ⟨.boolean, rfl, by decide⟩
  refine sb_tsw_out 0 3 65 ((lt_s (lt_s (lt_s lt_0 cz3) cz4) cz6)) (by decide +kernel) ?_
  refine sb_in [(65, .iload_n 1, 1), (66, .sipush 284, 3), (69, .if_icmp .ne 7, 3)] 72 (by decide +kernel) ?_
  refine sb_iload_n rfl ?_
  refine sb_sipush cS284 ?_
  rcases ife h with ⟨cz8, h⟩ | ⟨cz8, h⟩
  · refine sb_icmp_ne_f 76 cz8 (by decide) ?_
    refine sb_in [(72, .iconst 1, 1), (73, .goto 4, 3)] 76 (by decide +kernel) ?_
    refine sb_iconst cI1 ?_
    refine sb_goto 77 (by decide) ?_
    refine sb_in [(77, .ireturn, 1)] 78 (by decide +kernel) ?_
    cases h
    subst hr
    refine sb_ireturn ?_
    exact ⟨.boolean, rfl, by decide⟩
  · refine sb_icmp_ne_t 76 cz8 (by decide) ?_
    refine sb_in [(76, .iconst 0, 1)] 77 (by decide +kernel) ?_
    refine sb_iconst cI0 ?_
    refine sb_end ?_
    refine sb_in [(77, .ireturn, 1)] 78 (by decide +kernel) ?_
    cases h
    subst hr
    refine sb_ireturn ?_
    exact ⟨.boolean, rfl, by decide⟩
theorem tfR_isFirstWord {P : Px} {x0 : Int32} {x1 : Int32} {M : Mm} {rr : Int32} (h : fR_isFirstWord x0 x1 = some rr) : EX P 2 kX5_isFirstWord [.int x0, .int x1] (S M) (some (.int rr), S M) := ex_of oX5_isFirstWord (Nat.le_of_ble_eq_true rfl) (nfR_isFirstWord  h rfl)
set_option maxRecDepth 20000 in
theorem nfR_blame {P : Px} {x1 : Int32} {M : Mm} {rr : Mm} (h : fR_blame x1 M = some rr) {r : Option Value × Sg} (hr : r = (none, S rr)) : RN P 1 kX5_blame 0 [(0, .ref 146), (1, .int x1)] [] (S M) r := by
  unfold fR_blame at h
  refine sb_in [(0, .aload_n 0, 1), (1, .getfield 33, 3), (4, .ifCond .ne 42, 3)] 7 (by decide +kernel) ?_
  refine sb_aload_n rfl ?_
  refine ss_getI g5_33 h146 ?_
  rcases ife h with ⟨cz5, h⟩ | ⟨cz5, h⟩
  · refine sb_if_ne_f 46 cz5 (by decide) ?_
    refine sb_in [(7, .aload_n 0, 1), (8, .iload_n 1, 1), (9, .putfield 33, 3), (12, .aload_n 0, 1), (13, .aload_n 0, 1), (14, .getfield 44, 3), (17, .aload_n 0, 1), (18, .getfield 25, 3), (21, .getfield 189, 3), (24, .if_icmp .ge 18, 3)] 27 (by decide +kernel) ?_
    refine sb_aload_n rfl ?_
    refine sb_iload_n rfl ?_
    refine ss_putI p5_33 h146 (by decide) ?_
    refine sb_aload_n rfl ?_
    refine sb_aload_n rfl ?_
    refine ss_getI g5_44 h146 ?_
    refine sb_aload_n rfl ?_
    refine ss_getR g5_25 h146 r146_3 ?_
    refine ss_getI g5_189 h162 ?_
    obtain ⟨yz3, hj43, h⟩ := bd h
    have hJ43 : RN P 1 kX5_blame 43 [] [.int yz3, .ref 146] (S (mput M 146 1 x1)) r := by
      refine sb_in [(43, .putfield 18, 3)] 46 (by decide +kernel) ?_
      refine ss_putI p5_18 h146 (by decide) ?_
      refine sb_end ?_
      refine sb_in [(46, .return_, 1)] 47 (by decide +kernel) ?_
      cases h
      subst hr
      refine sb_return ?_
      exact rfl
    clear h
    have h := hj43
    clear hj43
    rcases ife h with ⟨cz6, h⟩ | ⟨cz6, h⟩
    · refine sb_icmp_ge_t 42 cz6 (by decide) ?_
      refine sb_in [(42, .iconst (-1), 1)] 43 (by decide +kernel) ?_
      refine sb_iconst cIm1 ?_
      refine sb_end ?_
      cases h
      exact rn_sub [] rfl hJ43
    · refine sb_icmp_ge_f 42 cz6 (by decide) ?_
      refine sb_in [(27, .aload_n 0, 1), (28, .getfield 25, 3), (31, .getfield 194, 3), (34, .aload_n 0, 1), (35, .getfield 44, 3), (38, .iaload, 1), (39, .goto 4, 3)] 42 (by decide +kernel) ?_
      refine sb_aload_n rfl ?_
      refine ss_getR g5_25 h146 r146_3 ?_
      refine ss_getR g5_194 h162 r162_3 ?_
      refine sb_aload_n rfl ?_
      refine ss_getI g5_44 h146 ?_
      obtain ⟨hgz2, h⟩ := gd h
      refine ss_iald h165 hgz2 ?_
      refine sb_goto 43 (by decide) ?_
      cases h
      exact rn_sub [] rfl hJ43
  · refine sb_if_ne_t 46 cz5 (by decide) ?_
    refine sb_in [(46, .return_, 1)] 47 (by decide +kernel) ?_
    cases h
    subst hr
    refine sb_return ?_
    exact rfl
theorem tfR_blame {P : Px} {x1 : Int32} {M : Mm} {rr : Mm} (h : fR_blame x1 M = some rr) : EX P 1 kX5_blame [.ref 146, .int x1] (S M) (none, S rr) := ex_of oX5_blame (Nat.le_of_ble_eq_true rfl) (nfR_blame  h rfl)
set_option maxRecDepth 20000 in
theorem nfR_begins {P : Px} {x1 : Int32} {x2 : Int32} {M : Mm} {rr : (Int32 × Mm)} (h : fR_begins x1 x2 M = some rr) {r : Option Value × Sg} (hr : r = (some (.int rr.1), S rr.2)) : RN P 3 kX5_begins 0 [(0, .ref 146), (1, .int x1), (2, .int x2)] [] (S M) r := by
  unfold fR_begins at h
  refine sb_in [(0, .iload_n 1, 1), (1, .aload_n 0, 1), (2, .invokevirtual 50, 3), (5, .invokestatic 70, 3), (8, .ifCond .ne 11, 3)] 11 (by decide +kernel) ?_
  refine sb_iload_n rfl ?_
  refine sb_aload_n rfl ?_
  obtain ⟨qz2, hez1, h⟩ := bd h
  refine sb_callVi 0 rfl oX5_sort ln5_50 vX5_sort (rc_own h146.1 (S_lt h146.2) (by decide)) (rnCk_of (by decide +kernel) rfl) (tfR_sort hez1) ?_
  obtain ⟨qz4, hez3, h⟩ := bd h
  refine sb_callSi 2 rfl oX5_isFirstWord ln5_70 vX5_isFirstWord (rnCk_of (by decide +kernel) rfl) (tfR_isFirstWord hez3) ?_
  obtain ⟨Mz9, hj30, h⟩ := bd h
  have hJ30 : RN P 3 kX5_begins 30 [(0, .ref 146)] [] (S Mz9) r := by
    refine sb_in [(30, .aload_n 0, 1), (31, .getfield 33, 3), (34, .ifCond .ne 7, 3)] 37 (by decide +kernel) ?_
    refine sb_aload_n rfl ?_
    refine ss_getI g5_33 h146 ?_
    rcases ife h with ⟨cz10, h⟩ | ⟨cz10, h⟩
    · refine sb_if_ne_f 41 cz10 (by decide) ?_
      refine sb_in [(37, .iconst 1, 1), (38, .goto 4, 3)] 41 (by decide +kernel) ?_
      refine sb_iconst cI1 ?_
      refine sb_goto 42 (by decide) ?_
      refine sb_in [(42, .ireturn, 1)] 43 (by decide +kernel) ?_
      cases h
      subst hr
      refine sb_ireturn ?_
      exact ⟨.boolean, rfl, by decide⟩
    · refine sb_if_ne_t 41 cz10 (by decide) ?_
      refine sb_in [(41, .iconst 0, 1)] 42 (by decide +kernel) ?_
      refine sb_iconst cI0 ?_
      refine sb_end ?_
      refine sb_in [(42, .ireturn, 1)] 43 (by decide +kernel) ?_
      cases h
      subst hr
      refine sb_ireturn ?_
      exact ⟨.boolean, rfl, by decide⟩
  clear h
  have h := hj30
  clear hj30
  rcases ife h with ⟨cz11, h⟩ | ⟨cz11, h⟩
  · refine sb_if_ne_f 19 cz11 (by decide) ?_
    refine sb_in [(11, .aload_n 0, 1), (12, .iconst 1, 1), (13, .invokevirtual 73, 3), (16, .goto 14, 3)] 19 (by decide +kernel) ?_
    refine sb_aload_n rfl ?_
    refine sb_iconst cI1 ?_
    obtain ⟨Mz8, hez7, h⟩ := bd h
    refine sb_callVv 1 rfl oX5_blame ln5_73 vX5_blame (rc_own h146.1 (S_lt h146.2) (by decide)) (rnCk_of (by decide +kernel) rfl) (tfR_blame hez7) ?_
    refine sb_goto 30 (by decide) ?_
    cases h
    exact rn_sub [0] rfl hJ30
  · refine sb_if_ne_t 19 cz11 (by decide) ?_
    refine sb_in [(19, .iload_n 2, 1), (20, .bipush 16, 2), (22, .if_icmp .lt 8, 3)] 25 (by decide +kernel) ?_
    refine sb_iload_n rfl ?_
    refine sb_bipush cB16 ?_
    rcases ife h with ⟨cz12, h⟩ | ⟨cz12, h⟩
    · refine sb_icmp_lt_t 30 cz12 (by decide) ?_
      cases h
      exact rn_sub [0] rfl hJ30
    · refine sb_icmp_lt_f 30 cz12 (by decide) ?_
      refine sb_in [(25, .aload_n 0, 1), (26, .iconst 3, 1), (27, .invokevirtual 73, 3)] 30 (by decide +kernel) ?_
      refine sb_aload_n rfl ?_
      refine sb_iconst cI3 ?_
      obtain ⟨Mz6, hez5, h⟩ := bd h
      refine sb_callVv 1 rfl oX5_blame ln5_73 vX5_blame (rc_own h146.1 (S_lt h146.2) (by decide)) (rnCk_of (by decide +kernel) rfl) (tfR_blame hez5) ?_
      refine sb_end ?_
      cases h
      exact rn_sub [0] rfl hJ30
theorem tfR_begins {P : Px} {x1 : Int32} {x2 : Int32} {M : Mm} {rr : (Int32 × Mm)} (h : fR_begins x1 x2 M = some rr) : EX P 3 kX5_begins [.ref 146, .int x1, .int x2] (S M) (some (.int rr.1), S rr.2) := ex_of oX5_begins (Nat.le_of_ble_eq_true rfl) (nfR_begins  h rfl)
set_option maxRecDepth 20000 in
theorem nfL_addStep {P : Px} {x1 : Int32} {M : Mm} {rr : Mm} (h : fL_addStep x1 M = some rr) {r : Option Value × Sg} (hr : r = (none, S rr)) : RN P 1 kX2_addStep 0 [(0, .ref 148), (1, .int x1)] [] (S M) r := by
  unfold fL_addStep at h
  refine sb_in [(0, .aload_n 0, 1), (1, .getfield 49, 3), (4, .sipush 400, 3), (7, .if_icmp .ge 23, 3)] 10 (by decide +kernel) ?_
  refine sb_aload_n rfl ?_
  refine ss_getI g2_49 h148 ?_
  refine sb_sipush cS400 ?_
  rcases ife h with ⟨cz4, h⟩ | ⟨cz4, h⟩
  · refine sb_icmp_ge_t 30 cz4 (by decide) ?_
    refine sb_in [(30, .return_, 1)] 31 (by decide +kernel) ?_
    cases h
    subst hr
    refine sb_return ?_
    exact rfl
  · refine sb_icmp_ge_f 30 cz4 (by decide) ?_
    refine sb_in [(10, .aload_n 0, 1), (11, .getfield 24, 3), (14, .aload_n 0, 1), (15, .getfield 49, 3), (18, .iload_n 1, 1), (19, .iastore, 1), (20, .aload_n 0, 1), (21, .dup, 1), (22, .getfield 49, 3), (25, .iconst 1, 1), (26, .iadd, 1), (27, .putfield 49, 3)] 30 (by decide +kernel) ?_
    refine sb_aload_n rfl ?_
    refine ss_getR g2_24 h148 r148_6 ?_
    refine sb_aload_n rfl ?_
    refine ss_getI g2_49 h148 ?_
    refine sb_iload_n rfl ?_
    obtain ⟨hgz2, h⟩ := gd h
    refine ss_iast h153 (by decide) hgz2 ?_
    refine sb_aload_n rfl ?_
    refine sb_dup rfl ?_
    refine ss_getI g2_49 h148 ?_
    refine sb_iconst cI1 ?_
    refine sb_iadd ?_
    refine ss_putI p2_49 h148 (by decide) ?_
    refine sb_end ?_
    refine sb_in [(30, .return_, 1)] 31 (by decide +kernel) ?_
    cases h
    subst hr
    refine sb_return ?_
    exact rfl
theorem tfL_addStep {P : Px} {x1 : Int32} {M : Mm} {rr : Mm} (h : fL_addStep x1 M = some rr) : EX P 1 kX2_addStep [.ref 148, .int x1] (S M) (none, S rr) := ex_of oX2_addStep (Nat.le_of_ble_eq_true rfl) (nfL_addStep  h rfl)
set_option maxRecDepth 20000 in
theorem nfR_operand {P : Px} {M : Mm} {rr : Mm} (h : fR_operand M = some rr) {r : Option Value × Sg} (hr : r = (none, S rr)) : RN P 2 kX5_operand 0 [(0, .ref 146)] [] (S M) r := by
  unfold fR_operand at h
  refine sb_in [(0, .aload_n 0, 1), (1, .invokevirtual 50, 3), (4, .istore_n 1, 1), (5, .iload_n 1, 1), (6, .iconst 1, 1), (7, .if_icmp .ne 38, 3)] 10 (by decide +kernel) ?_
  refine sb_aload_n rfl ?_
  obtain ⟨qz2, hez1, h⟩ := bd h
  refine sb_callVi 0 rfl oX5_sort ln5_50 vX5_sort (rc_own h146.1 (S_lt h146.2) (by decide)) (rnCk_of (by decide +kernel) rfl) (tfR_sort hez1) ?_
  refine sb_istore_n (by decide) rfl ?_
  refine sb_iload_n rfl ?_
  refine sb_iconst cI1 ?_
  rcases ife h with ⟨cz13, h⟩ | ⟨cz13, h⟩
  · refine sb_icmp_ne_f 45 cz13 (by decide) ?_
    refine sb_in [(10, .aload_n 0, 1), (11, .getfield 12, 3), (14, .getfield 80, 3), (17, .aload_n 0, 1), (18, .getfield 25, 3), (21, .getfield 141, 3), (24, .aload_n 0, 1), (25, .getfield 44, 3), (28, .iaload, 1), (29, .invokevirtual 163, 3), (32, .aload_n 0, 1), (33, .dup, 1), (34, .getfield 44, 3), (37, .iconst 1, 1), (38, .iadd, 1), (39, .putfield 44, 3), (42, .goto 53, 3)] 45 (by decide +kernel) ?_
    refine sb_aload_n rfl ?_
    refine ss_getR g5_12 h146 r146_0 ?_
    refine ss_getR g5_80 h147 r147_0 ?_
    refine sb_aload_n rfl ?_
    refine ss_getR g5_25 h146 r146_3 ?_
    refine ss_getR g5_141 h162 r162_2 ?_
    refine sb_aload_n rfl ?_
    refine ss_getI g5_44 h146 ?_
    obtain ⟨hgz9, h⟩ := gd h
    refine ss_iald h164 hgz9 ?_
    obtain ⟨Mz11, hez10, h⟩ := bd h
    refine sb_callVv 1 rfl oX2_addStep ln5_163 vX2_addStep (rc_own h148.1 (S_lt h148.2) (by decide)) (rnCk_of (by decide +kernel) rfl) (tfL_addStep hez10) ?_
    refine sb_aload_n rfl ?_
    refine sb_dup rfl ?_
    refine ss_getI g5_44 h146 ?_
    refine sb_iconst cI1 ?_
    refine sb_iadd ?_
    refine ss_putI p5_44 h146 (by decide) ?_
    refine sb_goto 95 (by decide) ?_
    refine sb_in [(95, .return_, 1)] 96 (by decide +kernel) ?_
    cases h
    subst hr
    refine sb_return ?_
    exact rfl
  · refine sb_icmp_ne_t 45 cz13 (by decide) ?_
    refine sb_in [(45, .iload_n 1, 1), (46, .sipush 263, 3), (49, .sipush 273, 3), (52, .invokestatic 76, 3), (55, .ifCond .eq 35, 3)] 58 (by decide +kernel) ?_
    refine sb_iload_n rfl ?_
    refine sb_sipush cS263 ?_
    refine sb_sipush cS273 ?_
    refine sb_callSNi 3 rfl oX11_isWithin ln5_76 vX11_isWithin (rnCk_of (by decide +kernel) rfl) (tfK_isWithin) ?_
    rcases ife h with ⟨cz14, h⟩ | ⟨cz14, h⟩
    · refine sb_if_eq_t 90 cz14 (by decide) ?_
      refine sb_in [(90, .aload_n 0, 1), (91, .iconst 1, 1), (92, .invokevirtual 73, 3)] 95 (by decide +kernel) ?_
      refine sb_aload_n rfl ?_
      refine sb_iconst cI1 ?_
      obtain ⟨Mz5, hez4, h⟩ := bd h
      refine sb_callVv 1 rfl oX5_blame ln5_73 vX5_blame (rc_own h146.1 (S_lt h146.2) (by decide)) (rnCk_of (by decide +kernel) rfl) (tfR_blame hez4) ?_
      refine sb_end ?_
      refine sb_in [(95, .return_, 1)] 96 (by decide +kernel) ?_
      cases h
      subst hr
      refine sb_return ?_
      exact rfl
    · refine sb_if_eq_f 90 cz14 (by decide) ?_
      refine sb_in [(58, .aload_n 0, 1), (59, .getfield 12, 3), (62, .getfield 80, 3), (65, .sipush 10000, 3), (68, .iload_n 1, 1), (69, .iadd, 1), (70, .sipush 263, 3), (73, .isub, 1), (74, .invokevirtual 163, 3), (77, .aload_n 0, 1), (78, .dup, 1), (79, .getfield 44, 3), (82, .iconst 1, 1), (83, .iadd, 1), (84, .putfield 44, 3), (87, .goto 8, 3)] 90 (by decide +kernel) ?_
      refine sb_aload_n rfl ?_
      refine ss_getR g5_12 h146 r146_0 ?_
      refine ss_getR g5_80 h147 r147_0 ?_
      refine sb_sipush cS10000 ?_
      refine sb_iload_n rfl ?_
      refine sb_iadd ?_
      refine sb_sipush cS263 ?_
      refine sb_isub ?_
      obtain ⟨Mz7, hez6, h⟩ := bd h
      refine sb_callVv 1 rfl oX2_addStep ln5_163 vX2_addStep (rc_own h148.1 (S_lt h148.2) (by decide)) (rnCk_of (by decide +kernel) rfl) (tfL_addStep hez6) ?_
      refine sb_aload_n rfl ?_
      refine sb_dup rfl ?_
      refine ss_getI g5_44 h146 ?_
      refine sb_iconst cI1 ?_
      refine sb_iadd ?_
      refine ss_putI p5_44 h146 (by decide) ?_
      refine sb_goto 95 (by decide) ?_
      refine sb_in [(95, .return_, 1)] 96 (by decide +kernel) ?_
      cases h
      subst hr
      refine sb_return ?_
      exact rfl
theorem tfR_operand {P : Px} {M : Mm} {rr : Mm} (h : fR_operand M = some rr) : EX P 2 kX5_operand [.ref 146] (S M) (none, S rr) := ex_of oX5_operand (Nat.le_of_ble_eq_true rfl) (nfR_operand  h rfl)
set_option maxRecDepth 20000 in
theorem nfR_number {P : Px} {x1 : Int32} {x2 : Int32} {M : Mm} {rr : (Int32 × Mm)} (h : fR_number x1 x2 M = some rr) {r : Option Value × Sg} (hr : r = (some (.int rr.1), S rr.2)) : RN P 2 kX5_number 0 [(0, .ref 146), (1, .int x1), (2, .int x2)] [] (S M) r := by
  unfold fR_number at h
  refine sb_in [(0, .aload_n 0, 1), (1, .invokevirtual 50, 3), (4, .iconst 1, 1), (5, .if_icmp .eq 10, 3)] 8 (by decide +kernel) ?_
  refine sb_aload_n rfl ?_
  obtain ⟨qz2, hez1, h⟩ := bd h
  refine sb_callVi 0 rfl oX5_sort ln5_50 vX5_sort (rc_own h146.1 (S_lt h146.2) (by decide)) (rnCk_of (by decide +kernel) rfl) (tfR_sort hez1) ?_
  refine sb_iconst cI1 ?_
  rcases ife h with ⟨cz11, h⟩ | ⟨cz11, h⟩
  · refine sb_icmp_eq_t 15 cz11 (by decide) ?_
    refine sb_in [(15, .aload_n 0, 1), (16, .getfield 25, 3), (19, .getfield 141, 3), (22, .aload_n 0, 1), (23, .getfield 44, 3), (26, .iaload, 1), (27, .istore_n 3, 1), (28, .iload_n 3, 1), (29, .iload_n 1, 1), (30, .iload_n 2, 1), (31, .invokestatic 76, 3), (34, .ifCond .ne 10, 3)] 37 (by decide +kernel) ?_
    refine sb_aload_n rfl ?_
    refine ss_getR g5_25 h146 r146_3 ?_
    refine ss_getR g5_141 h162 r162_2 ?_
    refine sb_aload_n rfl ?_
    refine ss_getI g5_44 h146 ?_
    obtain ⟨hgz3, h⟩ := gd h
    refine ss_iald h164 hgz3 ?_
    refine sb_istore_n (by decide) rfl ?_
    refine sb_iload_n rfl ?_
    refine sb_iload_n rfl ?_
    refine sb_iload_n rfl ?_
    refine sb_callSNi 3 rfl oX11_isWithin ln5_76 vX11_isWithin (rnCk_of (by decide +kernel) rfl) (tfK_isWithin) ?_
    rcases ife h with ⟨cz12, h⟩ | ⟨cz12, h⟩
    · refine sb_if_ne_f 44 cz12 (by decide) ?_
      refine sb_in [(37, .aload_n 0, 1), (38, .iconst 2, 1), (39, .invokevirtual 73, 3), (42, .iconst 0, 1), (43, .ireturn, 1)] 44 (by decide +kernel) ?_
      refine sb_aload_n rfl ?_
      refine sb_iconst cI2 ?_
      obtain ⟨Mz8, hez7, h⟩ := bd h
      refine sb_callVv 1 rfl oX5_blame ln5_73 vX5_blame (rc_own h146.1 (S_lt h146.2) (by decide)) (rnCk_of (by decide +kernel) rfl) (tfR_blame hez7) ?_
      refine sb_iconst cI0 ?_
      cases h
      subst hr
      refine sb_ireturn ?_
      exact ⟨.int, rfl, rfl⟩
    · refine sb_if_ne_t 44 cz12 (by decide) ?_
      refine sb_in [(44, .aload_n 0, 1), (45, .dup, 1), (46, .getfield 44, 3), (49, .iconst 1, 1), (50, .iadd, 1), (51, .putfield 44, 3), (54, .iload_n 3, 1), (55, .ireturn, 1)] 56 (by decide +kernel) ?_
      refine sb_aload_n rfl ?_
      refine sb_dup rfl ?_
      refine ss_getI g5_44 h146 ?_
      refine sb_iconst cI1 ?_
      refine sb_iadd ?_
      refine ss_putI p5_44 h146 (by decide) ?_
      refine sb_iload_n rfl ?_
      cases h
      subst hr
      refine sb_ireturn ?_
      exact ⟨.int, rfl, rfl⟩
  · refine sb_icmp_eq_f 15 cz11 (by decide) ?_
    refine sb_in [(8, .aload_n 0, 1), (9, .iconst 1, 1), (10, .invokevirtual 73, 3), (13, .iconst 0, 1), (14, .ireturn, 1)] 15 (by decide +kernel) ?_
    refine sb_aload_n rfl ?_
    refine sb_iconst cI1 ?_
    obtain ⟨Mz10, hez9, h⟩ := bd h
    refine sb_callVv 1 rfl oX5_blame ln5_73 vX5_blame (rc_own h146.1 (S_lt h146.2) (by decide)) (rnCk_of (by decide +kernel) rfl) (tfR_blame hez9) ?_
    refine sb_iconst cI0 ?_
    cases h
    subst hr
    refine sb_ireturn ?_
    exact ⟨.int, rfl, rfl⟩
theorem tfR_number {P : Px} {x1 : Int32} {x2 : Int32} {M : Mm} {rr : (Int32 × Mm)} (h : fR_number x1 x2 M = some rr) : EX P 2 kX5_number [.ref 146, .int x1, .int x2] (S M) (some (.int rr.1), S rr.2) := ex_of oX5_number (Nat.le_of_ble_eq_true rfl) (nfR_number  h rfl)
set_option maxRecDepth 20000 in
theorem nfR_product {P : Px} {M : Mm} {rr : Mm} (h : fR_product M = some rr) {r : Option Value × Sg} (hr : r = (none, S rr)) : RN P 3 kX5_product 0 [(0, .ref 146)] [] (S M) r := by
  unfold fR_product at h
  refine sb_in [(0, .aload_n 0, 1), (1, .invokevirtual 182, 3), (4, .iconst 0, 1), (5, .istore_n 1, 1)] 6 (by decide +kernel) ?_
  refine sb_aload_n rfl ?_
  obtain ⟨Mz2, hez1, h⟩ := bd h
  refine sb_callVv 0 rfl oX5_operand ln5_182 vX5_operand (rc_own h146.1 (S_lt h146.2) (by decide)) (rnCk_of (by decide +kernel) rfl) (tfR_operand hez1) ?_
  refine sb_iconst cI0 ?_
  refine sb_istore_n (by decide) rfl ?_
  refine sb_end ?_
  obtain ⟨e6, hl6, h⟩ := bd h
  refine rn_sub [0, 1] rfl ?_
  refine lp_ind (P := fun s => RN P 3 kX5_product 6 [(0, .ref 146), (1, .int s.1)] [] (S s.2) r) (E := fun p => RN P 3 kX5_product 114 [] [] (S p) r) ?_ _ _ _ hl6 ?_
  · intro s qx h hc
    obtain ⟨x1, M⟩ := s
    replace h : fR_product_b6 x1 M = some qx := h
    show RN P 3 kX5_product 6 [(0, .ref 146), (1, .int x1)] [] (S M) r
    unfold fR_product_b6 at h
    refine sb_in [(6, .iload_n 1, 1), (7, .sipush 400, 3), (10, .if_icmp .ge 104, 3)] 13 (by decide +kernel) ?_
    refine sb_iload_n rfl ?_
    refine sb_sipush cS400 ?_
    rcases ife h with ⟨cz21, h⟩ | ⟨cz21, h⟩
    · refine sb_icmp_ge_t 114 cz21 (by decide) ?_
      cases h
      exact rn_sub [] rfl hc
    · refine sb_icmp_ge_f 114 cz21 (by decide) ?_
      refine sb_in [(13, .aload_n 0, 1), (14, .invokevirtual 50, 3), (17, .bipush 42, 2), (19, .if_icmp .eq 12, 3)] 22 (by decide +kernel) ?_
      refine sb_aload_n rfl ?_
      obtain ⟨qz4, hez3, h⟩ := bd h
      refine sb_callVi 0 rfl oX5_sort ln5_50 vX5_sort (rc_own h146.1 (S_lt h146.2) (by decide)) (rnCk_of (by decide +kernel) rfl) (tfR_sort hez3) ?_
      refine sb_bipush cB42 ?_
      have hJ31 : ∀ (z1 : Int32) (M : Mm), fR_product_j31 z1 M = some qx → RN P 3 kX5_product 31 [(0, .ref 146), (1, .int z1)] [] (S M) r := by
        intro z1 M h
        unfold fR_product_j31 at h
        refine sb_in [(31, .aload_n 0, 1), (32, .invokevirtual 50, 3), (35, .bipush 47, 2), (37, .if_icmp .ne 7, 3)] 40 (by decide +kernel) ?_
        refine sb_aload_n rfl ?_
        obtain ⟨qz8, hez7, h⟩ := bd h
        refine sb_callVi 0 rfl oX5_sort ln5_50 vX5_sort (rc_own h146.1 (S_lt h146.2) (by decide)) (rnCk_of (by decide +kernel) rfl) (tfR_sort hez7) ?_
        refine sb_bipush cB47 ?_
        have hJ45 : RN P 3 kX5_product 45 [(0, .ref 146), (1, .int z1)] [.int (if qz8 = 47 then (1 : Int32) else 0)] (S M) r := by
          refine sb_in [(45, .istore_n 2, 1), (46, .aload_n 0, 1), (47, .dup, 1), (48, .getfield 44, 3), (51, .iconst 1, 1), (52, .iadd, 1), (53, .putfield 44, 3), (56, .iload_n 2, 1), (57, .ifCond .eq 24, 3)] 60 (by decide +kernel) ?_
          refine sb_istore_n (by decide) rfl ?_
          refine sb_aload_n rfl ?_
          refine sb_dup rfl ?_
          refine ss_getI g5_44 h146 ?_
          refine sb_iconst cI1 ?_
          refine sb_iadd ?_
          refine ss_putI p5_44 h146 (by decide) ?_
          refine sb_iload_n rfl ?_
          obtain ⟨Mz17, hj85, h⟩ := bd h
          have hJ85 : RN P 3 kX5_product 85 [(0, .ref 146), (1, .int z1), (2, .int ((if qz8 = 47 then (1 : Int32) else 0)))] [] (S Mz17) r := by
            refine sb_in [(85, .aload_n 0, 1), (86, .getfield 12, 3), (89, .getfield 80, 3), (92, .iload_n 2, 1), (93, .ifCond .eq 9, 3)] 96 (by decide +kernel) ?_
            refine sb_aload_n rfl ?_
            refine ss_getR g5_12 h146 r146_0 ?_
            refine ss_getR g5_80 h147 r147_0 ?_
            refine sb_iload_n rfl ?_
            have hJ105 : RN P 3 kX5_product 105 [(0, .ref 146), (1, .int z1)] [.int (if ((if qz8 = 47 then (1 : Int32) else 0)) = 0 then (20006 : Int32) else 20007), .ref 148] (S Mz17) r := by
              refine sb_in [(105, .invokevirtual 163, 3), (108, .iinc 1 1, 3), (111, .goto (-105), 3)] 114 (by decide +kernel) ?_
              obtain ⟨Mz19, hez18, h⟩ := bd h
              refine sb_callVv 1 rfl oX2_addStep ln5_163 vX2_addStep (rc_own h148.1 (S_lt h148.2) (by decide)) (rnCk_of (by decide +kernel) rfl) (tfL_addStep hez18) ?_
              refine ss_iinc cI1 rfl (by decide) rfl ?_
              refine sb_goto 6 (by decide) ?_
              cases h
              exact rn_sub [0, 1] rfl hc
            rcases Decidable.em (((if qz8 = 47 then (1 : Int32) else 0)) = 0) with cz22 | cz22
            · refine sb_if_eq_t 102 cz22 (by decide) ?_
              refine sb_in [(102, .sipush 20006, 3)] 105 (by decide +kernel) ?_
              refine sb_sipush cS20006 ?_
              refine sb_end ?_
              have hq := hJ105
              simp only [if_pos cz22] at hq ⊢
              exact rn_sub [0, 1] rfl hq
            · refine sb_if_eq_f 102 cz22 (by decide) ?_
              refine sb_in [(96, .sipush 20007, 3), (99, .goto 6, 3)] 102 (by decide +kernel) ?_
              refine sb_sipush cS20007 ?_
              refine sb_goto 105 (by decide) ?_
              have hq := hJ105
              simp only [if_neg cz22] at hq ⊢
              exact rn_sub [0, 1] rfl hq
          clear h
          have h := hj85
          clear hj85
          rcases ife h with ⟨cz23, h⟩ | ⟨cz23, h⟩
          · refine sb_if_eq_t 81 cz23 (by decide) ?_
            refine sb_in [(81, .aload_n 0, 1), (82, .invokevirtual 182, 3)] 85 (by decide +kernel) ?_
            refine sb_aload_n rfl ?_
            obtain ⟨Mz12, hez11, h⟩ := bd h
            refine sb_callVv 0 rfl oX5_operand ln5_182 vX5_operand (rc_own h146.1 (S_lt h146.2) (by decide)) (rnCk_of (by decide +kernel) rfl) (tfR_operand hez11) ?_
            refine sb_end ?_
            cases h
            exact rn_sub [0, 1, 2] rfl hJ85
          · refine sb_if_eq_f 81 cz23 (by decide) ?_
            refine sb_in [(60, .aload_n 0, 1), (61, .getfield 12, 3), (64, .getfield 80, 3), (67, .aload_n 0, 1), (68, .iconst 1, 1), (69, .sipush 9999, 3), (72, .invokevirtual 116, 3), (75, .invokevirtual 163, 3), (78, .goto 7, 3)] 81 (by decide +kernel) ?_
            refine sb_aload_n rfl ?_
            refine ss_getR g5_12 h146 r146_0 ?_
            refine ss_getR g5_80 h147 r147_0 ?_
            refine sb_aload_n rfl ?_
            refine sb_iconst cI1 ?_
            refine sb_sipush cS9999 ?_
            obtain ⟨qz14, hez13, h⟩ := bd h
            refine sb_callVi 2 rfl oX5_number ln5_116 vX5_number (rc_own h146.1 (S_lt h146.2) (by decide)) (rnCk_of (by decide +kernel) rfl) (tfR_number hez13) ?_
            obtain ⟨Mz16, hez15, h⟩ := bd h
            refine sb_callVv 1 rfl oX2_addStep ln5_163 vX2_addStep (rc_own h148.1 (S_lt h148.2) (by decide)) (rnCk_of (by decide +kernel) rfl) (tfL_addStep hez15) ?_
            refine sb_goto 85 (by decide) ?_
            cases h
            exact rn_sub [0, 1, 2] rfl hJ85
        rcases Decidable.em (qz8 = 47) with cz24 | cz24
        · refine sb_icmp_ne_f 44 cz24 (by decide) ?_
          refine sb_in [(40, .iconst 1, 1), (41, .goto 4, 3)] 44 (by decide +kernel) ?_
          refine sb_iconst cI1 ?_
          refine sb_goto 45 (by decide) ?_
          have hq := hJ45
          simp only [if_pos cz24] at hq
          exact rn_sub [0, 1] rfl hq
        · refine sb_icmp_ne_t 44 cz24 (by decide) ?_
          refine sb_in [(44, .iconst 0, 1)] 45 (by decide +kernel) ?_
          refine sb_iconst cI0 ?_
          refine sb_end ?_
          have hq := hJ45
          simp only [if_neg cz24] at hq
          exact rn_sub [0, 1] rfl hq
      rcases ife h with ⟨cz25, h⟩ | ⟨cz25, h⟩
      · refine sb_icmp_eq_t 31 cz25 (by decide) ?_
        exact rn_sub [0, 1] rfl (hJ31 _ _ h)
      · refine sb_icmp_eq_f 31 cz25 (by decide) ?_
        refine sb_in [(22, .aload_n 0, 1), (23, .invokevirtual 50, 3), (26, .bipush 47, 2), (28, .if_icmp .ne 86, 3)] 31 (by decide +kernel) ?_
        refine sb_aload_n rfl ?_
        obtain ⟨qz6, hez5, h⟩ := bd h
        refine sb_callVi 0 rfl oX5_sort ln5_50 vX5_sort (rc_own h146.1 (S_lt h146.2) (by decide)) (rnCk_of (by decide +kernel) rfl) (tfR_sort hez5) ?_
        refine sb_bipush cB47 ?_
        rcases ife h with ⟨cz26, h⟩ | ⟨cz26, h⟩
        · refine sb_icmp_ne_f 114 cz26 (by decide) ?_
          exact rn_sub [0, 1] rfl (hJ31 _ _ h)
        · refine sb_icmp_ne_t 114 cz26 (by decide) ?_
          cases h
          exact rn_sub [] rfl hc
  · clear hl6
    obtain ⟨Mz20, hey⟩ : ∃ z, z = e6 := ⟨_, rfl⟩
    subst hey
    show RN P 3 kX5_product 114 [] [] (S Mz20) r
    refine sb_in [(114, .return_, 1)] 115 (by decide +kernel) ?_
    cases h
    subst hr
    refine sb_return ?_
    exact rfl
theorem tfR_product {P : Px} {M : Mm} {rr : Mm} (h : fR_product M = some rr) : EX P 3 kX5_product [.ref 146] (S M) (none, S rr) := ex_of oX5_product (Nat.le_of_ble_eq_true rfl) (nfR_product  h rfl)
set_option maxRecDepth 20000 in
theorem nfR_sum {P : Px} {M : Mm} {rr : Mm} (h : fR_sum M = some rr) {r : Option Value × Sg} (hr : r = (none, S rr)) : RN P 4 kX5_sum 0 [(0, .ref 146)] [] (S M) r := by
  unfold fR_sum at h
  refine sb_in [(0, .aload_n 0, 1), (1, .invokevirtual 179, 3), (4, .iconst 0, 1), (5, .istore_n 1, 1)] 6 (by decide +kernel) ?_
  refine sb_aload_n rfl ?_
  obtain ⟨Mz2, hez1, h⟩ := bd h
  refine sb_callVv 0 rfl oX5_product ln5_179 vX5_product (rc_own h146.1 (S_lt h146.2) (by decide)) (rnCk_of (by decide +kernel) rfl) (tfR_product hez1) ?_
  refine sb_iconst cI0 ?_
  refine sb_istore_n (by decide) rfl ?_
  refine sb_end ?_
  obtain ⟨e6, hl6, h⟩ := bd h
  refine rn_sub [0, 1] rfl ?_
  refine lp_ind (P := fun s => RN P 4 kX5_sum 6 [(0, .ref 146), (1, .int s.1)] [] (S s.2) r) (E := fun p => RN P 4 kX5_sum 81 [] [] (S p) r) ?_ _ _ _ hl6 ?_
  · intro s qx h hc
    obtain ⟨x1, M⟩ := s
    replace h : fR_sum_b6 x1 M = some qx := h
    show RN P 4 kX5_sum 6 [(0, .ref 146), (1, .int x1)] [] (S M) r
    unfold fR_sum_b6 at h
    refine sb_in [(6, .iload_n 1, 1), (7, .sipush 400, 3), (10, .if_icmp .ge 71, 3)] 13 (by decide +kernel) ?_
    refine sb_iload_n rfl ?_
    refine sb_sipush cS400 ?_
    rcases ife h with ⟨cz16, h⟩ | ⟨cz16, h⟩
    · refine sb_icmp_ge_t 81 cz16 (by decide) ?_
      cases h
      exact rn_sub [] rfl hc
    · refine sb_icmp_ge_f 81 cz16 (by decide) ?_
      refine sb_in [(13, .aload_n 0, 1), (14, .invokevirtual 50, 3), (17, .bipush 43, 2), (19, .if_icmp .eq 12, 3)] 22 (by decide +kernel) ?_
      refine sb_aload_n rfl ?_
      obtain ⟨qz4, hez3, h⟩ := bd h
      refine sb_callVi 0 rfl oX5_sort ln5_50 vX5_sort (rc_own h146.1 (S_lt h146.2) (by decide)) (rnCk_of (by decide +kernel) rfl) (tfR_sort hez3) ?_
      refine sb_bipush cB43 ?_
      have hJ31 : ∀ (z1 : Int32) (M : Mm), fR_sum_j31 z1 M = some qx → RN P 4 kX5_sum 31 [(0, .ref 146), (1, .int z1)] [] (S M) r := by
        intro z1 M h
        unfold fR_sum_j31 at h
        refine sb_in [(31, .aload_n 0, 1), (32, .invokevirtual 50, 3), (35, .bipush 43, 2), (37, .if_icmp .ne 9, 3)] 40 (by decide +kernel) ?_
        refine sb_aload_n rfl ?_
        obtain ⟨qz8, hez7, h⟩ := bd h
        refine sb_callVi 0 rfl oX5_sort ln5_50 vX5_sort (rc_own h146.1 (S_lt h146.2) (by decide)) (rnCk_of (by decide +kernel) rfl) (tfR_sort hez7) ?_
        refine sb_bipush cB43 ?_
        have hJ49 : RN P 4 kX5_sum 49 [(0, .ref 146), (1, .int z1)] [.int (if qz8 = 43 then (20004 : Int32) else 20005)] (S M) r := by
          refine sb_in [(49, .istore_n 2, 1), (50, .aload_n 0, 1), (51, .dup, 1), (52, .getfield 44, 3), (55, .iconst 1, 1), (56, .iadd, 1), (57, .putfield 44, 3), (60, .aload_n 0, 1), (61, .invokevirtual 179, 3), (64, .aload_n 0, 1), (65, .getfield 12, 3), (68, .getfield 80, 3), (71, .iload_n 2, 1), (72, .invokevirtual 163, 3), (75, .iinc 1 1, 3), (78, .goto (-72), 3)] 81 (by decide +kernel) ?_
          refine sb_istore_n (by decide) rfl ?_
          refine sb_aload_n rfl ?_
          refine sb_dup rfl ?_
          refine ss_getI g5_44 h146 ?_
          refine sb_iconst cI1 ?_
          refine sb_iadd ?_
          refine ss_putI p5_44 h146 (by decide) ?_
          refine sb_aload_n rfl ?_
          obtain ⟨Mz12, hez11, h⟩ := bd h
          refine sb_callVv 0 rfl oX5_product ln5_179 vX5_product (rc_own h146.1 (S_lt h146.2) (by decide)) (rnCk_of (by decide +kernel) rfl) (tfR_product hez11) ?_
          refine sb_aload_n rfl ?_
          refine ss_getR g5_12 h146 r146_0 ?_
          refine ss_getR g5_80 h147 r147_0 ?_
          refine sb_iload_n rfl ?_
          obtain ⟨Mz14, hez13, h⟩ := bd h
          refine sb_callVv 1 rfl oX2_addStep ln5_163 vX2_addStep (rc_own h148.1 (S_lt h148.2) (by decide)) (rnCk_of (by decide +kernel) rfl) (tfL_addStep hez13) ?_
          refine ss_iinc cI1 rfl (by decide) rfl ?_
          refine sb_goto 6 (by decide) ?_
          cases h
          exact rn_sub [0, 1] rfl hc
        rcases Decidable.em (qz8 = 43) with cz17 | cz17
        · refine sb_icmp_ne_f 46 cz17 (by decide) ?_
          refine sb_in [(40, .sipush 20004, 3), (43, .goto 6, 3)] 46 (by decide +kernel) ?_
          refine sb_sipush cS20004 ?_
          refine sb_goto 49 (by decide) ?_
          have hq := hJ49
          simp only [if_pos cz17] at hq
          exact rn_sub [0, 1] rfl hq
        · refine sb_icmp_ne_t 46 cz17 (by decide) ?_
          refine sb_in [(46, .sipush 20005, 3)] 49 (by decide +kernel) ?_
          refine sb_sipush cS20005 ?_
          refine sb_end ?_
          have hq := hJ49
          simp only [if_neg cz17] at hq
          exact rn_sub [0, 1] rfl hq
      rcases ife h with ⟨cz18, h⟩ | ⟨cz18, h⟩
      · refine sb_icmp_eq_t 31 cz18 (by decide) ?_
        exact rn_sub [0, 1] rfl (hJ31 _ _ h)
      · refine sb_icmp_eq_f 31 cz18 (by decide) ?_
        refine sb_in [(22, .aload_n 0, 1), (23, .invokevirtual 50, 3), (26, .bipush 45, 2), (28, .if_icmp .ne 53, 3)] 31 (by decide +kernel) ?_
        refine sb_aload_n rfl ?_
        obtain ⟨qz6, hez5, h⟩ := bd h
        refine sb_callVi 0 rfl oX5_sort ln5_50 vX5_sort (rc_own h146.1 (S_lt h146.2) (by decide)) (rnCk_of (by decide +kernel) rfl) (tfR_sort hez5) ?_
        refine sb_bipush cB45 ?_
        rcases ife h with ⟨cz19, h⟩ | ⟨cz19, h⟩
        · refine sb_icmp_ne_f 81 cz19 (by decide) ?_
          exact rn_sub [0, 1] rfl (hJ31 _ _ h)
        · refine sb_icmp_ne_t 81 cz19 (by decide) ?_
          cases h
          exact rn_sub [] rfl hc
  · clear hl6
    obtain ⟨Mz15, hey⟩ : ∃ z, z = e6 := ⟨_, rfl⟩
    subst hey
    show RN P 4 kX5_sum 81 [] [] (S Mz15) r
    refine sb_in [(81, .return_, 1)] 82 (by decide +kernel) ?_
    cases h
    subst hr
    refine sb_return ?_
    exact rfl
theorem tfR_sum {P : Px} {M : Mm} {rr : Mm} (h : fR_sum M = some rr) : EX P 4 kX5_sum [.ref 146] (S M) (none, S rr) := ex_of oX5_sum (Nat.le_of_ble_eq_true rfl) (nfR_sum  h rfl)
end RnT
