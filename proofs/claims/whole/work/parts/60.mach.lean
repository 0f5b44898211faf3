section RnT
set_option maxRecDepth 20000 in
theorem nfP_forget {P : Px} {M : Mm} {rr : Mm} (h : fP_forget M = rr) {r : Option Value × Sg} (hr : r = (none, S rr)) : RN P 1 kX4_forget 0 [(0, .ref 31)] [] (S M) r := by
  unfold fP_forget at h
  refine sb_in [(0, .aload_n 0, 1), (1, .iconst 0, 1), (2, .putfield 26, 3), (5, .return_, 1)] 6 (by decide +kernel) ?_
  refine sb_aload_n rfl ?_
  refine sb_iconst cI0 ?_
  refine ss_putI p4_26 h31 (by decide) ?_
  subst h
  subst hr
  refine sb_return ?_
  exact rfl
theorem tfP_forget {P : Px} {M : Mm} : EX P 1 kX4_forget [.ref 31] (S M) (none, S (fP_forget M)) := ex_of oX4_forget (Nat.le_of_ble_eq_true rfl) (nfP_forget  rfl rfl)
set_option maxRecDepth 20000 in
theorem nfK_state {P : Px} {x1 : Int32} {M : Mm} {rr : (Int32 × Mm)} (h : fK_state x1 M = rr) {r : Option Value × Sg} (hr : r = (some (.int rr.1), S rr.2)) : RN P 2 kX11_state 0 [(0, .ref 0), (1, .int x1)] [] (S M) r := by
  unfold fK_state at h
  refine sb_in [(0, .aload_n 0, 1), (1, .getfield 16, 3), (4, .getfield 80, 3), (7, .istore_n 2, 1), (8, .aload_n 0, 1), (9, .getfield 16, 3), (12, .iload_n 1, 1), (13, .putfield 80, 3), (16, .aload_n 0, 1), (17, .getfield 26, 3), (20, .invokevirtual 84, 3), (23, .iload_n 2, 1), (24, .ireturn, 1)] 25 (by decide +kernel) ?_
  refine sb_aload_n rfl ?_
  refine ss_getR g11_16 h0 r0_0 ?_
  refine ss_getI g11_80 h1 ?_
  refine sb_istore_n (by decide) rfl ?_
  refine sb_aload_n rfl ?_
  refine ss_getR g11_16 h0 r0_0 ?_
  refine sb_iload_n rfl ?_
  refine ss_putI p11_80 h1 (by decide) ?_
  refine sb_aload_n rfl ?_
  refine ss_getR g11_26 h0 r0_2 ?_
  refine sb_callVv 0 rfl oX4_forget ln11_84 vX4_forget (rc_own h31.1 (S_lt h31.2) (by decide)) (rnCk_of (by decide +kernel) rfl) (tfP_forget) ?_
  refine sb_iload_n rfl ?_
  subst h
  subst hr
  refine sb_ireturn ?_
  exact ⟨.int, rfl, rfl⟩
theorem tfK_state {P : Px} {x1 : Int32} {M : Mm} : EX P 2 kX11_state [.ref 0, .int x1] (S M) (some (.int (fK_state x1 M).1), S (fK_state x1 M).2) := ex_of oX11_state (Nat.le_of_ble_eq_true rfl) (nfK_state  rfl rfl)
set_option maxRecDepth 20000 in
theorem nfK_isWithin {P : Px} {x0 : Int32} {x1 : Int32} {x2 : Int32} {M : Mm} {rr : Int32} (h : fK_isWithin x0 x1 x2 = rr) {r : Option Value × Sg} (hr : r = (some (.int rr), S M)) : RN P 1 kX11_isWithin 0 [(0, .int x0), (1, .int x1), (2, .int x2)] [] (S M) r := by
  unfold fK_isWithin at h
  refine sb_in [(0, .iload_n 0, 1), (1, .iload_n 1, 1), (2, .if_icmp .lt 12, 3)] 5 (by decide +kernel) ?_
  refine sb_iload_n rfl ?_
  refine sb_iload_n rfl ?_
  rcases ife h with ⟨cz1, h⟩ | ⟨cz1, h⟩
  · refine sb_icmp_lt_t 14 cz1 (by decide) ?_
    refine sb_in [(14, .iconst 0, 1)] 15 (by decide +kernel) ?_
    refine sb_iconst cI0 ?_
    refine sb_end ?_
    refine sb_in [(15, .ireturn, 1)] 16 (by decide +kernel) ?_
    subst h
    subst hr
    refine sb_ireturn ?_
    exact ⟨.boolean, rfl, by decide⟩
  · refine sb_icmp_lt_f 14 cz1 (by decide) ?_
    refine sb_in [(5, .iload_n 0, 1), (6, .iload_n 2, 1), (7, .if_icmp .gt 7, 3)] 10 (by decide +kernel) ?_
    refine sb_iload_n rfl ?_
    refine sb_iload_n rfl ?_
    rcases ife h with ⟨cz2, h⟩ | ⟨cz2, h⟩
    · refine sb_icmp_gt_t 14 cz2 (by decide) ?_
      refine sb_in [(14, .iconst 0, 1)] 15 (by decide +kernel) ?_
      refine sb_iconst cI0 ?_
      refine sb_end ?_
      refine sb_in [(15, .ireturn, 1)] 16 (by decide +kernel) ?_
      subst h
      subst hr
      refine sb_ireturn ?_
      exact ⟨.boolean, rfl, by decide⟩
    · refine sb_icmp_gt_f 14 cz2 (by decide) ?_
      refine sb_in [(10, .iconst 1, 1), (11, .goto 4, 3)] 14 (by decide +kernel) ?_
      refine sb_iconst cI1 ?_
      refine sb_goto 15 (by decide) ?_
      refine sb_in [(15, .ireturn, 1)] 16 (by decide +kernel) ?_
      subst h
      subst hr
      refine sb_ireturn ?_
      exact ⟨.boolean, rfl, by decide⟩
theorem tfK_isWithin {P : Px} {x0 : Int32} {x1 : Int32} {x2 : Int32} {M : Mm} : EX P 1 kX11_isWithin [.int x0, .int x1, .int x2] (S M) (some (.int (fK_isWithin x0 x1 x2)), S M) := ex_of oX11_isWithin (Nat.le_of_ble_eq_true rfl) (nfK_isWithin  rfl rfl)
set_option maxRecDepth 20000 in
theorem nfK_isFace {P : Px} {x0 : Int32} {M : Mm} {rr : Int32} (h : fK_isFace x0 = some rr) {r : Option Value × Sg} (hr : r = (some (.int rr), S M)) : RN P 2 kX11_isFace 0 [(0, .int x0)] [] (S M) r := by
  unfold fK_isFace at h
  refine sb_in [(0, .iload_n 0, 1), (1, .bipush (-9), 2), (3, .bipush 9, 2), (5, .invokestatic 91, 3), (8, .ireturn, 1)] 9 (by decide +kernel) ?_
  refine sb_iload_n rfl ?_
  refine sb_bipush cBm9 ?_
  refine sb_bipush cB9 ?_
  refine sb_callSi 3 rfl oX11_isWithin ln11_91 vX11_isWithin (rnCk_of (by decide +kernel) rfl) (tfK_isWithin) ?_
  obtain ⟨hgz2, h⟩ := gd h
  cases h
  subst hr
  refine sb_ireturn ?_
  exact ⟨.boolean, rfl, rn_nz hgz2⟩
theorem tfK_isFace {P : Px} {x0 : Int32} {M : Mm} {rr : Int32} (h : fK_isFace x0 = some rr) : EX P 2 kX11_isFace [.int x0] (S M) (some (.int rr), S M) := ex_of oX11_isFace (Nat.le_of_ble_eq_true rfl) (nfK_isFace  h rfl)
set_option maxRecDepth 20000 in
theorem nfD_add {P : Px} {w : Nat} (hw : Dr w) {x1 : Int32} {x2 : Int32} {x3 : Int32} {M : Mm} {rr : (Int32 × Mm)} (h : fD_add w x1 x2 x3 M = some rr) {r : Option Value × Sg} (hr : r = (some (.int rr.1), S rr.2)) : RN P 1 kX1_add 0 [(0, .ref w), (1, .int x1), (2, .int x2), (3, .int x3)] [] (S M) r := by
  unfold fD_add at h
  refine sb_in [(0, .aload_n 0, 1), (1, .getfield 27, 3), (4, .bipush 12, 2), (6, .if_icmp .lt 5, 3)] 9 (by decide +kernel) ?_
  refine sb_aload_n rfl ?_
  refine ss_getI g1_27 (hDr0 hw) ?_
  refine sb_bipush cB12 ?_
  rcases ife h with ⟨cz10, h⟩ | ⟨cz10, h⟩
  · refine sb_icmp_lt_t 11 cz10 (by decide) ?_
    refine sb_in [(11, .aload_n 0, 1), (12, .getfield 9, 3), (15, .aload_n 0, 1), (16, .getfield 27, 3), (19, .iload_n 1, 1), (20, .iastore, 1), (21, .aload_n 0, 1), (22, .getfield 15, 3), (25, .aload_n 0, 1), (26, .getfield 27, 3), (29, .iload_n 2, 1), (30, .iastore, 1), (31, .aload_n 0, 1), (32, .getfield 18, 3), (35, .aload_n 0, 1), (36, .getfield 27, 3), (39, .iload_n 3, 1), (40, .iastore, 1), (41, .aload_n 0, 1), (42, .getfield 21, 3), (45, .aload_n 0, 1), (46, .getfield 27, 3), (49, .iconst 0, 1), (50, .iastore, 1), (51, .aload_n 0, 1), (52, .dup, 1), (53, .getfield 27, 3), (56, .iconst 1, 1), (57, .iadd, 1), (58, .putfield 27, 3), (61, .aload_n 0, 1), (62, .getfield 27, 3), (65, .iconst 1, 1), (66, .isub, 1), (67, .ireturn, 1)] 68 (by decide +kernel) ?_
    refine sb_aload_n rfl ?_
    refine ss_getR g1_9 (hDr0 hw) (rDr1 hw) ?_
    refine sb_aload_n rfl ?_
    refine ss_getI g1_27 (hDr0 hw) ?_
    refine sb_iload_n rfl ?_
    obtain ⟨hgz2, h⟩ := gd h
    refine ss_iast (hDr1 hw) (Nat.succ_ne_zero _) hgz2 ?_
    refine sb_aload_n rfl ?_
    refine ss_getR g1_15 (hDr0 hw) (rDr2 hw) ?_
    refine sb_aload_n rfl ?_
    refine ss_getI g1_27 (hDr0 hw) ?_
    refine sb_iload_n rfl ?_
    obtain ⟨hgz4, h⟩ := gd h
    refine ss_iast (hDr2 hw) (Nat.succ_ne_zero _) hgz4 ?_
    refine sb_aload_n rfl ?_
    refine ss_getR g1_18 (hDr0 hw) (rDr3 hw) ?_
    refine sb_aload_n rfl ?_
    refine ss_getI g1_27 (hDr0 hw) ?_
    refine sb_iload_n rfl ?_
    obtain ⟨hgz6, h⟩ := gd h
    refine ss_iast (hDr3 hw) (Nat.succ_ne_zero _) hgz6 ?_
    refine sb_aload_n rfl ?_
    refine ss_getR g1_21 (hDr0 hw) (rDr4 hw) ?_
    refine sb_aload_n rfl ?_
    refine ss_getI g1_27 (hDr0 hw) ?_
    refine sb_iconst cI0 ?_
    obtain ⟨hgz8, h⟩ := gd h
    refine ss_iast (hDr4 hw) (Nat.succ_ne_zero _) hgz8 ?_
    refine sb_aload_n rfl ?_
    refine sb_dup rfl ?_
    refine ss_getI g1_27 (hDr0 hw) ?_
    refine sb_iconst cI1 ?_
    refine sb_iadd ?_
    refine ss_putI p1_27 (hDr0 hw) (fun q => (nzDr hw) q.1) ?_
    refine sb_aload_n rfl ?_
    refine ss_getI g1_27 (hDr0 hw) ?_
    refine sb_iconst cI1 ?_
    refine sb_isub ?_
    cases h
    subst hr
    refine sb_ireturn ?_
    exact ⟨.int, rfl, rfl⟩
  · refine sb_icmp_lt_f 11 cz10 (by decide) ?_
    refine sb_in [(9, .iconst (-1), 1), (10, .ireturn, 1)] 11 (by decide +kernel) ?_
    refine sb_iconst cIm1 ?_
    cases h
    subst hr
    refine sb_ireturn ?_
    exact ⟨.int, rfl, rfl⟩
theorem tfD_add {P : Px} {w : Nat} (hw : Dr w) {x1 : Int32} {x2 : Int32} {x3 : Int32} {M : Mm} {rr : (Int32 × Mm)} (h : fD_add w x1 x2 x3 M = some rr) : EX P 1 kX1_add [.ref w, .int x1, .int x2, .int x3] (S M) (some (.int rr.1), S rr.2) := ex_of oX1_add (Nat.le_of_ble_eq_true rfl) (nfD_add hw h rfl)
set_option maxRecDepth 20000 in
theorem nfK_door {P : Px} {x1 : Int32} {x2 : Int32} {x3 : Int32} {M : Mm} {rr : (Int32 × Mm)} (h : fK_door x1 x2 x3 M = some rr) {r : Option Value × Sg} (hr : r = (some (.int rr.1), S rr.2)) : RN P 3 kX11_door 0 [(0, .ref 0), (1, .int x1), (2, .int x2), (3, .int x3)] [] (S M) r := by
  unfold fK_door at h
  refine sb_in [(0, .iload_n 1, 1), (1, .invokestatic 87, 3), (4, .ifCond .eq 28, 3)] 7 (by decide +kernel) ?_
  refine sb_iload_n rfl ?_
  obtain ⟨qz2, hez1, h⟩ := bd h
  refine sb_callSi 1 rfl oX11_isFace ln11_87 vX11_isFace (rnCk_of (by decide +kernel) rfl) (tfK_isFace hez1) ?_
  obtain ⟨yz5, hj33, h⟩ := bd h
  have hJ33 : RN P 3 kX11_door 33 [(0, .ref 0), (1, .int x1), (2, .int x2), (3, .int x3)] [.int yz5] (S M) r := by
    refine sb_in [(33, .istore 4, 2), (35, .iload 4, 2), (37, .ifCond .eq 18, 3)] 40 (by decide +kernel) ?_
    refine sb_istore (by decide) rfl ?_
    refine sb_iload rfl ?_
    rcases ife h with ⟨cz9, h⟩ | ⟨cz9, h⟩
    · refine sb_if_eq_t 55 cz9 (by decide) ?_
      refine sb_in [(55, .iconst (-1), 1), (56, .ireturn, 1)] 57 (by decide +kernel) ?_
      refine sb_iconst cIm1 ?_
      cases h
      subst hr
      refine sb_ireturn ?_
      exact ⟨.int, rfl, rfl⟩
    · refine sb_if_eq_f 55 cz9 (by decide) ?_
      refine sb_in [(40, .aload_n 0, 1), (41, .getfield 16, 3), (44, .getfield 95, 3), (47, .getfield 99, 3), (50, .bipush 12, 2), (52, .if_icmp .lt 5, 3)] 55 (by decide +kernel) ?_
      refine sb_aload_n rfl ?_
      refine ss_getR g11_16 h0 r0_0 ?_
      refine ss_getR g11_95 h1 r1_0 ?_
      refine ss_getI g11_99 h2 ?_
      refine sb_bipush cB12 ?_
      rcases ife h with ⟨cz10, h⟩ | ⟨cz10, h⟩
      · refine sb_icmp_lt_t 57 cz10 (by decide) ?_
        refine sb_in [(57, .aload_n 0, 1), (58, .getfield 26, 3), (61, .invokevirtual 84, 3), (64, .aload_n 0, 1), (65, .getfield 16, 3), (68, .getfield 95, 3), (71, .iload_n 1, 1), (72, .iload_n 2, 1), (73, .iload_n 3, 1), (74, .invokevirtual 104, 3), (77, .ireturn, 1)] 78 (by decide +kernel) ?_
        refine sb_aload_n rfl ?_
        refine ss_getR g11_26 h0 r0_2 ?_
        refine sb_callVv 0 rfl oX4_forget ln11_84 vX4_forget (rc_own h31.1 (S_lt h31.2) (by decide)) (rnCk_of (by decide +kernel) rfl) (tfP_forget) ?_
        refine sb_aload_n rfl ?_
        refine ss_getR g11_16 h0 r0_0 ?_
        refine ss_getR g11_95 h1 r1_0 ?_
        refine sb_iload_n rfl ?_
        refine sb_iload_n rfl ?_
        refine sb_iload_n rfl ?_
        obtain ⟨qz8, hez7, h⟩ := bd h
        refine sb_callVi 3 rfl oX1_add ln11_104 vX1_add (rc_own h2.1 (S_lt h2.2) (by decide)) (rnCk_of (by decide +kernel) rfl) (tfD_add lDr2 hez7) ?_
        cases h
        subst hr
        refine sb_ireturn ?_
        exact ⟨.int, rfl, rfl⟩
      · refine sb_icmp_lt_f 57 cz10 (by decide) ?_
        refine sb_in [(55, .iconst (-1), 1), (56, .ireturn, 1)] 57 (by decide +kernel) ?_
        refine sb_iconst cIm1 ?_
        cases h
        subst hr
        refine sb_ireturn ?_
        exact ⟨.int, rfl, rfl⟩
  clear h
  have h := hj33
  clear hj33
  rcases ife h with ⟨cz11, h⟩ | ⟨cz11, h⟩
  · refine sb_if_eq_t 32 cz11 (by decide) ?_
    refine sb_in [(32, .iconst 0, 1)] 33 (by decide +kernel) ?_
    refine sb_iconst cI0 ?_
    refine sb_end ?_
    cases h
    exact rn_sub [0, 1, 2, 3] rfl hJ33
  · refine sb_if_eq_f 32 cz11 (by decide) ?_
    refine sb_in [(7, .iload_n 2, 1), (8, .iconst 0, 1), (9, .bipush 9, 2), (11, .invokestatic 91, 3), (14, .ifCond .eq 18, 3)] 17 (by decide +kernel) ?_
    refine sb_iload_n rfl ?_
    refine sb_iconst cI0 ?_
    refine sb_bipush cB9 ?_
    refine sb_callSi 3 rfl oX11_isWithin ln11_91 vX11_isWithin (rnCk_of (by decide +kernel) rfl) (tfK_isWithin) ?_
    rcases ife h with ⟨cz12, h⟩ | ⟨cz12, h⟩
    · refine sb_if_eq_t 32 cz12 (by decide) ?_
      refine sb_in [(32, .iconst 0, 1)] 33 (by decide +kernel) ?_
      refine sb_iconst cI0 ?_
      refine sb_end ?_
      cases h
      exact rn_sub [0, 1, 2, 3] rfl hJ33
    · refine sb_if_eq_f 32 cz12 (by decide) ?_
      refine sb_in [(17, .iload_n 3, 1), (18, .iconst 0, 1), (19, .sipush 999, 3), (22, .invokestatic 91, 3), (25, .ifCond .eq 7, 3)] 28 (by decide +kernel) ?_
      refine sb_iload_n rfl ?_
      refine sb_iconst cI0 ?_
      refine sb_sipush cS999 ?_
      refine sb_callSi 3 rfl oX11_isWithin ln11_91 vX11_isWithin (rnCk_of (by decide +kernel) rfl) (tfK_isWithin) ?_
      rcases ife h with ⟨cz13, h⟩ | ⟨cz13, h⟩
      · refine sb_if_eq_t 32 cz13 (by decide) ?_
        refine sb_in [(32, .iconst 0, 1)] 33 (by decide +kernel) ?_
        refine sb_iconst cI0 ?_
        refine sb_end ?_
        cases h
        exact rn_sub [0, 1, 2, 3] rfl hJ33
      · refine sb_if_eq_f 32 cz13 (by decide) ?_
        refine sb_in [(28, .iconst 1, 1), (29, .goto 4, 3)] 32 (by decide +kernel) ?_
        refine sb_iconst cI1 ?_
        refine sb_goto 33 (by decide) ?_
        cases h
        exact rn_sub [0, 1, 2, 3] rfl hJ33
theorem tfK_door {P : Px} {x1 : Int32} {x2 : Int32} {x3 : Int32} {M : Mm} {rr : (Int32 × Mm)} (h : fK_door x1 x2 x3 M = some rr) : EX P 3 kX11_door [.ref 0, .int x1, .int x2, .int x3] (S M) (some (.int rr.1), S rr.2) := ex_of oX11_door (Nat.le_of_ble_eq_true rfl) (nfK_door  h rfl)
set_option maxRecDepth 20000 in
theorem nfK_setPostman {P : Px} {x1 : Int32} {x2 : Int32} {M : Mm} {rr : (Int32 × Mm)} (h : fK_setPostman x1 x2 M = rr) {r : Option Value × Sg} (hr : r = (some (.int rr.1), S rr.2)) : RN P 2 kX11_setPostman 0 [(0, .ref 0), (1, .int x1), (2, .int x2)] [] (S M) r := by
  unfold fK_setPostman at h
  refine sb_in [(0, .iload_n 2, 1), (1, .iconst 0, 1), (2, .bipush 99, 2), (4, .invokestatic 91, 3), (7, .ifCond .ne 5, 3)] 10 (by decide +kernel) ?_
  refine sb_iload_n rfl ?_
  refine sb_iconst cI0 ?_
  refine sb_bipush cB99 ?_
  refine sb_callSi 3 rfl oX11_isWithin ln11_91 vX11_isWithin (rnCk_of (by decide +kernel) rfl) (tfK_isWithin) ?_
  rcases ife h with ⟨cz4, h⟩ | ⟨cz4, h⟩
  · refine sb_if_ne_f 12 cz4 (by decide) ?_
    refine sb_in [(10, .iconst 0, 1), (11, .ireturn, 1)] 12 (by decide +kernel) ?_
    refine sb_iconst cI0 ?_
    subst h
    subst hr
    refine sb_ireturn ?_
    exact ⟨.boolean, rfl, by decide⟩
  · refine sb_if_ne_t 12 cz4 (by decide) ?_
    refine sb_in [(12, .iload_n 1, 1), (13, .iconst 3, 1), (14, .if_icmp .ne 14, 3)] 17 (by decide +kernel) ?_
    refine sb_iload_n rfl ?_
    refine sb_iconst cI3 ?_
    rcases ife h with ⟨cz5, h⟩ | ⟨cz5, h⟩
    · refine sb_icmp_ne_f 28 cz5 (by decide) ?_
      refine sb_in [(17, .aload_n 0, 1), (18, .getfield 16, 3), (21, .iload_n 2, 1), (22, .putfield 141, 3), (25, .goto 11, 3)] 28 (by decide +kernel) ?_
      refine sb_aload_n rfl ?_
      refine ss_getR g11_16 h0 r0_0 ?_
      refine sb_iload_n rfl ?_
      refine ss_putI p11_141 h1 (by decide) ?_
      refine sb_goto 36 (by decide) ?_
      refine sb_in [(36, .iconst 1, 1), (37, .ireturn, 1)] 38 (by decide +kernel) ?_
      refine sb_iconst cI1 ?_
      subst h
      subst hr
      refine sb_ireturn ?_
      exact ⟨.boolean, rfl, by decide⟩
    · refine sb_icmp_ne_t 28 cz5 (by decide) ?_
      refine sb_in [(28, .aload_n 0, 1), (29, .getfield 16, 3), (32, .iload_n 2, 1), (33, .putfield 244, 3)] 36 (by decide +kernel) ?_
      refine sb_aload_n rfl ?_
      refine ss_getR g11_16 h0 r0_0 ?_
      refine sb_iload_n rfl ?_
      refine ss_putI p11_244 h1 (by decide) ?_
      refine sb_end ?_
      refine sb_in [(36, .iconst 1, 1), (37, .ireturn, 1)] 38 (by decide +kernel) ?_
      refine sb_iconst cI1 ?_
      subst h
      subst hr
      refine sb_ireturn ?_
      exact ⟨.boolean, rfl, by decide⟩
theorem tfK_setPostman {P : Px} {x1 : Int32} {x2 : Int32} {M : Mm} : EX P 2 kX11_setPostman [.ref 0, .int x1, .int x2] (S M) (some (.int (fK_setPostman x1 x2 M).1), S (fK_setPostman x1 x2 M).2) := ex_of oX11_setPostman (Nat.le_of_ble_eq_true rfl) (nfK_setPostman  rfl rfl)
set_option maxRecDepth 20000 in
theorem nfK_isDoor {P : Px} {x1 : Int32} {M : Mm} {rr : Int32} (h : fK_isDoor x1 M = some rr) {r : Option Value × Sg} (hr : r = (some (.int rr), S M)) : RN P 2 kX11_isDoor 0 [(0, .ref 0), (1, .int x1)] [] (S M) r := by
  unfold fK_isDoor at h
  refine sb_in [(0, .iload_n 1, 1), (1, .iconst 0, 1), (2, .aload_n 0, 1), (3, .getfield 16, 3), (6, .getfield 95, 3), (9, .getfield 99, 3), (12, .iconst 1, 1), (13, .isub, 1), (14, .invokestatic 91, 3), (17, .ireturn, 1)] 18 (by decide +kernel) ?_
  refine sb_iload_n rfl ?_
  refine sb_iconst cI0 ?_
  refine sb_aload_n rfl ?_
  refine ss_getR g11_16 h0 r0_0 ?_
  refine ss_getR g11_95 h1 r1_0 ?_
  refine ss_getI g11_99 h2 ?_
  refine sb_iconst cI1 ?_
  refine sb_isub ?_
  refine sb_callSi 3 rfl oX11_isWithin ln11_91 vX11_isWithin (rnCk_of (by decide +kernel) rfl) (tfK_isWithin) ?_
  obtain ⟨hgz2, h⟩ := gd h
  cases h
  subst hr
  refine sb_ireturn ?_
  exact ⟨.boolean, rfl, rn_nz hgz2⟩
theorem tfK_isDoor {P : Px} {x1 : Int32} {M : Mm} {rr : Int32} (h : fK_isDoor x1 M = some rr) : EX P 2 kX11_isDoor [.ref 0, .int x1] (S M) (some (.int rr), S M) := ex_of oX11_isDoor (Nat.le_of_ble_eq_true rfl) (nfK_isDoor  h rfl)
set_option maxRecDepth 20000 in
theorem nfK_setDoor {P : Px} {x1 : Int32} {x2 : Int32} {x3 : Int32} {M : Mm} {rr : (Int32 × Mm)} (h : fK_setDoor x1 x2 x3 M = some rr) {r : Option Value × Sg} (hr : r = (some (.int rr.1), S rr.2)) : RN P 3 kX11_setDoor 0 [(0, .ref 0), (1, .int x1), (2, .int x2), (3, .int x3)] [] (S M) r := by
  unfold fK_setDoor at h
  refine sb_in [(0, .aload_n 0, 1), (1, .iload_n 2, 1), (2, .invokevirtual 115, 3), (5, .ifCond .ne 5, 3)] 8 (by decide +kernel) ?_
  refine sb_aload_n rfl ?_
  refine sb_iload_n rfl ?_
  obtain ⟨qz2, hez1, h⟩ := bd h
  refine sb_callVi 1 rfl oX11_isDoor ln11_115 vX11_isDoor (rc_own h0.1 (S_lt h0.2) (by decide)) (rnCk_of (by decide +kernel) rfl) (tfK_isDoor hez1) ?_
  rcases ife h with ⟨cz13, h⟩ | ⟨cz13, h⟩
  · refine sb_if_ne_f 10 cz13 (by decide) ?_
    refine sb_in [(8, .iconst 0, 1), (9, .ireturn, 1)] 10 (by decide +kernel) ?_
    refine sb_iconst cI0 ?_
    cases h
    subst hr
    refine sb_ireturn ?_
    exact ⟨.boolean, rfl, by decide⟩
  · refine sb_if_ne_t 10 cz13 (by decide) ?_
    refine sb_in [(10, .iload_n 1, 1), (11, .ifCond .ne 25, 3)] 14 (by decide +kernel) ?_
    refine sb_iload_n rfl ?_
    have hJ36 : ∀ (z1 : Int32) (z2 : Int32) (z3 : Int32) (M : Mm), fK_setDoor_j36 z1 z2 z3 M = some rr → RN P 3 kX11_setDoor 36 [(0, .ref 0), (1, .int z1), (2, .int z2), (3, .int z3)] [] (S M) r := by
      intro z1 z2 z3 M h
      unfold fK_setDoor_j36 at h
      refine sb_in [(36, .iload_n 1, 1), (37, .iconst 1, 1), (38, .if_icmp .ne 28, 3)] 41 (by decide +kernel) ?_
      refine sb_iload_n rfl ?_
      refine sb_iconst cI1 ?_
      have hJ66 : ∀ (z1 : Int32) (z2 : Int32) (z3 : Int32) (M : Mm), fK_setDoor_j66 z1 z2 z3 M = some rr → RN P 3 kX11_setDoor 66 [(0, .ref 0), (1, .int z1), (2, .int z2), (3, .int z3)] [] (S M) r := by
        intro z1 z2 z3 M h
        unfold fK_setDoor_j66 at h
        refine sb_in [(66, .iload_n 1, 1), (67, .iconst 2, 1), (68, .if_icmp .ne 29, 3)] 71 (by decide +kernel) ?_
        refine sb_iload_n rfl ?_
        refine sb_iconst cI2 ?_
        rcases ife h with ⟨cz14, h⟩ | ⟨cz14, h⟩
        · refine sb_icmp_ne_f 97 cz14 (by decide) ?_
          refine sb_in [(71, .iload_n 3, 1), (72, .iconst 0, 1), (73, .sipush 999, 3), (76, .invokestatic 91, 3), (79, .ifCond .eq 18, 3)] 82 (by decide +kernel) ?_
          refine sb_iload_n rfl ?_
          refine sb_iconst cI0 ?_
          refine sb_sipush cS999 ?_
          refine sb_callSi 3 rfl oX11_isWithin ln11_91 vX11_isWithin (rnCk_of (by decide +kernel) rfl) (tfK_isWithin) ?_
          rcases ife h with ⟨cz15, h⟩ | ⟨cz15, h⟩
          · refine sb_if_eq_t 97 cz15 (by decide) ?_
            refine sb_in [(97, .iconst 0, 1), (98, .ireturn, 1)] 99 (by decide +kernel) ?_
            refine sb_iconst cI0 ?_
            cases h
            subst hr
            refine sb_ireturn ?_
            exact ⟨.boolean, rfl, by decide⟩
          · refine sb_if_eq_f 97 cz15 (by decide) ?_
            refine sb_in [(82, .aload_n 0, 1), (83, .getfield 16, 3), (86, .getfield 95, 3), (89, .getfield 198, 3), (92, .iload_n 2, 1), (93, .iload_n 3, 1), (94, .iastore, 1), (95, .iconst 1, 1), (96, .ireturn, 1)] 97 (by decide +kernel) ?_
            refine sb_aload_n rfl ?_
            refine ss_getR g11_16 h0 r0_0 ?_
            refine ss_getR g11_95 h1 r1_0 ?_
            refine ss_getR g11_198 h2 r2_3 ?_
            refine sb_iload_n rfl ?_
            refine sb_iload_n rfl ?_
            obtain ⟨hgz12, h⟩ := gd h
            refine ss_iast h5 (by decide) hgz12 ?_
            refine sb_iconst cI1 ?_
            cases h
            subst hr
            refine sb_ireturn ?_
            exact ⟨.boolean, rfl, by decide⟩
        · refine sb_icmp_ne_t 97 cz14 (by decide) ?_
          refine sb_in [(97, .iconst 0, 1), (98, .ireturn, 1)] 99 (by decide +kernel) ?_
          refine sb_iconst cI0 ?_
          cases h
          subst hr
          refine sb_ireturn ?_
          exact ⟨.boolean, rfl, by decide⟩
      rcases ife h with ⟨cz16, h⟩ | ⟨cz16, h⟩
      · refine sb_icmp_ne_f 66 cz16 (by decide) ?_
        refine sb_in [(41, .iload_n 3, 1), (42, .iconst 0, 1), (43, .bipush 9, 2), (45, .invokestatic 91, 3), (48, .ifCond .eq 18, 3)] 51 (by decide +kernel) ?_
        refine sb_iload_n rfl ?_
        refine sb_iconst cI0 ?_
        refine sb_bipush cB9 ?_
        refine sb_callSi 3 rfl oX11_isWithin ln11_91 vX11_isWithin (rnCk_of (by decide +kernel) rfl) (tfK_isWithin) ?_
        rcases ife h with ⟨cz17, h⟩ | ⟨cz17, h⟩
        · refine sb_if_eq_t 66 cz17 (by decide) ?_
          exact rn_sub [0, 1, 2, 3] rfl (hJ66 _ _ _ _ h)
        · refine sb_if_eq_f 66 cz17 (by decide) ?_
          refine sb_in [(51, .aload_n 0, 1), (52, .getfield 16, 3), (55, .getfield 95, 3), (58, .getfield 195, 3), (61, .iload_n 2, 1), (62, .iload_n 3, 1), (63, .iastore, 1), (64, .iconst 1, 1), (65, .ireturn, 1)] 66 (by decide +kernel) ?_
          refine sb_aload_n rfl ?_
          refine ss_getR g11_16 h0 r0_0 ?_
          refine ss_getR g11_95 h1 r1_0 ?_
          refine ss_getR g11_195 h2 r2_2 ?_
          refine sb_iload_n rfl ?_
          refine sb_iload_n rfl ?_
          obtain ⟨hgz9, h⟩ := gd h
          refine ss_iast h4 (by decide) hgz9 ?_
          refine sb_iconst cI1 ?_
          cases h
          subst hr
          refine sb_ireturn ?_
          exact ⟨.boolean, rfl, by decide⟩
      · refine sb_icmp_ne_t 66 cz16 (by decide) ?_
        exact rn_sub [0, 1, 2, 3] rfl (hJ66 _ _ _ _ h)
    rcases ife h with ⟨cz18, h⟩ | ⟨cz18, h⟩
    · refine sb_if_ne_f 36 cz18 (by decide) ?_
      refine sb_in [(14, .iload_n 3, 1), (15, .invokestatic 87, 3), (18, .ifCond .eq 18, 3)] 21 (by decide +kernel) ?_
      refine sb_iload_n rfl ?_
      obtain ⟨qz4, hez3, h⟩ := bd h
      refine sb_callSi 1 rfl oX11_isFace ln11_87 vX11_isFace (rnCk_of (by decide +kernel) rfl) (tfK_isFace hez3) ?_
      rcases ife h with ⟨cz19, h⟩ | ⟨cz19, h⟩
      · refine sb_if_eq_t 36 cz19 (by decide) ?_
        exact rn_sub [0, 1, 2, 3] rfl (hJ36 _ _ _ _ h)
      · refine sb_if_eq_f 36 cz19 (by decide) ?_
        refine sb_in [(21, .aload_n 0, 1), (22, .getfield 16, 3), (25, .getfield 95, 3), (28, .getfield 192, 3), (31, .iload_n 2, 1), (32, .iload_n 3, 1), (33, .iastore, 1), (34, .iconst 1, 1), (35, .ireturn, 1)] 36 (by decide +kernel) ?_
        refine sb_aload_n rfl ?_
        refine ss_getR g11_16 h0 r0_0 ?_
        refine ss_getR g11_95 h1 r1_0 ?_
        refine ss_getR g11_192 h2 r2_1 ?_
        refine sb_iload_n rfl ?_
        refine sb_iload_n rfl ?_
        obtain ⟨hgz6, h⟩ := gd h
        refine ss_iast h3 (by decide) hgz6 ?_
        refine sb_iconst cI1 ?_
        cases h
        subst hr
        refine sb_ireturn ?_
        exact ⟨.boolean, rfl, by decide⟩
    · refine sb_if_ne_t 36 cz18 (by decide) ?_
      exact rn_sub [0, 1, 2, 3] rfl (hJ36 _ _ _ _ h)
theorem tfK_setDoor {P : Px} {x1 : Int32} {x2 : Int32} {x3 : Int32} {M : Mm} {rr : (Int32 × Mm)} (h : fK_setDoor x1 x2 x3 M = some rr) : EX P 3 kX11_setDoor [.ref 0, .int x1, .int x2, .int x3] (S M) (some (.int rr.1), S rr.2) := ex_of oX11_setDoor (Nat.le_of_ble_eq_true rfl) (nfK_setDoor  h rfl)
set_option maxRecDepth 20000 in
theorem nfK_set {P : Px} {x1 : Int32} {x2 : Int32} {x3 : Int32} {M : Mm} {rr : (Int32 × Mm)} (h : fK_set x1 x2 x3 M = some rr) {r : Option Value × Sg} (hr : r = (some (.int rr.1), S rr.2)) : RN P 4 kX11_set 0 [(0, .ref 0), (1, .int x1), (2, .int x2), (3, .int x3)] [] (S M) r := by
  unfold fK_set at h
  refine sb_in [(0, .iload_n 1, 1), (1, .iconst 3, 1), (2, .if_icmp .eq 8, 3)] 5 (by decide +kernel) ?_
  refine sb_iload_n rfl ?_
  refine sb_iconst cI3 ?_
  obtain ⟨⟨yz5, Mz6⟩, hj26, h⟩ := bd h
  have hJ26 : RN P 4 kX11_set 26 [(0, .ref 0)] [.int yz5] (S Mz6) r := by
    refine sb_in [(26, .istore 4, 2), (28, .iload 4, 2), (30, .ifCond .eq 10, 3)] 33 (by decide +kernel) ?_
    refine sb_istore (by decide) rfl ?_
    refine sb_iload rfl ?_
    rcases ife h with ⟨cz10, h⟩ | ⟨cz10, h⟩
    · refine sb_if_eq_t 40 cz10 (by decide) ?_
      refine sb_in [(40, .iload 4, 2), (42, .ireturn, 1)] 43 (by decide +kernel) ?_
      refine sb_iload rfl ?_
      obtain ⟨hgz7, h⟩ := gd h
      cases h
      subst hr
      refine sb_ireturn ?_
      exact ⟨.boolean, rfl, rn_nz hgz7⟩
    · refine sb_if_eq_f 40 cz10 (by decide) ?_
      refine sb_in [(33, .aload_n 0, 1), (34, .getfield 26, 3), (37, .invokevirtual 84, 3)] 40 (by decide +kernel) ?_
      refine sb_aload_n rfl ?_
      refine ss_getR g11_26 h0 r0_2 ?_
      refine sb_callVv 0 rfl oX4_forget ln11_84 vX4_forget (rc_own h31.1 (S_lt h31.2) (by decide)) (rnCk_of (by decide +kernel) rfl) (tfP_forget) ?_
      refine sb_end ?_
      refine sb_in [(40, .iload 4, 2), (42, .ireturn, 1)] 43 (by decide +kernel) ?_
      refine sb_iload rfl ?_
      obtain ⟨hgz9, h⟩ := gd h
      cases h
      subst hr
      refine sb_ireturn ?_
      exact ⟨.boolean, rfl, rn_nz hgz9⟩
  clear h
  have h := hj26
  clear hj26
  rcases ife h with ⟨cz11, h⟩ | ⟨cz11, h⟩
  · refine sb_icmp_eq_t 10 cz11 (by decide) ?_
    refine sb_in [(10, .aload_n 0, 1), (11, .iload_n 1, 1), (12, .iload_n 3, 1), (13, .invokevirtual 108, 3), (16, .goto 10, 3)] 19 (by decide +kernel) ?_
    refine sb_aload_n rfl ?_
    refine sb_iload_n rfl ?_
    refine sb_iload_n rfl ?_
    refine sb_callVi 2 rfl oX11_setPostman ln11_108 vX11_setPostman (rc_own h0.1 (S_lt h0.2) (by decide)) (rnCk_of (by decide +kernel) rfl) (tfK_setPostman) ?_
    refine sb_goto 26 (by decide) ?_
    cases h
    exact rn_sub [0] rfl hJ26
  · refine sb_icmp_eq_f 10 cz11 (by decide) ?_
    refine sb_in [(5, .iload_n 1, 1), (6, .iconst 4, 1), (7, .if_icmp .ne 12, 3)] 10 (by decide +kernel) ?_
    refine sb_iload_n rfl ?_
    refine sb_iconst cI4 ?_
    rcases ife h with ⟨cz12, h⟩ | ⟨cz12, h⟩
    · refine sb_icmp_ne_f 19 cz12 (by decide) ?_
      refine sb_in [(10, .aload_n 0, 1), (11, .iload_n 1, 1), (12, .iload_n 3, 1), (13, .invokevirtual 108, 3), (16, .goto 10, 3)] 19 (by decide +kernel) ?_
      refine sb_aload_n rfl ?_
      refine sb_iload_n rfl ?_
      refine sb_iload_n rfl ?_
      refine sb_callVi 2 rfl oX11_setPostman ln11_108 vX11_setPostman (rc_own h0.1 (S_lt h0.2) (by decide)) (rnCk_of (by decide +kernel) rfl) (tfK_setPostman) ?_
      refine sb_goto 26 (by decide) ?_
      cases h
      exact rn_sub [0] rfl hJ26
    · refine sb_icmp_ne_t 19 cz12 (by decide) ?_
      refine sb_in [(19, .aload_n 0, 1), (20, .iload_n 1, 1), (21, .iload_n 2, 1), (22, .iload_n 3, 1), (23, .invokevirtual 112, 3)] 26 (by decide +kernel) ?_
      refine sb_aload_n rfl ?_
      refine sb_iload_n rfl ?_
      refine sb_iload_n rfl ?_
      refine sb_iload_n rfl ?_
      obtain ⟨qz3, hez2, h⟩ := bd h
      refine sb_callVi 3 rfl oX11_setDoor ln11_112 vX11_setDoor (rc_own h0.1 (S_lt h0.2) (by decide)) (rnCk_of (by decide +kernel) rfl) (tfK_setDoor hez2) ?_
      refine sb_end ?_
      cases h
      exact rn_sub [0] rfl hJ26
theorem tfK_set {P : Px} {x1 : Int32} {x2 : Int32} {x3 : Int32} {M : Mm} {rr : (Int32 × Mm)} (h : fK_set x1 x2 x3 M = some rr) : EX P 4 kX11_set [.ref 0, .int x1, .int x2, .int x3] (S M) (some (.int rr.1), S rr.2) := ex_of oX11_set (Nat.le_of_ble_eq_true rfl) (nfK_set  h rfl)
set_option maxRecDepth 20000 in
theorem nfK_isKind {P : Px} {x0 : Int32} {M : Mm} {rr : Int32} (h : fK_isKind x0 = some rr) {r : Option Value × Sg} (hr : r = (some (.int rr), S M)) : RN P 2 kX11_isKind 0 [(0, .int x0)] [] (S M) r := by
  unfold fK_isKind at h
  refine sb_in [(0, .iload_n 0, 1), (1, .iconst 0, 1), (2, .bipush 6, 2), (4, .invokestatic 91, 3), (7, .ireturn, 1)] 8 (by decide +kernel) ?_
  refine sb_iload_n rfl ?_
  refine sb_iconst cI0 ?_
  refine sb_bipush cB6 ?_
  refine sb_callSi 3 rfl oX11_isWithin ln11_91 vX11_isWithin (rnCk_of (by decide +kernel) rfl) (tfK_isWithin) ?_
  obtain ⟨hgz2, h⟩ := gd h
  cases h
  subst hr
  refine sb_ireturn ?_
  exact ⟨.boolean, rfl, rn_nz hgz2⟩
theorem tfK_isKind {P : Px} {x0 : Int32} {M : Mm} {rr : Int32} (h : fK_isKind x0 = some rr) : EX P 2 kX11_isKind [.int x0] (S M) (some (.int rr), S M) := ex_of oX11_isKind (Nat.le_of_ble_eq_true rfl) (nfK_isKind  h rfl)
set_option maxRecDepth 20000 in
theorem nfD_copyFrom {P : Px} {w : Nat} (hw : Dr w) {v : Nat} (hv : Dr v) {M : Mm} {rr : Mm} (h : fD_copyFrom w v M = rr) {r : Option Value × Sg} (hr : r = (none, S rr)) : RN P 1 kX1_copyFrom 0 [(0, .ref w), (1, .ref v)] [] (S M) r := by
  unfold fD_copyFrom at h
  refine sb_in [(0, .aload_n 0, 1), (1, .aload_n 1, 1), (2, .getfield 27, 3), (5, .putfield 27, 3), (8, .aload_n 1, 1), (9, .getfield 9, 3), (12, .iconst 0, 1), (13, .aload_n 0, 1), (14, .getfield 9, 3), (17, .iconst 0, 1), (18, .bipush 12, 2), (20, .invokestatic 31, 3), (23, .aload_n 1, 1), (24, .getfield 15, 3), (27, .iconst 0, 1), (28, .aload_n 0, 1), (29, .getfield 15, 3), (32, .iconst 0, 1), (33, .bipush 12, 2), (35, .invokestatic 31, 3), (38, .aload_n 1, 1), (39, .getfield 18, 3), (42, .iconst 0, 1), (43, .aload_n 0, 1), (44, .getfield 18, 3), (47, .iconst 0, 1), (48, .bipush 12, 2), (50, .invokestatic 31, 3), (53, .aload_n 1, 1), (54, .getfield 21, 3), (57, .iconst 0, 1), (58, .aload_n 0, 1), (59, .getfield 21, 3), (62, .iconst 0, 1), (63, .bipush 12, 2), (65, .invokestatic 31, 3), (68, .return_, 1)] 69 (by decide +kernel) ?_
  refine sb_aload_n rfl ?_
  refine sb_aload_n rfl ?_
  refine ss_getI g1_27 (hDr0 hv) ?_
  refine ss_putI p1_27 (hDr0 hw) (fun q => (nzDr hw) q.1) ?_
  refine sb_aload_n rfl ?_
  refine ss_getR g1_9 (hDr0 hv) (rDr1 hv) ?_
  refine sb_iconst cI0 ?_
  refine sb_aload_n rfl ?_
  refine ss_getR g1_9 (hDr0 hw) (rDr1 hw) ?_
  refine sb_iconst cI0 ?_
  refine sb_bipush cB12 ?_
  refine ss_copyL 12 lc1_31 acN acS acI (hDr1 hv) (hDr1 hw) (Nat.succ_ne_zero _) iL12 rfl rfl (by decide) rfl ?_
  refine sb_aload_n rfl ?_
  refine ss_getR g1_15 (hDr0 hv) (rDr2 hv) ?_
  refine sb_iconst cI0 ?_
  refine sb_aload_n rfl ?_
  refine ss_getR g1_15 (hDr0 hw) (rDr2 hw) ?_
  refine sb_iconst cI0 ?_
  refine sb_bipush cB12 ?_
  refine ss_copyL 12 lc1_31 acN acS acI (hDr2 hv) (hDr2 hw) (Nat.succ_ne_zero _) iL12 rfl rfl (by decide) rfl ?_
  refine sb_aload_n rfl ?_
  refine ss_getR g1_18 (hDr0 hv) (rDr3 hv) ?_
  refine sb_iconst cI0 ?_
  refine sb_aload_n rfl ?_
  refine ss_getR g1_18 (hDr0 hw) (rDr3 hw) ?_
  refine sb_iconst cI0 ?_
  refine sb_bipush cB12 ?_
  refine ss_copyL 12 lc1_31 acN acS acI (hDr3 hv) (hDr3 hw) (Nat.succ_ne_zero _) iL12 rfl rfl (by decide) rfl ?_
  refine sb_aload_n rfl ?_
  refine ss_getR g1_21 (hDr0 hv) (rDr4 hv) ?_
  refine sb_iconst cI0 ?_
  refine sb_aload_n rfl ?_
  refine ss_getR g1_21 (hDr0 hw) (rDr4 hw) ?_
  refine sb_iconst cI0 ?_
  refine sb_bipush cB12 ?_
  refine ss_copyL 12 lc1_31 acN acS acI (hDr4 hv) (hDr4 hw) (Nat.succ_ne_zero _) iL12 rfl rfl (by decide) rfl ?_
  subst h
  subst hr
  refine sb_return ?_
  exact rfl
theorem tfD_copyFrom {P : Px} {w : Nat} (hw : Dr w) {v : Nat} (hv : Dr v) {M : Mm} : EX P 1 kX1_copyFrom [.ref w, .ref v] (S M) (none, S (fD_copyFrom w v M)) := ex_of oX1_copyFrom (Nat.le_of_ble_eq_true rfl) (nfD_copyFrom hw hv rfl rfl)
set_option maxRecDepth 20000 in
theorem nfB_copyFrom {P : Px} {w : Nat} (hw : Bg w) {v : Nat} (hv : Bg v) {M : Mm} {rr : Mm} (h : fB_copyFrom w v M = rr) {r : Option Value × Sg} (hr : r = (none, S rr)) : RN P 1 kX0_copyFrom 0 [(0, .ref w), (1, .ref v)] [] (S M) r := by
  unfold fB_copyFrom at h
  refine sb_in [(0, .aload_n 0, 1), (1, .aload_n 1, 1), (2, .getfield 27, 3), (5, .putfield 27, 3), (8, .aload_n 0, 1), (9, .aload_n 1, 1), (10, .getfield 31, 3), (13, .putfield 31, 3), (16, .aload_n 1, 1), (17, .getfield 9, 3), (20, .iconst 0, 1), (21, .aload_n 0, 1), (22, .getfield 9, 3), (25, .iconst 0, 1), (26, .bipush 24, 2), (28, .invokestatic 34, 3), (31, .aload_n 1, 1), (32, .getfield 15, 3), (35, .iconst 0, 1), (36, .aload_n 0, 1), (37, .getfield 15, 3), (40, .iconst 0, 1), (41, .bipush 24, 2), (43, .invokestatic 34, 3), (46, .aload_n 1, 1), (47, .getfield 18, 3), (50, .iconst 0, 1), (51, .aload_n 0, 1), (52, .getfield 18, 3), (55, .iconst 0, 1), (56, .bipush 24, 2), (58, .invokestatic 34, 3), (61, .aload_n 1, 1), (62, .getfield 21, 3), (65, .iconst 0, 1), (66, .aload_n 0, 1), (67, .getfield 21, 3), (70, .iconst 0, 1), (71, .bipush 24, 2), (73, .invokestatic 34, 3), (76, .aload_n 1, 1), (77, .getfield 24, 3), (80, .iconst 0, 1), (81, .aload_n 0, 1), (82, .getfield 24, 3), (85, .iconst 0, 1), (86, .bipush 24, 2), (88, .invokestatic 34, 3), (91, .return_, 1)] 92 (by decide +kernel) ?_
  refine sb_aload_n rfl ?_
  refine sb_aload_n rfl ?_
  refine ss_getI g0_27 (hBg0 hv) ?_
  refine ss_putI p0_27 (hBg0 hw) (fun q => (nzBg hw) q.1) ?_
  refine sb_aload_n rfl ?_
  refine sb_aload_n rfl ?_
  refine ss_getI g0_31 (hBg0 hv) ?_
  refine ss_putI p0_31 (hBg0 hw) (fun q => (nzBg hw) q.1) ?_
  refine sb_aload_n rfl ?_
  refine ss_getR g0_9 (hBg0 hv) (rBg2 hv) ?_
  refine sb_iconst cI0 ?_
  refine sb_aload_n rfl ?_
  refine ss_getR g0_9 (hBg0 hw) (rBg2 hw) ?_
  refine sb_iconst cI0 ?_
  refine sb_bipush cB24 ?_
  refine ss_copyL 24 lc0_34 acN acS acI (hBg1 hv) (hBg1 hw) (Nat.succ_ne_zero _) iL24 rfl rfl (by decide) rfl ?_
  refine sb_aload_n rfl ?_
  refine ss_getR g0_15 (hBg0 hv) (rBg3 hv) ?_
  refine sb_iconst cI0 ?_
  refine sb_aload_n rfl ?_
  refine ss_getR g0_15 (hBg0 hw) (rBg3 hw) ?_
  refine sb_iconst cI0 ?_
  refine sb_bipush cB24 ?_
  refine ss_copyL 24 lc0_34 acN acS acI (hBg2 hv) (hBg2 hw) (Nat.succ_ne_zero _) iL24 rfl rfl (by decide) rfl ?_
  refine sb_aload_n rfl ?_
  refine ss_getR g0_18 (hBg0 hv) (rBg4 hv) ?_
  refine sb_iconst cI0 ?_
  refine sb_aload_n rfl ?_
  refine ss_getR g0_18 (hBg0 hw) (rBg4 hw) ?_
  refine sb_iconst cI0 ?_
  refine sb_bipush cB24 ?_
  refine ss_copyL 24 lc0_34 acN acS acI (hBg3 hv) (hBg3 hw) (Nat.succ_ne_zero _) iL24 rfl rfl (by decide) rfl ?_
  refine sb_aload_n rfl ?_
  refine ss_getR g0_21 (hBg0 hv) (rBg5 hv) ?_
  refine sb_iconst cI0 ?_
  refine sb_aload_n rfl ?_
  refine ss_getR g0_21 (hBg0 hw) (rBg5 hw) ?_
  refine sb_iconst cI0 ?_
  refine sb_bipush cB24 ?_
  refine ss_copyL 24 lc0_34 acN acS acI (hBg4 hv) (hBg4 hw) (Nat.succ_ne_zero _) iL24 rfl rfl (by decide) rfl ?_
  refine sb_aload_n rfl ?_
  refine ss_getR g0_24 (hBg0 hv) (rBg6 hv) ?_
  refine sb_iconst cI0 ?_
  refine sb_aload_n rfl ?_
  refine ss_getR g0_24 (hBg0 hw) (rBg6 hw) ?_
  refine sb_iconst cI0 ?_
  refine sb_bipush cB24 ?_
  refine ss_copyL 24 lc0_34 acN acS acI (hBg5 hv) (hBg5 hw) (Nat.succ_ne_zero _) iL24 rfl rfl (by decide) rfl ?_
  subst h
  subst hr
  refine sb_return ?_
  exact rfl
theorem tfB_copyFrom {P : Px} {w : Nat} (hw : Bg w) {v : Nat} (hv : Bg v) {M : Mm} : EX P 1 kX0_copyFrom [.ref w, .ref v] (S M) (none, S (fB_copyFrom w v M)) := ex_of oX0_copyFrom (Nat.le_of_ble_eq_true rfl) (nfB_copyFrom hw hv rfl rfl)
set_option maxRecDepth 20000 in
theorem nfW_copyFrom {P : Px} {w : Nat} (hw : Wd w) {v : Nat} (hv : Wd v) {M : Mm} {rr : Mm} (h : fW_copyFrom w v M = some rr) {r : Option Value × Sg} (hr : r = (none, S rr)) : RN P 2 kX10_copyFrom 0 [(0, .ref w), (1, .ref v)] [] (S M) r := by
  unfold fW_copyFrom at h
  refine sb_in [(0, .aload_n 0, 1), (1, .getfield 12, 3), (4, .aload_n 1, 1), (5, .getfield 12, 3), (8, .invokevirtual 153, 3), (11, .aload_n 0, 1), (12, .getfield 21, 3), (15, .aload_n 1, 1), (16, .getfield 21, 3), (19, .invokevirtual 157, 3), (22, .aload_n 1, 1), (23, .getfield 25, 3), (26, .iconst 0, 1), (27, .aload_n 0, 1), (28, .getfield 25, 3), (31, .iconst 0, 1), (32, .bipush 7, 2), (34, .invokestatic 160, 3), (37, .aload_n 1, 1), (38, .getfield 37, 3), (41, .iconst 0, 1), (42, .aload_n 0, 1), (43, .getfield 37, 3), (46, .iconst 0, 1), (47, .aload_n 0, 1), (48, .getfield 37, 3), (51, .arraylength, 1), (52, .aload_n 1, 1), (53, .getfield 37, 3), (56, .arraylength, 1), (57, .invokestatic 72, 3), (60, .invokestatic 160, 3), (63, .aload_n 0, 1), (64, .aload_n 1, 1), (65, .getfield 166, 3), (68, .putfield 166, 3), (71, .aload_n 0, 1), (72, .aload_n 1, 1), (73, .getfield 29, 3), (76, .putfield 29, 3), (79, .aload_n 0, 1), (80, .aload_n 1, 1), (81, .getfield 108, 3), (84, .putfield 108, 3), (87, .aload_n 0, 1), (88, .aload_n 1, 1), (89, .getfield 169, 3), (92, .putfield 169, 3), (95, .aload_n 0, 1), (96, .aload_n 1, 1), (97, .getfield 44, 3), (100, .putfield 44, 3), (103, .aload_n 0, 1), (104, .aload_n 1, 1), (105, .getfield 69, 3), (108, .putfield 69, 3), (111, .aload_n 0, 1), (112, .aload_n 1, 1), (113, .getfield 111, 3), (116, .putfield 111, 3), (119, .aload_n 0, 1), (120, .aload_n 1, 1), (121, .getfield 114, 3), (124, .putfield 114, 3), (127, .aload_n 0, 1), (128, .aload_n 1, 1), (129, .getfield 172, 3), (132, .putfield 172, 3), (135, .return_, 1)] 136 (by decide +kernel) ?_
  refine sb_aload_n rfl ?_
  refine ss_getR g10_12 (hWd0 hw) (rWd0 hw) ?_
  refine sb_aload_n rfl ?_
  refine ss_getR g10_12 (hWd0 hv) (rWd0 hv) ?_
  refine sb_callVv 1 rfl oX1_copyFrom ln10_153 vX1_copyFrom (rc_own (hWd1 hw).1 (S_lt (hWd1 hw).2) (by decide)) (rnCk_of (by decide +kernel) rfl) (tfD_copyFrom (Wd_Dr hw) (Wd_Dr hv)) ?_
  refine sb_aload_n rfl ?_
  refine ss_getR g10_21 (hWd0 hw) (rWd1 hw) ?_
  refine sb_aload_n rfl ?_
  refine ss_getR g10_21 (hWd0 hv) (rWd1 hv) ?_
  refine sb_callVv 1 rfl oX0_copyFrom ln10_157 vX0_copyFrom (rc_own (hWd7 hw).1 (S_lt (hWd7 hw).2) (by decide)) (rnCk_of (by decide +kernel) rfl) (tfB_copyFrom (Wd_Bg hw) (Wd_Bg hv)) ?_
  refine sb_aload_n rfl ?_
  refine ss_getR g10_25 (hWd0 hv) (rWd2 hv) ?_
  refine sb_iconst cI0 ?_
  refine sb_aload_n rfl ?_
  refine ss_getR g10_25 (hWd0 hw) (rWd2 hw) ?_
  refine sb_iconst cI0 ?_
  refine sb_bipush cB7 ?_
  refine ss_copyL 7 lc10_160 acN acS acI (hWd13 hv) (hWd13 hw) (Nat.succ_ne_zero _) iL7 rfl rfl (by decide) rfl ?_
  refine sb_aload_n rfl ?_
  refine ss_getR g10_37 (hWd0 hv) (rWd3 hv) ?_
  refine sb_iconst cI0 ?_
  refine sb_aload_n rfl ?_
  refine ss_getR g10_37 (hWd0 hw) (rWd3 hw) ?_
  refine sb_iconst cI0 ?_
  refine sb_aload_n rfl ?_
  refine ss_getR g10_37 (hWd0 hw) (rWd3 hw) ?_
  refine ss_alen (hWd14 hw) (Or.inl rfl) rfl ?_
  refine sb_aload_n rfl ?_
  refine ss_getR g10_37 (hWd0 hv) (rWd3 hv) ?_
  refine ss_alen (hWd14 hv) (Or.inl rfl) rfl ?_
  refine sb_min lm10_72 minS maI minC (by decide) rfl ?_
  obtain ⟨hgz5, h⟩ := gd h
  refine ss_copy lc10_160 acN acS acI (hWd14 hv) (hWd14 hw) (Nat.succ_ne_zero _) hgz5 (by decide) rfl ?_
  refine sb_aload_n rfl ?_
  refine sb_aload_n rfl ?_
  refine ss_getI g10_166 (hWd0 hv) ?_
  refine ss_putI p10_166 (hWd0 hw) (fun q => (nzWd hw) q.1) ?_
  refine sb_aload_n rfl ?_
  refine sb_aload_n rfl ?_
  refine ss_getI g10_29 (hWd0 hv) ?_
  refine ss_putI p10_29 (hWd0 hw) (fun q => (nzWd hw) q.1) ?_
  refine sb_aload_n rfl ?_
  refine sb_aload_n rfl ?_
  refine ss_getI g10_108 (hWd0 hv) ?_
  refine ss_putI p10_108 (hWd0 hw) (fun q => (nzWd hw) q.1) ?_
  refine sb_aload_n rfl ?_
  refine sb_aload_n rfl ?_
  refine ss_getI g10_169 (hWd0 hv) ?_
  refine ss_putI p10_169 (hWd0 hw) (fun q => (nzWd hw) q.1) ?_
  refine sb_aload_n rfl ?_
  refine sb_aload_n rfl ?_
  refine ss_getI g10_44 (hWd0 hv) ?_
  refine ss_putI p10_44 (hWd0 hw) (fun q => (nzWd hw) q.1) ?_
  refine sb_aload_n rfl ?_
  refine sb_aload_n rfl ?_
  refine ss_getI g10_69 (hWd0 hv) ?_
  refine ss_putI p10_69 (hWd0 hw) (fun q => (nzWd hw) q.1) ?_
  refine sb_aload_n rfl ?_
  refine sb_aload_n rfl ?_
  refine ss_getI g10_111 (hWd0 hv) ?_
  refine ss_putI p10_111 (hWd0 hw) (fun q => (nzWd hw) q.1) ?_
  refine sb_aload_n rfl ?_
  refine sb_aload_n rfl ?_
  refine ss_getI g10_114 (hWd0 hv) ?_
  refine ss_putI p10_114 (hWd0 hw) (fun q => (nzWd hw) q.1) ?_
  refine sb_aload_n rfl ?_
  refine sb_aload_n rfl ?_
  refine ss_getI g10_172 (hWd0 hv) ?_
  refine ss_putI p10_172 (hWd0 hw) (fun q => (nzWd hw) q.1) ?_
  cases h
  subst hr
  refine sb_return ?_
  exact rfl
theorem tfW_copyFrom {P : Px} {w : Nat} (hw : Wd w) {v : Nat} (hv : Wd v) {M : Mm} {rr : Mm} (h : fW_copyFrom w v M = some rr) : EX P 2 kX10_copyFrom [.ref w, .ref v] (S M) (none, S rr) := ex_of oX10_copyFrom (Nat.le_of_ble_eq_true rfl) (nfW_copyFrom hw hv h rfl)
set_option maxRecDepth 20000 in
theorem nfP_keep {P : Px} {M : Mm} {rr : Mm} (h : fP_keep M = some rr) {r : Option Value × Sg} (hr : r = (none, S rr)) : RN P 3 kX4_keep 0 [(0, .ref 31), (1, .ref 1)] [] (S M) r := by
  unfold fP_keep at h
  refine sb_in [(0, .aload_n 0, 1), (1, .aload_n 0, 1), (2, .getfield 18, 3), (5, .iconst 1, 1), (6, .iadd, 1), (7, .bipush 6, 2), (9, .irem, 1), (10, .putfield 18, 3), (13, .aload_n 0, 1), (14, .getfield 11, 3), (17, .aload_n 0, 1), (18, .getfield 18, 3), (21, .aaload, 1), (22, .aload_n 1, 1), (23, .invokevirtual 22, 3), (26, .aload_n 0, 1), (27, .bipush 6, 2), (29, .aload_n 0, 1), (30, .getfield 26, 3), (33, .iconst 1, 1), (34, .iadd, 1), (35, .invokestatic 29, 3), (38, .putfield 26, 3), (41, .return_, 1)] 42 (by decide +kernel) ?_
  refine sb_aload_n rfl ?_
  refine sb_aload_n rfl ?_
  refine ss_getI g4_18 h31 ?_
  refine sb_iconst cI1 ?_
  refine sb_iadd ?_
  refine sb_bipush cB6 ?_
  refine sb_irem (by decide) ?_
  refine ss_putI p4_18 h31 (by decide) ?_
  refine sb_aload_n rfl ?_
  refine ss_getR g4_11 h31 r31_2 ?_
  refine sb_aload_n rfl ?_
  refine ss_getI g4_18 h31 ?_
  obtain ⟨hgz2, h⟩ := gd h
  refine ss_kept hgz2 ?_
  refine sb_aload_n rfl ?_
  obtain ⟨Mz4, hez3, h⟩ := bd h
  refine sb_callVv 1 rfl oX10_copyFrom ln4_22 vX10_copyFrom (rc_own (hWd0 (kept_wd hgz2)).1 (S_lt (hWd0 (kept_wd hgz2)).2) (by decide)) (rnCk_of (by decide +kernel) rfl) (tfW_copyFrom (kept_wd hgz2) lWd1 hez3) ?_
  refine sb_aload_n rfl ?_
  refine sb_bipush cB6 ?_
  refine sb_aload_n rfl ?_
  refine ss_getI g4_26 h31 ?_
  refine sb_iconst cI1 ?_
  refine sb_iadd ?_
  refine sb_min lm4_29 minS maI minC (by decide) rfl ?_
  refine ss_putI p4_26 h31 (by decide) ?_
  cases h
  subst hr
  refine sb_return ?_
  exact rfl
theorem tfP_keep {P : Px} {M : Mm} {rr : Mm} (h : fP_keep M = some rr) : EX P 3 kX4_keep [.ref 31, .ref 1] (S M) (none, S rr) := ex_of oX4_keep (Nat.le_of_ble_eq_true rfl) (nfP_keep  h rfl)
set_option maxRecDepth 20000 in
theorem nfB_add {P : Px} {w : Nat} (hw : Bg w) {x1 : Int32} {x2 : Int32} {x3 : Int32} {M : Mm} {rr : (Int32 × Mm)} (h : fB_add w x1 x2 x3 M = some rr) {r : Option Value × Sg} (hr : r = (some (.int rr.1), S rr.2)) : RN P 1 kX0_add 0 [(0, .ref w), (1, .int x1), (2, .int x2), (3, .int x3)] [] (S M) r := by
  unfold fB_add at h
  refine sb_in [(0, .aload_n 0, 1), (1, .getfield 27, 3), (4, .bipush 24, 2), (6, .if_icmp .lt 5, 3)] 9 (by decide +kernel) ?_
  refine sb_aload_n rfl ?_
  refine ss_getI g0_27 (hBg0 hw) ?_
  refine sb_bipush cB24 ?_
  rcases ife h with ⟨cz13, h⟩ | ⟨cz13, h⟩
  · refine sb_icmp_lt_t 11 cz13 (by decide) ?_
    refine sb_in [(11, .aload_n 0, 1), (12, .getfield 9, 3), (15, .aload_n 0, 1), (16, .getfield 27, 3), (19, .aload_n 0, 1), (20, .getfield 31, 3), (23, .iastore, 1), (24, .aload_n 0, 1), (25, .getfield 15, 3), (28, .aload_n 0, 1), (29, .getfield 27, 3), (32, .iload_n 1, 1), (33, .iastore, 1), (34, .aload_n 0, 1), (35, .getfield 18, 3), (38, .aload_n 0, 1), (39, .getfield 27, 3), (42, .iload_n 2, 1), (43, .iastore, 1), (44, .aload_n 0, 1), (45, .getfield 21, 3), (48, .aload_n 0, 1), (49, .getfield 27, 3), (52, .iload_n 3, 1), (53, .iastore, 1), (54, .aload_n 0, 1), (55, .getfield 24, 3), (58, .aload_n 0, 1), (59, .getfield 27, 3), (62, .iconst 0, 1), (63, .iastore, 1), (64, .aload_n 0, 1), (65, .dup, 1), (66, .getfield 27, 3), (69, .iconst 1, 1), (70, .iadd, 1), (71, .putfield 27, 3), (74, .aload_n 0, 1), (75, .dup, 1), (76, .getfield 31, 3), (79, .iconst 1, 1), (80, .iadd, 1), (81, .putfield 31, 3), (84, .aload_n 0, 1), (85, .getfield 31, 3), (88, .iconst 1, 1), (89, .isub, 1), (90, .ireturn, 1)] 91 (by decide +kernel) ?_
    refine sb_aload_n rfl ?_
    refine ss_getR g0_9 (hBg0 hw) (rBg2 hw) ?_
    refine sb_aload_n rfl ?_
    refine ss_getI g0_27 (hBg0 hw) ?_
    refine sb_aload_n rfl ?_
    refine ss_getI g0_31 (hBg0 hw) ?_
    obtain ⟨hgz2, h⟩ := gd h
    refine ss_iast (hBg1 hw) (Nat.succ_ne_zero _) hgz2 ?_
    refine sb_aload_n rfl ?_
    refine ss_getR g0_15 (hBg0 hw) (rBg3 hw) ?_
    refine sb_aload_n rfl ?_
    refine ss_getI g0_27 (hBg0 hw) ?_
    refine sb_iload_n rfl ?_
    obtain ⟨hgz4, h⟩ := gd h
    refine ss_iast (hBg2 hw) (Nat.succ_ne_zero _) hgz4 ?_
    refine sb_aload_n rfl ?_
    refine ss_getR g0_18 (hBg0 hw) (rBg4 hw) ?_
    refine sb_aload_n rfl ?_
    refine ss_getI g0_27 (hBg0 hw) ?_
    refine sb_iload_n rfl ?_
    obtain ⟨hgz6, h⟩ := gd h
    refine ss_iast (hBg3 hw) (Nat.succ_ne_zero _) hgz6 ?_
    refine sb_aload_n rfl ?_
    refine ss_getR g0_21 (hBg0 hw) (rBg5 hw) ?_
    refine sb_aload_n rfl ?_
    refine ss_getI g0_27 (hBg0 hw) ?_
    refine sb_iload_n rfl ?_
    obtain ⟨hgz8, h⟩ := gd h
    refine ss_iast (hBg4 hw) (Nat.succ_ne_zero _) hgz8 ?_
    refine sb_aload_n rfl ?_
    refine ss_getR g0_24 (hBg0 hw) (rBg6 hw) ?_
    refine sb_aload_n rfl ?_
    refine ss_getI g0_27 (hBg0 hw) ?_
    refine sb_iconst cI0 ?_
    obtain ⟨hgz10, h⟩ := gd h
    refine ss_iast (hBg5 hw) (Nat.succ_ne_zero _) hgz10 ?_
    refine sb_aload_n rfl ?_
    refine sb_dup rfl ?_
    refine ss_getI g0_27 (hBg0 hw) ?_
    refine sb_iconst cI1 ?_
    refine sb_iadd ?_
    refine ss_putI p0_27 (hBg0 hw) (fun q => (nzBg hw) q.1) ?_
    refine sb_aload_n rfl ?_
    refine sb_dup rfl ?_
    refine ss_getI g0_31 (hBg0 hw) ?_
    refine sb_iconst cI1 ?_
    refine sb_iadd ?_
    refine ss_putI p0_31 (hBg0 hw) (fun q => (nzBg hw) q.1) ?_
    refine sb_aload_n rfl ?_
    refine ss_getI g0_31 (hBg0 hw) ?_
    refine sb_iconst cI1 ?_
    refine sb_isub ?_
    cases h
    subst hr
    refine sb_ireturn ?_
    exact ⟨.int, rfl, rfl⟩
  · refine sb_icmp_lt_f 11 cz13 (by decide) ?_
    refine sb_in [(9, .iconst (-1), 1), (10, .ireturn, 1)] 11 (by decide +kernel) ?_
    refine sb_iconst cIm1 ?_
    cases h
    subst hr
    refine sb_ireturn ?_
    exact ⟨.int, rfl, rfl⟩
theorem tfB_add {P : Px} {w : Nat} (hw : Bg w) {x1 : Int32} {x2 : Int32} {x3 : Int32} {M : Mm} {rr : (Int32 × Mm)} (h : fB_add w x1 x2 x3 M = some rr) : EX P 1 kX0_add [.ref w, .int x1, .int x2, .int x3] (S M) (some (.int rr.1), S rr.2) := ex_of oX0_add (Nat.le_of_ble_eq_true rfl) (nfB_add hw h rfl)
set_option maxRecDepth 20000 in
theorem nfW_write {P : Px} {w : Nat} (hw : Wd w) {x1 : Int32} {x2 : Int32} {x3 : Int32} {M : Mm} {rr : Mm} (h : fW_write w x1 x2 x3 M = some rr) {r : Option Value × Sg} (hr : r = (none, S rr)) : RN P 1 kX10_write 0 [(0, .ref w), (1, .int x1), (2, .int x2), (3, .int x3)] [] (S M) r := by
  unfold fW_write at h
  refine sb_in [(0, .aload_n 0, 1), (1, .getfield 166, 3), (4, .iconst 4, 1), (5, .imul, 1), (6, .istore 4, 2), (8, .iload 4, 2), (10, .iconst 4, 1), (11, .iadd, 1), (12, .aload_n 0, 1), (13, .getfield 37, 3), (16, .arraylength, 1), (17, .if_icmp .le 4, 3)] 20 (by decide +kernel) ?_
  refine sb_aload_n rfl ?_
  refine ss_getI g10_166 (hWd0 hw) ?_
  refine sb_iconst cI4 ?_
  refine sb_imul ?_
  refine sb_istore (by decide) rfl ?_
  refine sb_iload rfl ?_
  refine sb_iconst cI4 ?_
  refine sb_iadd ?_
  refine sb_aload_n rfl ?_
  refine ss_getR g10_37 (hWd0 hw) (rWd3 hw) ?_
  refine ss_alen (hWd14 hw) (Or.inl rfl) rfl ?_
  rcases ife h with ⟨cz11, h⟩ | ⟨cz11, h⟩
  · refine sb_icmp_le_t 21 cz11 (by decide) ?_
    refine sb_in [(21, .aload_n 0, 1), (22, .getfield 37, 3), (25, .iload 4, 2), (27, .aload_n 0, 1), (28, .getfield 114, 3), (31, .iastore, 1), (32, .aload_n 0, 1), (33, .getfield 37, 3), (36, .iload 4, 2), (38, .iconst 1, 1), (39, .iadd, 1), (40, .iload_n 1, 1), (41, .iastore, 1), (42, .aload_n 0, 1), (43, .getfield 37, 3), (46, .iload 4, 2), (48, .iconst 2, 1), (49, .iadd, 1), (50, .iload_n 2, 1), (51, .iastore, 1), (52, .aload_n 0, 1), (53, .getfield 37, 3), (56, .iload 4, 2), (58, .iconst 3, 1), (59, .iadd, 1), (60, .iload_n 3, 1), (61, .iastore, 1), (62, .aload_n 0, 1), (63, .dup, 1), (64, .getfield 166, 3), (67, .iconst 1, 1), (68, .iadd, 1), (69, .putfield 166, 3), (72, .return_, 1)] 73 (by decide +kernel) ?_
    refine sb_aload_n rfl ?_
    refine ss_getR g10_37 (hWd0 hw) (rWd3 hw) ?_
    refine sb_iload rfl ?_
    refine sb_aload_n rfl ?_
    refine ss_getI g10_114 (hWd0 hw) ?_
    obtain ⟨hgz3, h⟩ := gd h
    refine ss_iast (hWd14 hw) (Nat.succ_ne_zero _) hgz3 ?_
    refine sb_aload_n rfl ?_
    refine ss_getR g10_37 (hWd0 hw) (rWd3 hw) ?_
    refine sb_iload rfl ?_
    refine sb_iconst cI1 ?_
    refine sb_iadd ?_
    refine sb_iload_n rfl ?_
    obtain ⟨hgz5, h⟩ := gd h
    refine ss_iast (hWd14 hw) (Nat.succ_ne_zero _) hgz5 ?_
    refine sb_aload_n rfl ?_
    refine ss_getR g10_37 (hWd0 hw) (rWd3 hw) ?_
    refine sb_iload rfl ?_
    refine sb_iconst cI2 ?_
    refine sb_iadd ?_
    refine sb_iload_n rfl ?_
    obtain ⟨hgz7, h⟩ := gd h
    refine ss_iast (hWd14 hw) (Nat.succ_ne_zero _) hgz7 ?_
    refine sb_aload_n rfl ?_
    refine ss_getR g10_37 (hWd0 hw) (rWd3 hw) ?_
    refine sb_iload rfl ?_
    refine sb_iconst cI3 ?_
    refine sb_iadd ?_
    refine sb_iload_n rfl ?_
    obtain ⟨hgz9, h⟩ := gd h
    refine ss_iast (hWd14 hw) (Nat.succ_ne_zero _) hgz9 ?_
    refine sb_aload_n rfl ?_
    refine sb_dup rfl ?_
    refine ss_getI g10_166 (hWd0 hw) ?_
    refine sb_iconst cI1 ?_
    refine sb_iadd ?_
    refine ss_putI p10_166 (hWd0 hw) (fun q => (nzWd hw) q.1) ?_
    cases h
    subst hr
    refine sb_return ?_
    exact rfl
  · refine sb_icmp_le_f 21 cz11 (by decide) ?_
    refine sb_in [(20, .return_, 1)] 21 (by decide +kernel) ?_
    cases h
    subst hr
    refine sb_return ?_
    exact rfl
theorem tfW_write {P : Px} {w : Nat} (hw : Wd w) {x1 : Int32} {x2 : Int32} {x3 : Int32} {M : Mm} {rr : Mm} (h : fW_write w x1 x2 x3 M = some rr) : EX P 1 kX10_write [.ref w, .int x1, .int x2, .int x3] (S M) (none, S rr) := ex_of oX10_write (Nat.le_of_ble_eq_true rfl) (nfW_write hw h rfl)
set_option maxRecDepth 20000 in
theorem nfW_arrive {P : Px} {w : Nat} (hw : Wd w) {x1 : Int32} {x2 : Int32} {x3 : Int32} {M : Mm} {rr : (Int32 × Mm)} (h : fW_arrive w x1 x2 x3 M = some rr) {r : Option Value × Sg} (hr : r = (some (.int rr.1), S rr.2)) : RN P 2 kX10_arrive 0 [(0, .ref w), (1, .int x1), (2, .int x2), (3, .int x3)] [] (S M) r := by
  unfold fW_arrive at h
  refine sb_in [(0, .aload_n 0, 1), (1, .getfield 21, 3), (4, .iload_n 1, 1), (5, .iload_n 2, 1), (6, .iload_n 3, 1), (7, .invokevirtual 40, 3), (10, .istore 4, 2), (12, .iload 4, 2), (14, .iconst (-1), 1), (15, .if_icmp .ne 13, 3)] 18 (by decide +kernel) ?_
  refine sb_aload_n rfl ?_
  refine ss_getR g10_21 (hWd0 hw) (rWd1 hw) ?_
  refine sb_iload_n rfl ?_
  refine sb_iload_n rfl ?_
  refine sb_iload_n rfl ?_
  obtain ⟨qz2, hez1, h⟩ := bd h
  refine sb_callVi 3 rfl oX0_add ln10_40 vX0_add (rc_own (hWd7 hw).1 (S_lt (hWd7 hw).2) (by decide)) (rnCk_of (by decide +kernel) rfl) (tfB_add (Wd_Bg hw) hez1) ?_
  refine sb_istore (by decide) rfl ?_
  refine sb_iload rfl ?_
  refine sb_iconst cIm1 ?_
  obtain ⟨Mz4, hj28, h⟩ := bd h
  have hJ28 : RN P 2 kX10_arrive 28 [(0, .ref w), (1, .int x1), (4, .int qz2.1)] [] (S Mz4) r := by
    refine sb_in [(28, .aload_n 0, 1), (29, .iload 4, 2), (31, .iconst (-1), 1), (32, .if_icmp .ne 7, 3)] 35 (by decide +kernel) ?_
    refine sb_aload_n rfl ?_
    refine sb_iload rfl ?_
    refine sb_iconst cIm1 ?_
    have hJ40 : RN P 2 kX10_arrive 40 [(1, .int x1), (4, .int qz2.1)] [.int (if qz2.1 = (-1) then (3 : Int32) else 0), .ref w] (S Mz4) r := by
      refine sb_in [(40, .iload 4, 2), (42, .iload_n 1, 1), (43, .invokevirtual 47, 3), (46, .iload 4, 2), (48, .ireturn, 1)] 49 (by decide +kernel) ?_
      refine sb_iload rfl ?_
      refine sb_iload_n rfl ?_
      obtain ⟨Mz6, hez5, h⟩ := bd h
      refine sb_callVv 3 rfl oX10_write ln10_47 vX10_write (rc_own (hWd0 hw).1 (S_lt (hWd0 hw).2) (by decide)) (rnCk_of (by decide +kernel) rfl) (tfW_write hw hez5) ?_
      refine sb_iload rfl ?_
      cases h
      subst hr
      refine sb_ireturn ?_
      exact ⟨.int, rfl, rfl⟩
    rcases Decidable.em (qz2.1 = (-1)) with cz7 | cz7
    · refine sb_icmp_ne_f 39 cz7 (by decide) ?_
      refine sb_in [(35, .iconst 3, 1), (36, .goto 4, 3)] 39 (by decide +kernel) ?_
      refine sb_iconst cI3 ?_
      refine sb_goto 40 (by decide) ?_
      have hq := hJ40
      simp only [if_pos cz7] at hq
      exact rn_sub [1, 4] rfl hq
    · refine sb_icmp_ne_t 39 cz7 (by decide) ?_
      refine sb_in [(39, .iconst 0, 1)] 40 (by decide +kernel) ?_
      refine sb_iconst cI0 ?_
      refine sb_end ?_
      have hq := hJ40
      simp only [if_neg cz7] at hq
      exact rn_sub [1, 4] rfl hq
  clear h
  have h := hj28
  clear hj28
  rcases ife h with ⟨cz8, h⟩ | ⟨cz8, h⟩
  · refine sb_icmp_ne_f 28 cz8 (by decide) ?_
    refine sb_in [(18, .aload_n 0, 1), (19, .dup, 1), (20, .getfield 44, 3), (23, .iconst 1, 1), (24, .iadd, 1), (25, .putfield 44, 3)] 28 (by decide +kernel) ?_
    refine sb_aload_n rfl ?_
    refine sb_dup rfl ?_
    refine ss_getI g10_44 (hWd0 hw) ?_
    refine sb_iconst cI1 ?_
    refine sb_iadd ?_
    refine ss_putI p10_44 (hWd0 hw) (fun q => (nzWd hw) q.1) ?_
    refine sb_end ?_
    cases h
    exact rn_sub [0, 1, 4] rfl hJ28
  · refine sb_icmp_ne_t 28 cz8 (by decide) ?_
    cases h
    exact rn_sub [0, 1, 4] rfl hJ28
theorem tfW_arrive {P : Px} {w : Nat} (hw : Wd w) {x1 : Int32} {x2 : Int32} {x3 : Int32} {M : Mm} {rr : (Int32 × Mm)} (h : fW_arrive w x1 x2 x3 M = some rr) : EX P 2 kX10_arrive [.ref w, .int x1, .int x2, .int x3] (S M) (some (.int rr.1), S rr.2) := ex_of oX10_arrive (Nat.le_of_ble_eq_true rfl) (nfW_arrive hw h rfl)
set_option maxRecDepth 20000 in
theorem nfK_post {P : Px} {x1 : Int32} {x2 : Int32} {x3 : Int32} {M : Mm} {rr : (Int32 × Mm)} (h : fK_post x1 x2 x3 M = some rr) {r : Option Value × Sg} (hr : r = (some (.int rr.1), S rr.2)) : RN P 4 kX11_post 0 [(0, .ref 0), (1, .int x1), (2, .int x2), (3, .int x3)] [] (S M) r := by
  unfold fK_post at h
  refine sb_in [(0, .aload_n 0, 1), (1, .iload_n 1, 1), (2, .invokevirtual 115, 3), (5, .ifCond .eq 24, 3)] 8 (by decide +kernel) ?_
  refine sb_aload_n rfl ?_
  refine sb_iload_n rfl ?_
  obtain ⟨qz2, hez1, h⟩ := bd h
  refine sb_callVi 1 rfl oX11_isDoor ln11_115 vX11_isDoor (rc_own h0.1 (S_lt h0.2) (by decide)) (rnCk_of (by decide +kernel) rfl) (tfK_isDoor hez1) ?_
  obtain ⟨yz6, hj30, h⟩ := bd h
  have hJ30 : RN P 4 kX11_post 30 [(0, .ref 0), (1, .int x1), (2, .int x2), (3, .int x3)] [.int yz6] (S M) r := by
    refine sb_in [(30, .istore 4, 2), (32, .iload 4, 2), (34, .ifCond .eq 18, 3)] 37 (by decide +kernel) ?_
    refine sb_istore (by decide) rfl ?_
    refine sb_iload rfl ?_
    rcases ife h with ⟨cz11, h⟩ | ⟨cz11, h⟩
    · refine sb_if_eq_t 52 cz11 (by decide) ?_
      refine sb_in [(52, .iconst (-1), 1), (53, .ireturn, 1)] 54 (by decide +kernel) ?_
      refine sb_iconst cIm1 ?_
      cases h
      subst hr
      refine sb_ireturn ?_
      exact ⟨.int, rfl, rfl⟩
    · refine sb_if_eq_f 52 cz11 (by decide) ?_
      refine sb_in [(37, .aload_n 0, 1), (38, .getfield 16, 3), (41, .getfield 121, 3), (44, .getfield 125, 3), (47, .bipush 24, 2), (49, .if_icmp .lt 5, 3)] 52 (by decide +kernel) ?_
      refine sb_aload_n rfl ?_
      refine ss_getR g11_16 h0 r0_0 ?_
      refine ss_getR g11_121 h1 r1_1 ?_
      refine ss_getI g11_125 h8 ?_
      refine sb_bipush cB24 ?_
      rcases ife h with ⟨cz12, h⟩ | ⟨cz12, h⟩
      · refine sb_icmp_lt_t 54 cz12 (by decide) ?_
        refine sb_in [(54, .aload_n 0, 1), (55, .getfield 26, 3), (58, .aload_n 0, 1), (59, .getfield 16, 3), (62, .invokevirtual 130, 3), (65, .aload_n 0, 1), (66, .getfield 16, 3), (69, .iload_n 1, 1), (70, .iload_n 2, 1), (71, .iload_n 3, 1), (72, .invokevirtual 134, 3), (75, .ireturn, 1)] 76 (by decide +kernel) ?_
        refine sb_aload_n rfl ?_
        refine ss_getR g11_26 h0 r0_2 ?_
        refine sb_aload_n rfl ?_
        refine ss_getR g11_16 h0 r0_0 ?_
        obtain ⟨Mz8, hez7, h⟩ := bd h
        refine sb_callVv 1 rfl oX4_keep ln11_130 vX4_keep (rc_own h31.1 (S_lt h31.2) (by decide)) (rnCk_of (by decide +kernel) rfl) (tfP_keep hez7) ?_
        refine sb_aload_n rfl ?_
        refine ss_getR g11_16 h0 r0_0 ?_
        refine sb_iload_n rfl ?_
        refine sb_iload_n rfl ?_
        refine sb_iload_n rfl ?_
        obtain ⟨qz10, hez9, h⟩ := bd h
        refine sb_callVi 3 rfl oX10_arrive ln11_134 vX10_arrive (rc_own h1.1 (S_lt h1.2) (by decide)) (rnCk_of (by decide +kernel) rfl) (tfW_arrive lWd1 hez9) ?_
        cases h
        subst hr
        refine sb_ireturn ?_
        exact ⟨.int, rfl, rfl⟩
      · refine sb_icmp_lt_f 54 cz12 (by decide) ?_
        refine sb_in [(52, .iconst (-1), 1), (53, .ireturn, 1)] 54 (by decide +kernel) ?_
        refine sb_iconst cIm1 ?_
        cases h
        subst hr
        refine sb_ireturn ?_
        exact ⟨.int, rfl, rfl⟩
  clear h
  have h := hj30
  clear hj30
  rcases ife h with ⟨cz13, h⟩ | ⟨cz13, h⟩
  · refine sb_if_eq_t 29 cz13 (by decide) ?_
    refine sb_in [(29, .iconst 0, 1)] 30 (by decide +kernel) ?_
    refine sb_iconst cI0 ?_
    refine sb_end ?_
    cases h
    exact rn_sub [0, 1, 2, 3] rfl hJ30
  · refine sb_if_eq_f 29 cz13 (by decide) ?_
    refine sb_in [(8, .iload_n 2, 1), (9, .invokestatic 118, 3), (12, .ifCond .eq 17, 3)] 15 (by decide +kernel) ?_
    refine sb_iload_n rfl ?_
    obtain ⟨qz4, hez3, h⟩ := bd h
    refine sb_callSi 1 rfl oX11_isKind ln11_118 vX11_isKind (rnCk_of (by decide +kernel) rfl) (tfK_isKind hez3) ?_
    rcases ife h with ⟨cz14, h⟩ | ⟨cz14, h⟩
    · refine sb_if_eq_t 29 cz14 (by decide) ?_
      refine sb_in [(29, .iconst 0, 1)] 30 (by decide +kernel) ?_
      refine sb_iconst cI0 ?_
      refine sb_end ?_
      cases h
      exact rn_sub [0, 1, 2, 3] rfl hJ30
    · refine sb_if_eq_f 29 cz14 (by decide) ?_
      refine sb_in [(15, .iload_n 3, 1), (16, .iconst 1, 1), (17, .bipush 99, 2), (19, .invokestatic 91, 3), (22, .ifCond .eq 7, 3)] 25 (by decide +kernel) ?_
      refine sb_iload_n rfl ?_
      refine sb_iconst cI1 ?_
      refine sb_bipush cB99 ?_
      refine sb_callSi 3 rfl oX11_isWithin ln11_91 vX11_isWithin (rnCk_of (by decide +kernel) rfl) (tfK_isWithin) ?_
      rcases ife h with ⟨cz15, h⟩ | ⟨cz15, h⟩
      · refine sb_if_eq_t 29 cz15 (by decide) ?_
        refine sb_in [(29, .iconst 0, 1)] 30 (by decide +kernel) ?_
        refine sb_iconst cI0 ?_
        refine sb_end ?_
        cases h
        exact rn_sub [0, 1, 2, 3] rfl hJ30
      · refine sb_if_eq_f 29 cz15 (by decide) ?_
        refine sb_in [(25, .iconst 1, 1), (26, .goto 4, 3)] 29 (by decide +kernel) ?_
        refine sb_iconst cI1 ?_
        refine sb_goto 30 (by decide) ?_
        cases h
        exact rn_sub [0, 1, 2, 3] rfl hJ30
theorem tfK_post {P : Px} {x1 : Int32} {x2 : Int32} {x3 : Int32} {M : Mm} {rr : (Int32 × Mm)} (h : fK_post x1 x2 x3 M = some rr) : EX P 4 kX11_post [.ref 0, .int x1, .int x2, .int x3] (S M) (some (.int rr.1), S rr.2) := ex_of oX11_post (Nat.le_of_ble_eq_true rfl) (nfK_post  h rfl)
set_option maxRecDepth 20000 in
theorem nfB_placeOf {P : Px} {w : Nat} (hw : Bg w) {x1 : Int32} {M : Mm} {rr : Int32} (h : fB_placeOf w x1 M = some rr) {r : Option Value × Sg} (hr : r = (some (.int rr), S M)) : RN P 1 kX0_placeOf 0 [(0, .ref w), (1, .int x1)] [] (S M) r := by
  unfold fB_placeOf at h
  refine sb_in [(0, .iconst 0, 1), (1, .istore_n 2, 1)] 2 (by decide +kernel) ?_
  refine sb_iconst cI0 ?_
  refine sb_istore_n (by decide) rfl ?_
  refine sb_end ?_
  obtain ⟨e2, hl2, h⟩ := bd h
  refine rn_sub [0, 1, 2] rfl ?_
  refine lp_ind (P := fun s => RN P 1 kX0_placeOf 2 [(0, .ref w), (1, .int x1), (2, .int s)] [] (S M) r) (E := fun e => match e with | Sum.inl p => RN P 1 kX0_placeOf 20 [(2, .int p)] [] (S M) r | Sum.inr p => RN P 1 kX0_placeOf 28 [] [] (S M) r) ?_ _ _ _ hl2 ?_
  · intro x2 qx h hc
    replace h : fB_placeOf_b2 w x1 M x2 = some qx := h
    show RN P 1 kX0_placeOf 2 [(0, .ref w), (1, .int x1), (2, .int x2)] [] (S M) r
    unfold fB_placeOf_b2 at h
    refine sb_in [(2, .iload_n 2, 1), (3, .aload_n 0, 1), (4, .getfield 27, 3), (7, .if_icmp .ge 21, 3)] 10 (by decide +kernel) ?_
    refine sb_iload_n rfl ?_
    refine sb_aload_n rfl ?_
    refine ss_getI g0_27 (hBg0 hw) ?_
    rcases ife h with ⟨cz3, h⟩ | ⟨cz3, h⟩
    · refine sb_icmp_ge_t 28 cz3 (by decide) ?_
      cases h
      exact rn_sub [] rfl hc
    · refine sb_icmp_ge_f 28 cz3 (by decide) ?_
      refine sb_in [(10, .aload_n 0, 1), (11, .getfield 9, 3), (14, .iload_n 2, 1), (15, .iaload, 1), (16, .iload_n 1, 1), (17, .if_icmp .ne 5, 3)] 20 (by decide +kernel) ?_
      refine sb_aload_n rfl ?_
      refine ss_getR g0_9 (hBg0 hw) (rBg2 hw) ?_
      refine sb_iload_n rfl ?_
      obtain ⟨hgz1, h⟩ := gd h
      refine ss_iald (hBg1 hw) hgz1 ?_
      refine sb_iload_n rfl ?_
      rcases ife h with ⟨cz4, h⟩ | ⟨cz4, h⟩
      · refine sb_icmp_ne_f 22 cz4 (by decide) ?_
        cases h
        exact rn_sub [2] rfl hc
      · refine sb_icmp_ne_t 22 cz4 (by decide) ?_
        refine sb_in [(22, .iinc 2 1, 3), (25, .goto (-23), 3)] 28 (by decide +kernel) ?_
        refine ss_iinc cI1 rfl (by decide) rfl ?_
        refine sb_goto 2 (by decide) ?_
        cases h
        exact rn_sub [0, 1, 2] rfl hc
  · clear hl2
    rcases e2 with e2 | e2
    · skip
      obtain ⟨yz2, hey⟩ : ∃ z, z = e2 := ⟨_, rfl⟩
      subst hey
      show RN P 1 kX0_placeOf 20 [(2, .int yz2)] [] (S M) r
      refine sb_in [(20, .iload_n 2, 1), (21, .ireturn, 1)] 22 (by decide +kernel) ?_
      refine sb_iload_n rfl ?_
      cases h
      subst hr
      refine sb_ireturn ?_
      exact ⟨.int, rfl, rfl⟩
    · skip
      show RN P 1 kX0_placeOf 28 [] [] (S M) r
      refine sb_in [(28, .iconst (-1), 1), (29, .ireturn, 1)] 30 (by decide +kernel) ?_
      refine sb_iconst cIm1 ?_
      cases h
      subst hr
      refine sb_ireturn ?_
      exact ⟨.int, rfl, rfl⟩
theorem tfB_placeOf {P : Px} {w : Nat} (hw : Bg w) {x1 : Int32} {M : Mm} {rr : Int32} (h : fB_placeOf w x1 M = some rr) : EX P 1 kX0_placeOf [.ref w, .int x1] (S M) (some (.int rr), S M) := ex_of oX0_placeOf (Nat.le_of_ble_eq_true rfl) (nfB_placeOf hw h rfl)
set_option maxRecDepth 20000 in
theorem nfL_plainly {P : Px} {x1 : Int32} {M : Mm} {rr : Int32} (h : fL_plainly x1 M = rr) {r : Option Value × Sg} (hr : r = (some (.int rr), S M)) : RN P 1 kX2_plainly 0 [(0, .ref 124), (1, .int x1)] [] (S M) r := by
  unfold fL_plainly at h
  refine sb_in [(0, .iload_n 1, 1), (1, .lookupswitch 59 #[(0, 27), (1, 52)], 27)] 28 (by decide +kernel) ?_
  refine sb_iload_n rfl ?_
  rcases ife h with ⟨cz1, h⟩ | ⟨cz1, h⟩
  · refine sb_lsw (off := 27) 28 (by decide +kernel) (by rw [cz1]; decide +kernel) (by decide) ?_
    refine sb_in [(28, .sipush 900, 3), (31, .bipush 100, 2), (33, .aload_n 0, 1), (34, .getfield 27, 3), (37, .bipush 9, 2), (39, .iaload, 1), (40, .imul, 1), (41, .isub, 1), (42, .bipush 20, 2), (44, .aload_n 0, 1), (45, .getfield 27, 3), (48, .iconst 3, 1), (49, .iaload, 1), (50, .imul, 1), (51, .iadd, 1), (52, .ireturn, 1)] 53 (by decide +kernel) ?_
    refine sb_sipush cS900 ?_
    refine sb_bipush cB100 ?_
    refine sb_aload_n rfl ?_
    refine ss_getR g2_27 h124 r124_7 ?_
    refine sb_bipush cB9 ?_
    refine ss_ialdL 9 h130 iL9 rfl ?_
    refine sb_imul ?_
    refine sb_isub ?_
    refine sb_bipush cB20 ?_
    refine sb_aload_n rfl ?_
    refine ss_getR g2_27 h124 r124_7 ?_
    refine sb_iconst cI3 ?_
    refine ss_ialdL 3 h130 iL3 rfl ?_
    refine sb_imul ?_
    refine sb_iadd ?_
    subst h
    subst hr
    refine sb_ireturn ?_
    exact ⟨.int, rfl, rfl⟩
  rcases ife h with ⟨cz2, h⟩ | ⟨cz2, h⟩
  · refine sb_lsw (off := 52) 53 (by decide +kernel) (by rw [cz2]; decide +kernel) (by decide) ?_
    refine sb_in [(53, .aload_n 0, 1), (54, .getfield 27, 3), (57, .iconst 1, 1), (58, .iaload, 1), (59, .ireturn, 1)] 60 (by decide +kernel) ?_
    refine sb_aload_n rfl ?_
    refine ss_getR g2_27 h124 r124_7 ?_
    refine sb_iconst cI1 ?_
    refine ss_ialdL 1 h130 iL1 rfl ?_
    subst h
    subst hr
    refine sb_ireturn ?_
    exact ⟨.int, rfl, rfl⟩
  refine sb_lsw (off := 59) 60 (by decide +kernel) (rn_lsw2 cz1 cz2) (by decide) ?_
  refine sb_in [(60, .iconst 1, 1), (61, .ireturn, 1)] 62 (by decide +kernel) ?_
  refine sb_iconst cI1 ?_
  subst h
  subst hr
  refine sb_ireturn ?_
  exact ⟨.int, rfl, rfl⟩
theorem tfL_plainly {P : Px} {x1 : Int32} {M : Mm} : EX P 1 kX2_plainly [.ref 124, .int x1] (S M) (some (.int (fL_plainly x1 M)), S M) := ex_of oX2_plainly (Nat.le_of_ble_eq_true rfl) (nfL_plainly  rfl rfl)
set_option maxRecDepth 20000 in
theorem nfL_joined {P : Px} {x0 : Int32} {x1 : Int32} {x2 : Int32} {M : Mm} {rr : Int32} (h : fL_joined x0 x1 x2 = some rr) {r : Option Value × Sg} (hr : r = (some (.int rr), S M)) : RN P 1 kX2_joined 0 [(0, .int x0), (1, .int x1), (2, .int x2)] [] (S M) r := by
  unfold fL_joined at h
  refine sb_in [(0, .iload_n 0, 1), (1, .tableswitch 105 20001 20009 #[51, 55, 105, 59, 63, 67, 71, 83, 94], 51)] 52 (by decide +kernel) ?_
  refine sb_iload_n rfl ?_
  rcases ife h with ⟨cz2, h⟩ | ⟨cz2, h⟩
  · refine sb_tsw_in (off := 51) 20001 52 cz2 (by decide +kernel) ?_
    refine sb_in [(52, .iload_n 1, 1), (53, .iload_n 2, 1), (54, .ior, 1), (55, .ireturn, 1)] 56 (by decide +kernel) ?_
    refine sb_iload_n rfl ?_
    refine sb_iload_n rfl ?_
    refine sb_ior ?_
    cases h
    subst hr
    refine sb_ireturn ?_
    exact ⟨.int, rfl, rfl⟩
  rcases ife h with ⟨cz3, h⟩ | ⟨cz3, h⟩
  · refine sb_tsw_in (off := 55) 20002 56 cz3 (by decide +kernel) ?_
    refine sb_in [(56, .iload_n 1, 1), (57, .iload_n 2, 1), (58, .iand, 1), (59, .ireturn, 1)] 60 (by decide +kernel) ?_
    refine sb_iload_n rfl ?_
    refine sb_iload_n rfl ?_
    refine sb_iand ?_
    cases h
    subst hr
    refine sb_ireturn ?_
    exact ⟨.int, rfl, rfl⟩
  rcases ife h with ⟨cz4, h⟩ | ⟨cz4, h⟩
  · refine sb_tsw_in (off := 105) 20003 106 cz4 (by decide +kernel) ?_
    refine sb_in [(106, .iload_n 1, 1), (107, .iload_n 2, 1), (108, .if_icmp .le 7, 3)] 111 (by decide +kernel) ?_
    refine sb_iload_n rfl ?_
    refine sb_iload_n rfl ?_
    rcases ife h with ⟨cz5, h⟩ | ⟨cz5, h⟩
    · refine sb_icmp_le_t 115 cz5 (by decide) ?_
      refine sb_in [(115, .iconst 0, 1)] 116 (by decide +kernel) ?_
      refine sb_iconst cI0 ?_
      refine sb_end ?_
      refine sb_in [(116, .ireturn, 1)] 117 (by decide +kernel) ?_
      cases h
      subst hr
      refine sb_ireturn ?_
      exact ⟨.int, rfl, rfl⟩
    · refine sb_icmp_le_f 115 cz5 (by decide) ?_
      refine sb_in [(111, .iconst 1, 1), (112, .goto 4, 3)] 115 (by decide +kernel) ?_
      refine sb_iconst cI1 ?_
      refine sb_goto 116 (by decide) ?_
      refine sb_in [(116, .ireturn, 1)] 117 (by decide +kernel) ?_
      cases h
      subst hr
      refine sb_ireturn ?_
      exact ⟨.int, rfl, rfl⟩
  rcases ife h with ⟨cz6, h⟩ | ⟨cz6, h⟩
  · refine sb_tsw_in (off := 59) 20004 60 cz6 (by decide +kernel) ?_
    refine sb_in [(60, .iload_n 1, 1), (61, .iload_n 2, 1), (62, .iadd, 1), (63, .ireturn, 1)] 64 (by decide +kernel) ?_
    refine sb_iload_n rfl ?_
    refine sb_iload_n rfl ?_
    refine sb_iadd ?_
    cases h
    subst hr
    refine sb_ireturn ?_
    exact ⟨.int, rfl, rfl⟩
  rcases ife h with ⟨cz7, h⟩ | ⟨cz7, h⟩
  · refine sb_tsw_in (off := 63) 20005 64 cz7 (by decide +kernel) ?_
    refine sb_in [(64, .iload_n 1, 1), (65, .iload_n 2, 1), (66, .isub, 1), (67, .ireturn, 1)] 68 (by decide +kernel) ?_
    refine sb_iload_n rfl ?_
    refine sb_iload_n rfl ?_
    refine sb_isub ?_
    cases h
    subst hr
    refine sb_ireturn ?_
    exact ⟨.int, rfl, rfl⟩
  rcases ife h with ⟨cz8, h⟩ | ⟨cz8, h⟩
  · refine sb_tsw_in (off := 67) 20006 68 cz8 (by decide +kernel) ?_
    refine sb_in [(68, .iload_n 1, 1), (69, .iload_n 2, 1), (70, .imul, 1), (71, .ireturn, 1)] 72 (by decide +kernel) ?_
    refine sb_iload_n rfl ?_
    refine sb_iload_n rfl ?_
    refine sb_imul ?_
    cases h
    subst hr
    refine sb_ireturn ?_
    exact ⟨.int, rfl, rfl⟩
  rcases ife h with ⟨cz9, h⟩ | ⟨cz9, h⟩
  · refine sb_tsw_in (off := 71) 20007 72 cz9 (by decide +kernel) ?_
    refine sb_in [(72, .iload_n 2, 1), (73, .ifCond .ne 7, 3)] 76 (by decide +kernel) ?_
    refine sb_iload_n rfl ?_
    rcases ife h with ⟨cz10, h⟩ | ⟨cz10, h⟩
    · refine sb_if_ne_f 80 cz10 (by decide) ?_
      refine sb_in [(76, .iconst 0, 1), (77, .goto 6, 3)] 80 (by decide +kernel) ?_
      refine sb_iconst cI0 ?_
      refine sb_goto 83 (by decide) ?_
      refine sb_in [(83, .ireturn, 1)] 84 (by decide +kernel) ?_
      cases h
      subst hr
      refine sb_ireturn ?_
      exact ⟨.int, rfl, rfl⟩
    · refine sb_if_ne_t 80 cz10 (by decide) ?_
      refine sb_in [(80, .iload_n 1, 1), (81, .iload_n 2, 1), (82, .idiv, 1)] 83 (by decide +kernel) ?_
      refine sb_iload_n rfl ?_
      refine sb_iload_n rfl ?_
      obtain ⟨hgz1, h⟩ := gd h
      refine sb_idiv hgz1 ?_
      refine sb_end ?_
      refine sb_in [(83, .ireturn, 1)] 84 (by decide +kernel) ?_
      cases h
      subst hr
      refine sb_ireturn ?_
      exact ⟨.int, rfl, rfl⟩
  rcases ife h with ⟨cz11, h⟩ | ⟨cz11, h⟩
  · refine sb_tsw_in (off := 83) 20008 84 cz11 (by decide +kernel) ?_
    refine sb_in [(84, .iload_n 1, 1), (85, .iload_n 2, 1), (86, .if_icmp .ge 7, 3)] 89 (by decide +kernel) ?_
    refine sb_iload_n rfl ?_
    refine sb_iload_n rfl ?_
    rcases ife h with ⟨cz12, h⟩ | ⟨cz12, h⟩
    · refine sb_icmp_ge_t 93 cz12 (by decide) ?_
      refine sb_in [(93, .iconst 0, 1)] 94 (by decide +kernel) ?_
      refine sb_iconst cI0 ?_
      refine sb_end ?_
      refine sb_in [(94, .ireturn, 1)] 95 (by decide +kernel) ?_
      cases h
      subst hr
      refine sb_ireturn ?_
      exact ⟨.int, rfl, rfl⟩
    · refine sb_icmp_ge_f 93 cz12 (by decide) ?_
      refine sb_in [(89, .iconst 1, 1), (90, .goto 4, 3)] 93 (by decide +kernel) ?_
      refine sb_iconst cI1 ?_
      refine sb_goto 94 (by decide) ?_
      refine sb_in [(94, .ireturn, 1)] 95 (by decide +kernel) ?_
      cases h
      subst hr
      refine sb_ireturn ?_
      exact ⟨.int, rfl, rfl⟩
  rcases ife h with ⟨cz13, h⟩ | ⟨cz13, h⟩
  · refine sb_tsw_in (off := 94) 20009 95 cz13 (by decide +kernel) ?_
    refine sb_in [(95, .iload_n 1, 1), (96, .iload_n 2, 1), (97, .if_icmp .ne 7, 3)] 100 (by decide +kernel) ?_
    refine sb_iload_n rfl ?_
    refine sb_iload_n rfl ?_
    rcases ife h with ⟨cz14, h⟩ | ⟨cz14, h⟩
    · refine sb_icmp_ne_f 104 cz14 (by decide) ?_
      refine sb_in [(100, .iconst 1, 1), (101, .goto 4, 3)] 104 (by decide +kernel) ?_
      refine sb_iconst cI1 ?_
      refine sb_goto 105 (by decide) ?_
      refine sb_in [(105, .ireturn, 1)] 106 (by decide +kernel) ?_
      cases h
      subst hr
      refine sb_ireturn ?_
      exact ⟨.int, rfl, rfl⟩
    · refine sb_icmp_ne_t 104 cz14 (by decide) ?_
      refine sb_in [(104, .iconst 0, 1)] 105 (by decide +kernel) ?_
      refine sb_iconst cI0 ?_
      refine sb_end ?_
      refine sb_in [(105, .ireturn, 1)] 106 (by decide +kernel) ?_
      cases h
      subst hr
      refine sb_ireturn ?_
      exact ⟨.int, rfl, rfl⟩
  refine sb_tsw_out 20001 9 106 ((lt_s (lt_s (lt_s (lt_s (lt_s (lt_s (lt_s (lt_s (lt_s lt_0 cz2) cz3) cz4) cz6) cz7) cz8) cz9) cz11) cz13)) (by decide +kernel) ?_
  refine sb_in [(106, .iload_n 1, 1), (107, .iload_n 2, 1), (108, .if_icmp .le 7, 3)] 111 (by decide +kernel) ?_
  refine sb_iload_n rfl ?_
  refine sb_iload_n rfl ?_
  rcases ife h with ⟨cz15, h⟩ | ⟨cz15, h⟩
  · refine sb_icmp_le_t 115 cz15 (by decide) ?_
    refine sb_in [(115, .iconst 0, 1)] 116 (by decide +kernel) ?_
    refine sb_iconst cI0 ?_
    refine sb_end ?_
    refine sb_in [(116, .ireturn, 1)] 117 (by decide +kernel) ?_
    cases h
    subst hr
    refine sb_ireturn ?_
    exact ⟨.int, rfl, rfl⟩
  · refine sb_icmp_le_f 115 cz15 (by decide) ?_
    refine sb_in [(111, .iconst 1, 1), (112, .goto 4, 3)] 115 (by decide +kernel) ?_
    refine sb_iconst cI1 ?_
    refine sb_goto 116 (by decide) ?_
    refine sb_in [(116, .ireturn, 1)] 117 (by decide +kernel) ?_
    cases h
    subst hr
    refine sb_ireturn ?_
    exact ⟨.int, rfl, rfl⟩
theorem tfL_joined {P : Px} {x0 : Int32} {x1 : Int32} {x2 : Int32} {M : Mm} {rr : Int32} (h : fL_joined x0 x1 x2 = some rr) : EX P 1 kX2_joined [.int x0, .int x1, .int x2] (S M) (some (.int rr), S M) := ex_of oX2_joined (Nat.le_of_ble_eq_true rfl) (nfL_joined  h rfl)
set_option maxRecDepth 20000 in
theorem nfL_worked {P : Px} {x1 : Int32} {x2 : Int32} {M : Mm} {rr : (Int32 × Mm)} (h : fL_worked x1 x2 M = some rr) {r : Option Value × Sg} (hr : r = (some (.int rr.1), S rr.2)) : RN P 2 kX2_worked 0 [(0, .ref 124), (1, .int x1), (2, .int x2)] [] (S M) r := by
  unfold fL_worked at h
  refine sb_in [(0, .iconst (-1), 1), (1, .istore_n 3, 1), (2, .iload_n 1, 1), (3, .istore 4, 2)] 5 (by decide +kernel) ?_
  refine sb_iconst cIm1 ?_
  refine sb_istore_n (by decide) rfl ?_
  refine sb_iload_n rfl ?_
  refine sb_istore (by decide) rfl ?_
  refine sb_end ?_
  obtain ⟨e5, hl5, h⟩ := bd h
  refine rn_sub [0, 2, 3, 4] rfl ?_
  refine lp_ind (P := fun s => RN P 2 kX2_worked 5 [(0, .ref 124), (2, .int x2), (3, .int s.1), (4, .int s.2.1)] [] (S s.2.2) r) (E := fun p => RN P 2 kX2_worked 148 [(0, .ref 124), (3, .int p.1)] [] (S p.2) r) ?_ _ _ _ hl5 ?_
  · intro s qx h hc
    obtain ⟨x3, x4, M⟩ := s
    replace h : fL_worked_b5 x2 x3 x4 M = some qx := h
    show RN P 2 kX2_worked 5 [(0, .ref 124), (2, .int x2), (3, .int x3), (4, .int x4)] [] (S M) r
    unfold fL_worked_b5 at h
    refine sb_in [(5, .iload 4, 2), (7, .iload_n 2, 1), (8, .if_icmp .ge 140, 3)] 11 (by decide +kernel) ?_
    refine sb_iload rfl ?_
    refine sb_iload_n rfl ?_
    rcases ife h with ⟨cz30, h⟩ | ⟨cz30, h⟩
    · refine sb_icmp_ge_t 148 cz30 (by decide) ?_
      cases h
      exact rn_sub [0, 3] rfl hc
    · refine sb_icmp_ge_f 148 cz30 (by decide) ?_
      refine sb_in [(11, .aload_n 0, 1), (12, .getfield 24, 3), (15, .iload 4, 2), (17, .iaload, 1), (18, .istore 5, 2), (20, .iload 5, 2), (22, .sipush 20000, 3), (25, .if_icmp .ge 47, 3)] 28 (by decide +kernel) ?_
      refine sb_aload_n rfl ?_
      refine ss_getR g2_24 h124 r124_6 ?_
      refine sb_iload rfl ?_
      obtain ⟨hgz1, h⟩ := gd h
      refine ss_iald h129 hgz1 ?_
      refine sb_istore (by decide) rfl ?_
      refine sb_iload rfl ?_
      refine sb_sipush cS20000 ?_
      obtain ⟨⟨yz25, Mz26⟩, hj142, h⟩ := bd h
      have hJ142 : RN P 2 kX2_worked 142 [(0, .ref 124), (2, .int x2), (3, .int yz25), (4, .int x4)] [] (S Mz26) r := by
        refine sb_in [(142, .iinc 4 1, 3), (145, .goto (-140), 3)] 148 (by decide +kernel) ?_
        refine ss_iinc cI1 rfl (by decide) rfl ?_
        refine sb_goto 5 (by decide) ?_
        cases h
        exact rn_sub [0, 2, 3, 4] rfl hc
      clear h
      have h := hj142
      clear hj142
      rcases ife h with ⟨cz31, h⟩ | ⟨cz31, h⟩
      · refine sb_icmp_ge_t 72 cz31 (by decide) ?_
        refine sb_in [(72, .iload 5, 2), (74, .sipush 20003, 3), (77, .if_icmp .ne 24, 3)] 80 (by decide +kernel) ?_
        refine sb_iload rfl ?_
        refine sb_sipush cS20003 ?_
        have hJ101 : ∀ (z5 : Int32) (M : Mm), fL_worked_j101 x2 x3 x4 z5 M = some (yz25, Mz26) → RN P 2 kX2_worked 101 [(0, .ref 124), (2, .int x2), (3, .int x3), (4, .int x4), (5, .int z5)] [] (S M) r := by
          intro z5 M h
          unfold fL_worked_j101 at h
          refine sb_in [(101, .iload 5, 2), (103, .sipush 20000, 3), (106, .if_icmp .lt 36, 3)] 109 (by decide +kernel) ?_
          refine sb_iload rfl ?_
          refine sb_sipush cS20000 ?_
          rcases ife h with ⟨cz32, h⟩ | ⟨cz32, h⟩
          · refine sb_icmp_lt_t 142 cz32 (by decide) ?_
            obtain ⟨h1, h2⟩ := opp h
            subst h1
            subst h2
            exact rn_sub [0, 2, 3, 4] rfl hJ142
          · refine sb_icmp_lt_f 142 cz32 (by decide) ?_
            refine sb_in [(109, .iload_n 3, 1), (110, .iconst 1, 1), (111, .if_icmp .lt 31, 3)] 114 (by decide +kernel) ?_
            refine sb_iload_n rfl ?_
            refine sb_iconst cI1 ?_
            rcases ife h with ⟨cz33, h⟩ | ⟨cz33, h⟩
            · refine sb_icmp_lt_t 142 cz33 (by decide) ?_
              obtain ⟨h1, h2⟩ := opp h
              subst h1
              subst h2
              exact rn_sub [0, 2, 3, 4] rfl hJ142
            · refine sb_icmp_lt_f 142 cz33 (by decide) ?_
              refine sb_in [(114, .iinc 3 (-1), 3), (117, .aload_n 0, 1), (118, .getfield 30, 3), (121, .iload_n 3, 1), (122, .iload 5, 2), (124, .aload_n 0, 1), (125, .getfield 30, 3), (128, .iload_n 3, 1), (129, .iaload, 1), (130, .aload_n 0, 1), (131, .getfield 30, 3), (134, .iload_n 3, 1), (135, .iconst 1, 1), (136, .iadd, 1), (137, .iaload, 1), (138, .invokestatic 58, 3), (141, .iastore, 1)] 142 (by decide +kernel) ?_
              refine ss_iinc cIm1 rfl (by decide) rfl ?_
              refine sb_aload_n rfl ?_
              refine ss_getR g2_30 h124 r124_8 ?_
              refine sb_iload_n rfl ?_
              refine sb_iload rfl ?_
              refine sb_aload_n rfl ?_
              refine ss_getR g2_30 h124 r124_8 ?_
              refine sb_iload_n rfl ?_
              obtain ⟨hgz6, h⟩ := gd h
              refine ss_iald h131 hgz6 ?_
              refine sb_aload_n rfl ?_
              refine ss_getR g2_30 h124 r124_8 ?_
              refine sb_iload_n rfl ?_
              refine sb_iconst cI1 ?_
              refine sb_iadd ?_
              obtain ⟨hgz7, h⟩ := gd h
              refine ss_iald h131 hgz7 ?_
              obtain ⟨qz9, hez8, h⟩ := bd h
              refine sb_callSi 3 rfl oX2_joined ln2_58 vX2_joined (rnCk_of (by decide +kernel) rfl) (tfL_joined hez8) ?_
              obtain ⟨hgz11, h⟩ := gd h
              refine ss_iast h131 (by decide) hgz11 ?_
              refine sb_end ?_
              obtain ⟨h1, h2⟩ := opp h
              subst h1
              subst h2
              exact rn_sub [0, 2, 3, 4] rfl hJ142
        rcases ife h with ⟨cz34, h⟩ | ⟨cz34, h⟩
        · refine sb_icmp_ne_f 101 cz34 (by decide) ?_
          refine sb_in [(80, .iload_n 3, 1), (81, .ifCond .lt 20, 3)] 84 (by decide +kernel) ?_
          refine sb_iload_n rfl ?_
          rcases ife h with ⟨cz35, h⟩ | ⟨cz35, h⟩
          · refine sb_if_lt_t 101 cz35 (by decide) ?_
            exact rn_sub [0, 2, 3, 4, 5] rfl (hJ101 _ _ h)
          · refine sb_if_lt_f 101 cz35 (by decide) ?_
            refine sb_in [(84, .aload_n 0, 1), (85, .getfield 30, 3), (88, .iload_n 3, 1), (89, .iconst 1, 1), (90, .aload_n 0, 1), (91, .getfield 30, 3), (94, .iload_n 3, 1), (95, .iaload, 1), (96, .isub, 1), (97, .iastore, 1), (98, .goto 44, 3)] 101 (by decide +kernel) ?_
            refine sb_aload_n rfl ?_
            refine ss_getR g2_30 h124 r124_8 ?_
            refine sb_iload_n rfl ?_
            refine sb_iconst cI1 ?_
            refine sb_aload_n rfl ?_
            refine ss_getR g2_30 h124 r124_8 ?_
            refine sb_iload_n rfl ?_
            obtain ⟨hgz3, h⟩ := gd h
            refine ss_iald h131 hgz3 ?_
            refine sb_isub ?_
            obtain ⟨hgz5, h⟩ := gd h
            refine ss_iast h131 (by decide) hgz5 ?_
            refine sb_goto 142 (by decide) ?_
            cases h
            exact rn_sub [0, 2, 3, 4] rfl hJ142
        · refine sb_icmp_ne_t 101 cz34 (by decide) ?_
          exact rn_sub [0, 2, 3, 4, 5] rfl (hJ101 _ _ h)
      · refine sb_icmp_ge_f 72 cz31 (by decide) ?_
        refine sb_in [(28, .iload_n 3, 1), (29, .iconst 1, 1), (30, .iadd, 1), (31, .bipush 32, 2), (33, .if_icmp .ge 39, 3)] 36 (by decide +kernel) ?_
        refine sb_iload_n rfl ?_
        refine sb_iconst cI1 ?_
        refine sb_iadd ?_
        refine sb_bipush cB32 ?_
        rcases ife h with ⟨cz36, h⟩ | ⟨cz36, h⟩
        · refine sb_icmp_ge_t 72 cz36 (by decide) ?_
          refine sb_in [(72, .iload 5, 2), (74, .sipush 20003, 3), (77, .if_icmp .ne 24, 3)] 80 (by decide +kernel) ?_
          refine sb_iload rfl ?_
          refine sb_sipush cS20003 ?_
          have hJ101 : ∀ (z5 : Int32) (M : Mm), fL_worked_j101 x2 x3 x4 z5 M = some (yz25, Mz26) → RN P 2 kX2_worked 101 [(0, .ref 124), (2, .int x2), (3, .int x3), (4, .int x4), (5, .int z5)] [] (S M) r := by
            intro z5 M h
            unfold fL_worked_j101 at h
            refine sb_in [(101, .iload 5, 2), (103, .sipush 20000, 3), (106, .if_icmp .lt 36, 3)] 109 (by decide +kernel) ?_
            refine sb_iload rfl ?_
            refine sb_sipush cS20000 ?_
            rcases ife h with ⟨cz37, h⟩ | ⟨cz37, h⟩
            · refine sb_icmp_lt_t 142 cz37 (by decide) ?_
              obtain ⟨h1, h2⟩ := opp h
              subst h1
              subst h2
              exact rn_sub [0, 2, 3, 4] rfl hJ142
            · refine sb_icmp_lt_f 142 cz37 (by decide) ?_
              refine sb_in [(109, .iload_n 3, 1), (110, .iconst 1, 1), (111, .if_icmp .lt 31, 3)] 114 (by decide +kernel) ?_
              refine sb_iload_n rfl ?_
              refine sb_iconst cI1 ?_
              rcases ife h with ⟨cz38, h⟩ | ⟨cz38, h⟩
              · refine sb_icmp_lt_t 142 cz38 (by decide) ?_
                obtain ⟨h1, h2⟩ := opp h
                subst h1
                subst h2
                exact rn_sub [0, 2, 3, 4] rfl hJ142
              · refine sb_icmp_lt_f 142 cz38 (by decide) ?_
                refine sb_in [(114, .iinc 3 (-1), 3), (117, .aload_n 0, 1), (118, .getfield 30, 3), (121, .iload_n 3, 1), (122, .iload 5, 2), (124, .aload_n 0, 1), (125, .getfield 30, 3), (128, .iload_n 3, 1), (129, .iaload, 1), (130, .aload_n 0, 1), (131, .getfield 30, 3), (134, .iload_n 3, 1), (135, .iconst 1, 1), (136, .iadd, 1), (137, .iaload, 1), (138, .invokestatic 58, 3), (141, .iastore, 1)] 142 (by decide +kernel) ?_
                refine ss_iinc cIm1 rfl (by decide) rfl ?_
                refine sb_aload_n rfl ?_
                refine ss_getR g2_30 h124 r124_8 ?_
                refine sb_iload_n rfl ?_
                refine sb_iload rfl ?_
                refine sb_aload_n rfl ?_
                refine ss_getR g2_30 h124 r124_8 ?_
                refine sb_iload_n rfl ?_
                obtain ⟨hgz15, h⟩ := gd h
                refine ss_iald h131 hgz15 ?_
                refine sb_aload_n rfl ?_
                refine ss_getR g2_30 h124 r124_8 ?_
                refine sb_iload_n rfl ?_
                refine sb_iconst cI1 ?_
                refine sb_iadd ?_
                obtain ⟨hgz16, h⟩ := gd h
                refine ss_iald h131 hgz16 ?_
                obtain ⟨qz18, hez17, h⟩ := bd h
                refine sb_callSi 3 rfl oX2_joined ln2_58 vX2_joined (rnCk_of (by decide +kernel) rfl) (tfL_joined hez17) ?_
                obtain ⟨hgz20, h⟩ := gd h
                refine ss_iast h131 (by decide) hgz20 ?_
                refine sb_end ?_
                obtain ⟨h1, h2⟩ := opp h
                subst h1
                subst h2
                exact rn_sub [0, 2, 3, 4] rfl hJ142
          rcases ife h with ⟨cz39, h⟩ | ⟨cz39, h⟩
          · refine sb_icmp_ne_f 101 cz39 (by decide) ?_
            refine sb_in [(80, .iload_n 3, 1), (81, .ifCond .lt 20, 3)] 84 (by decide +kernel) ?_
            refine sb_iload_n rfl ?_
            rcases ife h with ⟨cz40, h⟩ | ⟨cz40, h⟩
            · refine sb_if_lt_t 101 cz40 (by decide) ?_
              exact rn_sub [0, 2, 3, 4, 5] rfl (hJ101 _ _ h)
            · refine sb_if_lt_f 101 cz40 (by decide) ?_
              refine sb_in [(84, .aload_n 0, 1), (85, .getfield 30, 3), (88, .iload_n 3, 1), (89, .iconst 1, 1), (90, .aload_n 0, 1), (91, .getfield 30, 3), (94, .iload_n 3, 1), (95, .iaload, 1), (96, .isub, 1), (97, .iastore, 1), (98, .goto 44, 3)] 101 (by decide +kernel) ?_
              refine sb_aload_n rfl ?_
              refine ss_getR g2_30 h124 r124_8 ?_
              refine sb_iload_n rfl ?_
              refine sb_iconst cI1 ?_
              refine sb_aload_n rfl ?_
              refine ss_getR g2_30 h124 r124_8 ?_
              refine sb_iload_n rfl ?_
              obtain ⟨hgz12, h⟩ := gd h
              refine ss_iald h131 hgz12 ?_
              refine sb_isub ?_
              obtain ⟨hgz14, h⟩ := gd h
              refine ss_iast h131 (by decide) hgz14 ?_
              refine sb_goto 142 (by decide) ?_
              cases h
              exact rn_sub [0, 2, 3, 4] rfl hJ142
          · refine sb_icmp_ne_t 101 cz39 (by decide) ?_
            exact rn_sub [0, 2, 3, 4, 5] rfl (hJ101 _ _ h)
        · refine sb_icmp_ge_f 72 cz36 (by decide) ?_
          refine sb_in [(36, .iinc 3 1, 3), (39, .aload_n 0, 1), (40, .getfield 30, 3), (43, .iload_n 3, 1), (44, .iload 5, 2), (46, .sipush 10000, 3), (49, .if_icmp .ge 8, 3)] 52 (by decide +kernel) ?_
          refine ss_iinc cI1 rfl (by decide) rfl ?_
          refine sb_aload_n rfl ?_
          refine ss_getR g2_30 h124 r124_8 ?_
          refine sb_iload_n rfl ?_
          refine sb_iload rfl ?_
          refine sb_sipush cS10000 ?_
          obtain ⟨yz22, hj68, h⟩ := bd h
          have hJ68 : RN P 2 kX2_worked 68 [(0, .ref 124), (2, .int x2), (3, .int (x3 + 1)), (4, .int x4)] [.int yz22, .int (x3 + 1), .ref 131] (S M) r := by
            refine sb_in [(68, .iastore, 1), (69, .goto 73, 3)] 72 (by decide +kernel) ?_
            obtain ⟨hgz24, h⟩ := gd h
            refine ss_iast h131 (by decide) hgz24 ?_
            refine sb_goto 142 (by decide) ?_
            cases h
            exact rn_sub [0, 2, 3, 4] rfl hJ142
          clear h
          have h := hj68
          clear hj68
          rcases ife h with ⟨cz41, h⟩ | ⟨cz41, h⟩
          · refine sb_icmp_ge_t 57 cz41 (by decide) ?_
            refine sb_in [(57, .aload_n 0, 1), (58, .getfield 27, 3), (61, .iload 5, 2), (63, .sipush 10000, 3), (66, .isub, 1), (67, .iaload, 1)] 68 (by decide +kernel) ?_
            refine sb_aload_n rfl ?_
            refine ss_getR g2_27 h124 r124_7 ?_
            refine sb_iload rfl ?_
            refine sb_sipush cS10000 ?_
            refine sb_isub ?_
            obtain ⟨hgz21, h⟩ := gd h
            refine ss_iald h130 hgz21 ?_
            refine sb_end ?_
            cases h
            exact rn_sub [0, 2, 3, 4] rfl hJ68
          · refine sb_icmp_ge_f 57 cz41 (by decide) ?_
            refine sb_in [(52, .iload 5, 2), (54, .goto 14, 3)] 57 (by decide +kernel) ?_
            refine sb_iload rfl ?_
            refine sb_goto 68 (by decide) ?_
            cases h
            exact rn_sub [0, 2, 3, 4] rfl hJ68
  · clear hl5
    obtain ⟨yz27, Mz28⟩ := e5
    show RN P 2 kX2_worked 148 [(0, .ref 124), (3, .int yz27)] [] (S Mz28) r
    refine sb_in [(148, .iload_n 3, 1), (149, .ifCond .lt 12, 3)] 152 (by decide +kernel) ?_
    refine sb_iload_n rfl ?_
    rcases ife h with ⟨cz42, h⟩ | ⟨cz42, h⟩
    · refine sb_if_lt_t 161 cz42 (by decide) ?_
      refine sb_in [(161, .iconst 0, 1)] 162 (by decide +kernel) ?_
      refine sb_iconst cI0 ?_
      refine sb_end ?_
      refine sb_in [(162, .ireturn, 1)] 163 (by decide +kernel) ?_
      cases h
      subst hr
      refine sb_ireturn ?_
      exact ⟨.int, rfl, rfl⟩
    · refine sb_if_lt_f 161 cz42 (by decide) ?_
      refine sb_in [(152, .aload_n 0, 1), (153, .getfield 30, 3), (156, .iload_n 3, 1), (157, .iaload, 1), (158, .goto 4, 3)] 161 (by decide +kernel) ?_
      refine sb_aload_n rfl ?_
      refine ss_getR g2_30 h124 r124_8 ?_
      refine sb_iload_n rfl ?_
      obtain ⟨hgz29, h⟩ := gd h
      refine ss_iald h131 hgz29 ?_
      refine sb_goto 162 (by decide) ?_
      refine sb_in [(162, .ireturn, 1)] 163 (by decide +kernel) ?_
      cases h
      subst hr
      refine sb_ireturn ?_
      exact ⟨.int, rfl, rfl⟩
theorem tfL_worked {P : Px} {x1 : Int32} {x2 : Int32} {M : Mm} {rr : (Int32 × Mm)} (h : fL_worked x1 x2 M = some rr) : EX P 2 kX2_worked [.ref 124, .int x1, .int x2] (S M) (some (.int rr.1), S rr.2) := ex_of oX2_worked (Nat.le_of_ble_eq_true rfl) (nfL_worked  h rfl)
set_option maxRecDepth 20000 in
theorem nfK_held {P : Px} {x0 : Int32} {x1 : Int32} {x2 : Int32} {M : Mm} {rr : Int32} (h : fK_held x0 x1 x2 = rr) {r : Option Value × Sg} (hr : r = (some (.int rr), S M)) : RN P 1 kX11_held 0 [(0, .int x0), (1, .int x1), (2, .int x2)] [] (S M) r := by
  unfold fK_held at h
  refine sb_in [(0, .iload_n 1, 1), (1, .iload_n 2, 1), (2, .iload_n 0, 1), (3, .invokestatic 352, 3), (6, .invokestatic 357, 3), (9, .ireturn, 1)] 10 (by decide +kernel) ?_
  refine sb_iload_n rfl ?_
  refine sb_iload_n rfl ?_
  refine sb_iload_n rfl ?_
  refine sb_min lm11_352 minS maI minC (by decide) rfl ?_
  refine sb_max lm11_357 maxS maI maxC (by decide) rfl ?_
  subst h
  subst hr
  refine sb_ireturn ?_
  exact ⟨.int, rfl, rfl⟩
theorem tfK_held {P : Px} {x0 : Int32} {x1 : Int32} {x2 : Int32} {M : Mm} : EX P 1 kX11_held [.int x0, .int x1, .int x2] (S M) (some (.int (fK_held x0 x1 x2)), S M) := ex_of oX11_held (Nat.le_of_ble_eq_true rfl) (nfK_held  rfl rfl)
set_option maxRecDepth 20000 in
theorem nfL_tells {P : Px} {x1 : Int32} {M : Mm} {rr : (Int32 × Mm)} (h : fL_tells x1 M = some rr) {r : Option Value × Sg} (hr : r = (some (.int rr.1), S rr.2)) : RN P 3 kX2_tells 0 [(0, .ref 124), (1, .int x1)] [] (S M) r := by
  unfold fL_tells at h
  refine sb_in [(0, .aload_n 0, 1), (1, .iload_n 1, 1), (2, .invokevirtual 33, 3), (5, .istore_n 2, 1), (6, .iconst 0, 1), (7, .istore_n 3, 1)] 8 (by decide +kernel) ?_
  refine sb_aload_n rfl ?_
  refine sb_iload_n rfl ?_
  refine sb_callVi 1 rfl oX2_plainly ln2_33 vX2_plainly (rc_own h124.1 (S_lt h124.2) (by decide)) (rnCk_of (by decide +kernel) rfl) (tfL_plainly) ?_
  refine sb_istore_n (by decide) rfl ?_
  refine sb_iconst cI0 ?_
  refine sb_istore_n (by decide) rfl ?_
  refine sb_end ?_
  obtain ⟨e8, hl8, h⟩ := bd h
  refine rn_sub [0, 1, 2, 3] rfl ?_
  refine lp_ind (P := fun s => RN P 3 kX2_tells 8 [(0, .ref 124), (1, .int x1), (2, .int (fL_plainly x1 M)), (3, .int s.1)] [] (S s.2) r) (E := fun e => match e with | Sum.inl p => RN P 3 kX2_tells 72 [(0, .ref 124), (1, .int x1), (3, .int p.1)] [] (S p.2) r | Sum.inr p => RN P 3 kX2_tells 98 [(1, .int x1), (2, .int (fL_plainly x1 M))] [] (S p) r) ?_ _ _ _ hl8 ?_
  · intro s qx h hc
    replace h : fL_tells_b8 x1 (fL_plainly x1 M) s.1 s.2 = some qx := h
    show RN P 3 kX2_tells 8 [(0, .ref 124), (1, .int x1), (2, .int (fL_plainly x1 M)), (3, .int s.1)] [] (S s.2) r
    generalize (fL_plainly x1 M) = x2 at h hc ⊢
    obtain ⟨x3, M⟩ := s
    replace h : fL_tells_b8 x1 x2 x3 M = some qx := h
    show RN P 3 kX2_tells 8 [(0, .ref 124), (1, .int x1), (2, .int x2), (3, .int x3)] [] (S M) r
    unfold fL_tells_b8 at h
    refine sb_in [(8, .iload_n 3, 1), (9, .aload_n 0, 1), (10, .getfield 37, 3), (13, .if_icmp .ge 85, 3)] 16 (by decide +kernel) ?_
    refine sb_iload_n rfl ?_
    refine sb_aload_n rfl ?_
    refine ss_getI g2_37 h124 ?_
    rcases ife h with ⟨cz23, h⟩ | ⟨cz23, h⟩
    · refine sb_icmp_ge_t 98 cz23 (by decide) ?_
      cases h
      exact rn_sub [1, 2] rfl hc
    · refine sb_icmp_ge_f 98 cz23 (by decide) ?_
      refine sb_in [(16, .aload_n 0, 1), (17, .getfield 18, 3), (20, .iload_n 3, 1), (21, .iaload, 1), (22, .aload_n 0, 1), (23, .getfield 21, 3), (26, .iload_n 3, 1), (27, .iaload, 1), (28, .if_icmp .ne 7, 3)] 31 (by decide +kernel) ?_
      refine sb_aload_n rfl ?_
      refine ss_getR g2_18 h124 r124_4 ?_
      refine sb_iload_n rfl ?_
      obtain ⟨hgz2, h⟩ := gd h
      refine ss_iald h127 hgz2 ?_
      refine sb_aload_n rfl ?_
      refine ss_getR g2_21 h124 r124_5 ?_
      refine sb_iload_n rfl ?_
      obtain ⟨hgz3, h⟩ := gd h
      refine ss_iald h128 hgz3 ?_
      have hJ36 : RN P 3 kX2_tells 36 [(0, .ref 124), (1, .int x1), (2, .int x2), (3, .int x3)] [.int (if (M 127 (jix x3)) = (M 128 (jix x3)) then (1 : Int32) else 0)] (S M) r := by
        refine sb_in [(36, .istore 4, 2), (38, .aload_n 0, 1), (39, .getfield 11, 3), (42, .iload_n 3, 1), (43, .iaload, 1), (44, .iload_n 1, 1), (45, .if_icmp .ne 47, 3)] 48 (by decide +kernel) ?_
        refine sb_istore (by decide) rfl ?_
        refine sb_aload_n rfl ?_
        refine ss_getR g2_11 h124 r124_2 ?_
        refine sb_iload_n rfl ?_
        obtain ⟨hgz5, h⟩ := gd h
        refine ss_iald h125 hgz5 ?_
        refine sb_iload_n rfl ?_
        have hJ92 : ∀ (z3 : Int32) (M : Mm), fL_tells_j92 x1 x2 z3 M = some qx → RN P 3 kX2_tells 92 [(0, .ref 124), (1, .int x1), (2, .int x2), (3, .int z3)] [] (S M) r := by
          intro z3 M h
          unfold fL_tells_j92 at h
          refine sb_in [(92, .iinc 3 1, 3), (95, .goto (-87), 3)] 98 (by decide +kernel) ?_
          refine ss_iinc cI1 rfl (by decide) rfl ?_
          refine sb_goto 8 (by decide) ?_
          cases h
          exact rn_sub [0, 1, 2, 3] rfl hc
        rcases ife h with ⟨cz24, h⟩ | ⟨cz24, h⟩
        · refine sb_icmp_ne_f 92 cz24 (by decide) ?_
          refine sb_in [(48, .iload 4, 2), (50, .ifCond .ne 22, 3)] 53 (by decide +kernel) ?_
          refine sb_iload rfl ?_
          rcases ife h with ⟨cz25, h⟩ | ⟨cz25, h⟩
          · refine sb_if_ne_f 72 cz25 (by decide) ?_
            refine sb_in [(53, .aload_n 0, 1), (54, .aload_n 0, 1), (55, .getfield 18, 3), (58, .iload_n 3, 1), (59, .iaload, 1), (60, .aload_n 0, 1), (61, .getfield 21, 3), (64, .iload_n 3, 1), (65, .iaload, 1), (66, .invokevirtual 41, 3), (69, .ifCond .eq 23, 3)] 72 (by decide +kernel) ?_
            refine sb_aload_n rfl ?_
            refine sb_aload_n rfl ?_
            refine ss_getR g2_18 h124 r124_4 ?_
            refine sb_iload_n rfl ?_
            obtain ⟨hgz6, h⟩ := gd h
            refine ss_iald h127 hgz6 ?_
            refine sb_aload_n rfl ?_
            refine ss_getR g2_21 h124 r124_5 ?_
            refine sb_iload_n rfl ?_
            obtain ⟨hgz7, h⟩ := gd h
            refine ss_iald h128 hgz7 ?_
            obtain ⟨qz9, hez8, h⟩ := bd h
            refine sb_callVi 2 rfl oX2_worked ln2_41 vX2_worked (rc_own h124.1 (S_lt h124.2) (by decide)) (rnCk_of (by decide +kernel) rfl) (tfL_worked hez8) ?_
            rcases ife h with ⟨cz26, h⟩ | ⟨cz26, h⟩
            · refine sb_if_eq_t 92 cz26 (by decide) ?_
              exact rn_sub [0, 1, 2, 3] rfl (hJ92 _ _ h)
            · refine sb_if_eq_f 92 cz26 (by decide) ?_
              cases h
              exact rn_sub [0, 1, 3] rfl hc
          · refine sb_if_ne_t 72 cz25 (by decide) ?_
            cases h
            exact rn_sub [0, 1, 3] rfl hc
        · refine sb_icmp_ne_t 92 cz24 (by decide) ?_
          exact rn_sub [0, 1, 2, 3] rfl (hJ92 _ _ h)
      rcases Decidable.em ((M 127 (jix x3)) = (M 128 (jix x3))) with cz27 | cz27
      · refine sb_icmp_ne_f 35 cz27 (by decide) ?_
        refine sb_in [(31, .iconst 1, 1), (32, .goto 4, 3)] 35 (by decide +kernel) ?_
        refine sb_iconst cI1 ?_
        refine sb_goto 36 (by decide) ?_
        have hq := hJ36
        simp only [if_pos cz27] at hq
        exact rn_sub [0, 1, 2, 3] rfl hq
      · refine sb_icmp_ne_t 35 cz27 (by decide) ?_
        refine sb_in [(35, .iconst 0, 1)] 36 (by decide +kernel) ?_
        refine sb_iconst cI0 ?_
        refine sb_end ?_
        have hq := hJ36
        simp only [if_neg cz27] at hq
        exact rn_sub [0, 1, 2, 3] rfl hq
  · clear hl8
    rcases e8 with e8 | e8
    · skip
      obtain ⟨yz10, Mz11⟩ := e8
      show RN P 3 kX2_tells 72 [(0, .ref 124), (1, .int x1), (3, .int yz10)] [] (S Mz11) r
      refine sb_in [(72, .aload_n 0, 1), (73, .aload_n 0, 1), (74, .getfield 15, 3), (77, .iload_n 3, 1), (78, .iaload, 1), (79, .aload_n 0, 1), (80, .getfield 18, 3), (83, .iload_n 3, 1), (84, .iaload, 1), (85, .invokevirtual 41, 3), (88, .istore_n 2, 1), (89, .goto 9, 3)] 92 (by decide +kernel) ?_
      refine sb_aload_n rfl ?_
      refine sb_aload_n rfl ?_
      refine ss_getR g2_15 h124 r124_3 ?_
      refine sb_iload_n rfl ?_
      obtain ⟨hgz12, h⟩ := gd h
      refine ss_iald h126 hgz12 ?_
      refine sb_aload_n rfl ?_
      refine ss_getR g2_18 h124 r124_4 ?_
      refine sb_iload_n rfl ?_
      obtain ⟨hgz13, h⟩ := gd h
      refine ss_iald h127 hgz13 ?_
      obtain ⟨qz15, hez14, h⟩ := bd h
      refine sb_callVi 2 rfl oX2_worked ln2_41 vX2_worked (rc_own h124.1 (S_lt h124.2) (by decide)) (rnCk_of (by decide +kernel) rfl) (tfL_worked hez14) ?_
      refine sb_istore_n (by decide) rfl ?_
      refine sb_goto 98 (by decide) ?_
      refine sb_in [(98, .iload_n 1, 1), (99, .lookupswitch 42 #[(0, 25), (1, 34)], 25)] 124 (by decide +kernel) ?_
      refine sb_iload_n rfl ?_
      rcases ife h with ⟨cz28, h⟩ | ⟨cz28, h⟩
      · refine sb_lsw (off := 25) 124 (by decide +kernel) (by rw [cz28]; decide +kernel) (by decide) ?_
        refine sb_in [(124, .iload_n 2, 1), (125, .iconst 0, 1), (126, .sipush 1000, 3), (129, .invokestatic 45, 3), (132, .ireturn, 1)] 133 (by decide +kernel) ?_
        refine sb_iload_n rfl ?_
        refine sb_iconst cI0 ?_
        refine sb_sipush cS1000 ?_
        refine sb_callSNi 3 rfl oX11_held ln2_45 vX11_held (rnCk_of (by decide +kernel) rfl) (tfK_held) ?_
        cases h
        subst hr
        refine sb_ireturn ?_
        exact ⟨.int, rfl, rfl⟩
      rcases ife h with ⟨cz29, h⟩ | ⟨cz29, h⟩
      · refine sb_lsw (off := 34) 133 (by decide +kernel) (by rw [cz29]; decide +kernel) (by decide) ?_
        refine sb_in [(133, .iload_n 2, 1), (134, .iconst 0, 1), (135, .bipush 99, 2), (137, .invokestatic 45, 3), (140, .ireturn, 1)] 141 (by decide +kernel) ?_
        refine sb_iload_n rfl ?_
        refine sb_iconst cI0 ?_
        refine sb_bipush cB99 ?_
        refine sb_callSNi 3 rfl oX11_held ln2_45 vX11_held (rnCk_of (by decide +kernel) rfl) (tfK_held) ?_
        cases h
        subst hr
        refine sb_ireturn ?_
        exact ⟨.int, rfl, rfl⟩
      refine sb_lsw (off := 42) 141 (by decide +kernel) (rn_lsw2 cz28 cz29) (by decide) ?_
      refine sb_in [(141, .iload_n 2, 1), (142, .iconst 0, 1), (143, .bipush 20, 2), (145, .invokestatic 45, 3), (148, .ireturn, 1)] 149 (by decide +kernel) ?_
      refine sb_iload_n rfl ?_
      refine sb_iconst cI0 ?_
      refine sb_bipush cB20 ?_
      refine sb_callSNi 3 rfl oX11_held ln2_45 vX11_held (rnCk_of (by decide +kernel) rfl) (tfK_held) ?_
      cases h
      subst hr
      refine sb_ireturn ?_
      exact ⟨.int, rfl, rfl⟩
    · skip
      obtain ⟨Mz19, hey⟩ : ∃ z, z = e8 := ⟨_, rfl⟩
      subst hey
      show RN P 3 kX2_tells 98 [(1, .int x1), (2, .int (fL_plainly x1 M))] [] (S Mz19) r
      refine sb_in [(98, .iload_n 1, 1), (99, .lookupswitch 42 #[(0, 25), (1, 34)], 25)] 124 (by decide +kernel) ?_
      refine sb_iload_n rfl ?_
      rcases ife h with ⟨cz30, h⟩ | ⟨cz30, h⟩
      · refine sb_lsw (off := 25) 124 (by decide +kernel) (by rw [cz30]; decide +kernel) (by decide) ?_
        refine sb_in [(124, .iload_n 2, 1), (125, .iconst 0, 1), (126, .sipush 1000, 3), (129, .invokestatic 45, 3), (132, .ireturn, 1)] 133 (by decide +kernel) ?_
        refine sb_iload_n rfl ?_
        refine sb_iconst cI0 ?_
        refine sb_sipush cS1000 ?_
        refine sb_callSNi 3 rfl oX11_held ln2_45 vX11_held (rnCk_of (by decide +kernel) rfl) (tfK_held) ?_
        cases h
        subst hr
        refine sb_ireturn ?_
        exact ⟨.int, rfl, rfl⟩
      rcases ife h with ⟨cz31, h⟩ | ⟨cz31, h⟩
      · refine sb_lsw (off := 34) 133 (by decide +kernel) (by rw [cz31]; decide +kernel) (by decide) ?_
        refine sb_in [(133, .iload_n 2, 1), (134, .iconst 0, 1), (135, .bipush 99, 2), (137, .invokestatic 45, 3), (140, .ireturn, 1)] 141 (by decide +kernel) ?_
        refine sb_iload_n rfl ?_
        refine sb_iconst cI0 ?_
        refine sb_bipush cB99 ?_
        refine sb_callSNi 3 rfl oX11_held ln2_45 vX11_held (rnCk_of (by decide +kernel) rfl) (tfK_held) ?_
        cases h
        subst hr
        refine sb_ireturn ?_
        exact ⟨.int, rfl, rfl⟩
      refine sb_lsw (off := 42) 141 (by decide +kernel) (rn_lsw2 cz30 cz31) (by decide) ?_
      refine sb_in [(141, .iload_n 2, 1), (142, .iconst 0, 1), (143, .bipush 20, 2), (145, .invokestatic 45, 3), (148, .ireturn, 1)] 149 (by decide +kernel) ?_
      refine sb_iload_n rfl ?_
      refine sb_iconst cI0 ?_
      refine sb_bipush cB20 ?_
      refine sb_callSNi 3 rfl oX11_held ln2_45 vX11_held (rnCk_of (by decide +kernel) rfl) (tfK_held) ?_
      cases h
      subst hr
      refine sb_ireturn ?_
      exact ⟨.int, rfl, rfl⟩
theorem tfL_tells {P : Px} {x1 : Int32} {M : Mm} {rr : (Int32 × Mm)} (h : fL_tells x1 M = some rr) : EX P 3 kX2_tells [.ref 124, .int x1] (S M) (some (.int rr.1), S rr.2) := ex_of oX2_tells (Nat.le_of_ble_eq_true rfl) (nfL_tells  h rfl)
set_option maxRecDepth 20000 in
theorem nfW_ask {P : Px} {w : Nat} (hw : Wd w) {x1 : Int32} {x2 : Int32} {M : Mm} {rr : (Int32 × Mm)} (h : fW_ask w x1 x2 M = some rr) {r : Option Value × Sg} (hr : r = (some (.int rr.1), S rr.2)) : RN P 4 kX10_ask 0 [(0, .ref w), (1, .int x1), (2, .int x2), (3, .ref 124)] [] (S M) r := by
  unfold fW_ask at h
  refine sb_in [(0, .aload_n 3, 1), (1, .getfield 87, 3), (4, .astore 4, 2), (6, .aload_n 0, 1), (7, .getfield 21, 3), (10, .getfield 80, 3), (13, .iload_n 2, 1), (14, .iaload, 1), (15, .istore 5, 2), (17, .aload 4, 2), (19, .iconst 0, 1), (20, .aload_n 0, 1), (21, .getfield 21, 3), (24, .getfield 90, 3), (27, .iload_n 2, 1), (28, .iaload, 1), (29, .iastore, 1), (30, .aload 4, 2), (32, .iconst 1, 1), (33, .aload_n 0, 1), (34, .getfield 21, 3), (37, .getfield 93, 3), (40, .iload_n 2, 1), (41, .iaload, 1), (42, .iastore, 1), (43, .aload 4, 2), (45, .iconst 2, 1), (46, .aload_n 0, 1), (47, .getfield 21, 3), (50, .getfield 96, 3), (53, .iload_n 2, 1), (54, .iaload, 1), (55, .iastore, 1), (56, .aload 4, 2), (58, .iconst 3, 1), (59, .aload_n 0, 1), (60, .getfield 12, 3), (63, .getfield 99, 3), (66, .iload 5, 2), (68, .iaload, 1), (69, .iastore, 1), (70, .aload 4, 2), (72, .iconst 4, 1), (73, .aload_n 0, 1), (74, .getfield 12, 3), (77, .getfield 102, 3), (80, .iload 5, 2), (82, .iaload, 1), (83, .iastore, 1), (84, .aload 4, 2), (86, .iconst 5, 1), (87, .aload_n 0, 1), (88, .getfield 12, 3), (91, .getfield 105, 3), (94, .iload 5, 2), (96, .iaload, 1), (97, .iastore, 1), (98, .aload 4, 2), (100, .bipush 6, 2), (102, .aload_n 0, 1), (103, .getfield 29, 3), (106, .iastore, 1), (107, .aload 4, 2), (109, .bipush 7, 2), (111, .aload_n 0, 1), (112, .getfield 108, 3), (115, .iastore, 1), (116, .aload 4, 2), (118, .bipush 8, 2), (120, .aload_n 0, 1), (121, .getfield 69, 3), (124, .iastore, 1), (125, .aload 4, 2), (127, .bipush 9, 2), (129, .aload_n 0, 1), (130, .getfield 111, 3), (133, .iastore, 1), (134, .aload 4, 2), (136, .bipush 10, 2), (138, .aload_n 0, 1), (139, .getfield 114, 3), (142, .iastore, 1), (143, .aload_n 3, 1), (144, .iload_n 1, 1), (145, .invokevirtual 117, 3), (148, .ireturn, 1)] 149 (by decide +kernel) ?_
  refine sb_aload_n rfl ?_
  refine ss_getR g10_87 h124 r124_7 ?_
  refine sb_astore (by decide) rfl ?_
  refine sb_aload_n rfl ?_
  refine ss_getR g10_21 (hWd0 hw) (rWd1 hw) ?_
  refine ss_getR g10_80 (hWd7 hw) (rWd7_3 hw) ?_
  refine sb_iload_n rfl ?_
  obtain ⟨hgz1, h⟩ := gd h
  refine ss_iald (hWd9 hw) hgz1 ?_
  refine sb_istore (by decide) rfl ?_
  refine sb_aload rfl ?_
  refine sb_iconst cI0 ?_
  refine sb_aload_n rfl ?_
  refine ss_getR g10_21 (hWd0 hw) (rWd1 hw) ?_
  refine ss_getR g10_90 (hWd7 hw) (rWd7_4 hw) ?_
  refine sb_iload_n rfl ?_
  obtain ⟨hgz3, h⟩ := gd h
  refine ss_iald (hWd10 hw) hgz3 ?_
  refine ss_iastL 0 h130 (by decide) iL0 rfl ?_
  refine sb_aload rfl ?_
  refine sb_iconst cI1 ?_
  refine sb_aload_n rfl ?_
  refine ss_getR g10_21 (hWd0 hw) (rWd1 hw) ?_
  refine ss_getR g10_93 (hWd7 hw) (rWd7_5 hw) ?_
  refine sb_iload_n rfl ?_
  obtain ⟨hgz5, h⟩ := gd h
  refine ss_iald (hWd11 hw) hgz5 ?_
  refine ss_iastL 1 h130 (by decide) iL1 rfl ?_
  refine sb_aload rfl ?_
  refine sb_iconst cI2 ?_
  refine sb_aload_n rfl ?_
  refine ss_getR g10_21 (hWd0 hw) (rWd1 hw) ?_
  refine ss_getR g10_96 (hWd7 hw) (rWd7_6 hw) ?_
  refine sb_iload_n rfl ?_
  obtain ⟨hgz7, h⟩ := gd h
  refine ss_iald (hWd12 hw) hgz7 ?_
  refine ss_iastL 2 h130 (by decide) iL2 rfl ?_
  refine sb_aload rfl ?_
  refine sb_iconst cI3 ?_
  refine sb_aload_n rfl ?_
  refine ss_getR g10_12 (hWd0 hw) (rWd0 hw) ?_
  refine ss_getR g10_99 (hWd1 hw) (rWd1_1 hw) ?_
  refine sb_iload rfl ?_
  obtain ⟨hgz9, h⟩ := gd h
  refine ss_iald (hWd2 hw) hgz9 ?_
  refine ss_iastL 3 h130 (by decide) iL3 rfl ?_
  refine sb_aload rfl ?_
  refine sb_iconst cI4 ?_
  refine sb_aload_n rfl ?_
  refine ss_getR g10_12 (hWd0 hw) (rWd0 hw) ?_
  refine ss_getR g10_102 (hWd1 hw) (rWd1_2 hw) ?_
  refine sb_iload rfl ?_
  obtain ⟨hgz11, h⟩ := gd h
  refine ss_iald (hWd3 hw) hgz11 ?_
  refine ss_iastL 4 h130 (by decide) iL4 rfl ?_
  refine sb_aload rfl ?_
  refine sb_iconst cI5 ?_
  refine sb_aload_n rfl ?_
  refine ss_getR g10_12 (hWd0 hw) (rWd0 hw) ?_
  refine ss_getR g10_105 (hWd1 hw) (rWd1_3 hw) ?_
  refine sb_iload rfl ?_
  obtain ⟨hgz13, h⟩ := gd h
  refine ss_iald (hWd4 hw) hgz13 ?_
  refine ss_iastL 5 h130 (by decide) iL5 rfl ?_
  refine sb_aload rfl ?_
  refine sb_bipush cB6 ?_
  refine sb_aload_n rfl ?_
  refine ss_getI g10_29 (hWd0 hw) ?_
  refine ss_iastL 6 h130 (by decide) iL6 rfl ?_
  refine sb_aload rfl ?_
  refine sb_bipush cB7 ?_
  refine sb_aload_n rfl ?_
  refine ss_getI g10_108 (hWd0 hw) ?_
  refine ss_iastL 7 h130 (by decide) iL7 rfl ?_
  refine sb_aload rfl ?_
  refine sb_bipush cB8 ?_
  refine sb_aload_n rfl ?_
  refine ss_getI g10_69 (hWd0 hw) ?_
  refine ss_iastL 8 h130 (by decide) iL8 rfl ?_
  refine sb_aload rfl ?_
  refine sb_bipush cB9 ?_
  refine sb_aload_n rfl ?_
  refine ss_getI g10_111 (hWd0 hw) ?_
  refine ss_iastL 9 h130 (by decide) iL9 rfl ?_
  refine sb_aload rfl ?_
  refine sb_bipush cB10 ?_
  refine sb_aload_n rfl ?_
  refine ss_getI g10_114 (hWd0 hw) ?_
  refine ss_iastL 10 h130 (by decide) iL10 rfl ?_
  refine sb_aload_n rfl ?_
  refine sb_iload_n rfl ?_
  obtain ⟨qz21, hez20, h⟩ := bd h
  refine sb_callVi 1 rfl oX2_tells ln10_117 vX2_tells (rc_own h124.1 (S_lt h124.2) (by decide)) (rnCk_of (by decide +kernel) rfl) (tfL_tells hez20) ?_
  cases h
  subst hr
  refine sb_ireturn ?_
  exact ⟨.int, rfl, rfl⟩
theorem tfW_ask {P : Px} {w : Nat} (hw : Wd w) {x1 : Int32} {x2 : Int32} {M : Mm} {rr : (Int32 × Mm)} (h : fW_ask w x1 x2 M = some rr) : EX P 4 kX10_ask [.ref w, .int x1, .int x2, .ref 124] (S M) (some (.int rr.1), S rr.2) := ex_of oX10_ask (Nat.le_of_ble_eq_true rfl) (nfW_ask hw h rfl)
set_option maxRecDepth 20000 in
theorem nfW_isOpened {P : Px} {w : Nat} (hw : Wd w) {x1 : Int32} {M : Mm} {rr : (Int32 × Mm)} (h : fW_isOpened w x1 M = rr) {r : Option Value × Sg} (hr : r = (some (.int rr.1), S rr.2)) : RN P 1 kX10_isOpened 0 [(0, .ref w), (1, .int x1)] [] (S M) r := by
  unfold fW_isOpened at h
  refine sb_in [(0, .aload_n 0, 1), (1, .getfield 33, 3), (4, .ifCond .eq 16, 3)] 7 (by decide +kernel) ?_
  refine sb_aload_n rfl ?_
  refine ss_getI g10_33 (hWd0 hw) ?_
  rcases ife h with ⟨cz2, h⟩ | ⟨cz2, h⟩
  · refine sb_if_eq_t 20 cz2 (by decide) ?_
    refine sb_in [(20, .aload_n 0, 1), (21, .ldc 199, 2), (23, .aload_n 0, 1), (24, .getfield 172, 3), (27, .imul, 1), (28, .ldc 200, 2), (30, .iadd, 1), (31, .putfield 172, 3), (34, .aload_n 0, 1), (35, .getfield 172, 3), (38, .bipush 8, 2), (40, .iushr, 1), (41, .sipush 1000, 3), (44, .irem, 1), (45, .iload_n 1, 1), (46, .if_icmp .ge 7, 3)] 49 (by decide +kernel) ?_
    refine sb_aload_n rfl ?_
    refine sb_ldc (v := 1664525) rfl ?_
    refine sb_aload_n rfl ?_
    refine ss_getI g10_172 (hWd0 hw) ?_
    refine sb_imul ?_
    refine sb_ldc (v := 1013904223) rfl ?_
    refine sb_iadd ?_
    refine ss_putI p10_172 (hWd0 hw) (fun q => (nzWd hw) q.1) ?_
    refine sb_aload_n rfl ?_
    refine ss_getI g10_172 (hWd0 hw) ?_
    refine sb_bipush cB8 ?_
    refine sb_iushr ?_
    refine sb_sipush cS1000 ?_
    refine sb_irem (by decide) ?_
    refine sb_iload_n rfl ?_
    rcases ife h with ⟨cz3, h⟩ | ⟨cz3, h⟩
    · refine sb_icmp_ge_t 53 cz3 (by decide) ?_
      refine sb_in [(53, .iconst 0, 1)] 54 (by decide +kernel) ?_
      refine sb_iconst cI0 ?_
      refine sb_end ?_
      refine sb_in [(54, .ireturn, 1)] 55 (by decide +kernel) ?_
      subst h
      subst hr
      refine sb_ireturn ?_
      exact ⟨.boolean, rfl, by decide⟩
    · refine sb_icmp_ge_f 53 cz3 (by decide) ?_
      refine sb_in [(49, .iconst 1, 1), (50, .goto 4, 3)] 53 (by decide +kernel) ?_
      refine sb_iconst cI1 ?_
      refine sb_goto 54 (by decide) ?_
      refine sb_in [(54, .ireturn, 1)] 55 (by decide +kernel) ?_
      subst h
      subst hr
      refine sb_ireturn ?_
      exact ⟨.boolean, rfl, by decide⟩
  · refine sb_if_eq_f 20 cz2 (by decide) ?_
    refine sb_in [(7, .iload_n 1, 1), (8, .sipush 500, 3), (11, .if_icmp .lt 7, 3)] 14 (by decide +kernel) ?_
    refine sb_iload_n rfl ?_
    refine sb_sipush cS500 ?_
    rcases ife h with ⟨cz4, h⟩ | ⟨cz4, h⟩
    · refine sb_icmp_lt_t 18 cz4 (by decide) ?_
      refine sb_in [(18, .iconst 0, 1)] 19 (by decide +kernel) ?_
      refine sb_iconst cI0 ?_
      refine sb_end ?_
      refine sb_in [(19, .ireturn, 1)] 20 (by decide +kernel) ?_
      subst h
      subst hr
      refine sb_ireturn ?_
      exact ⟨.boolean, rfl, by decide⟩
    · refine sb_icmp_lt_f 18 cz4 (by decide) ?_
      refine sb_in [(14, .iconst 1, 1), (15, .goto 4, 3)] 18 (by decide +kernel) ?_
      refine sb_iconst cI1 ?_
      refine sb_goto 19 (by decide) ?_
      refine sb_in [(19, .ireturn, 1)] 20 (by decide +kernel) ?_
      subst h
      subst hr
      refine sb_ireturn ?_
      exact ⟨.boolean, rfl, by decide⟩
theorem tfW_isOpened {P : Px} {w : Nat} (hw : Wd w) {x1 : Int32} {M : Mm} : EX P 1 kX10_isOpened [.ref w, .int x1] (S M) (some (.int (fW_isOpened w x1 M).1), S (fW_isOpened w x1 M).2) := ex_of oX10_isOpened (Nat.le_of_ble_eq_true rfl) (nfW_isOpened hw rfl rfl)
set_option maxRecDepth 20000 in
theorem nfW_take {P : Px} {w : Nat} (hw : Wd w) {x1 : Int32} {x2 : Int32} {M : Mm} {rr : (Int32 × Mm)} (h : fW_take w x1 x2 M = some rr) {r : Option Value × Sg} (hr : r = (some (.int rr.1), S rr.2)) : RN P 1 kX10_take 0 [(0, .ref w), (1, .int x1), (2, .int x2)] [] (S M) r := by
  unfold fW_take at h
  refine sb_in [(0, .aload_n 0, 1), (1, .getfield 21, 3), (4, .getfield 90, 3), (7, .iload_n 1, 1), (8, .iaload, 1), (9, .istore_n 3, 1), (10, .aload_n 0, 1), (11, .getfield 21, 3), (14, .getfield 80, 3), (17, .iload_n 1, 1), (18, .iaload, 1), (19, .istore 4, 2), (21, .iload_n 2, 1), (22, .istore 5, 2), (24, .iload_n 3, 1), (25, .iconst 1, 1), (26, .if_icmp .ne 34, 3)] 29 (by decide +kernel) ?_
  refine sb_aload_n rfl ?_
  refine ss_getR g10_21 (hWd0 hw) (rWd1 hw) ?_
  refine ss_getR g10_90 (hWd7 hw) (rWd7_4 hw) ?_
  refine sb_iload_n rfl ?_
  obtain ⟨hgz1, h⟩ := gd h
  refine ss_iald (hWd10 hw) hgz1 ?_
  refine sb_istore_n (by decide) rfl ?_
  refine sb_aload_n rfl ?_
  refine ss_getR g10_21 (hWd0 hw) (rWd1 hw) ?_
  refine ss_getR g10_80 (hWd7 hw) (rWd7_3 hw) ?_
  refine sb_iload_n rfl ?_
  obtain ⟨hgz3, h⟩ := gd h
  refine ss_iald (hWd9 hw) hgz3 ?_
  refine sb_istore (by decide) rfl ?_
  refine sb_iload_n rfl ?_
  refine sb_istore (by decide) rfl ?_
  refine sb_iload_n rfl ?_
  refine sb_iconst cI1 ?_
  obtain ⟨⟨yz10, Mz11⟩, hj60, h⟩ := bd h
  have hJ60 : RN P 1 kX10_take 60 [(0, .ref w), (3, .int ((M (w + 10) (jix x1)))), (4, .int ((M (w + 9) (jix x1)))), (5, .int yz10)] [] (S Mz11) r := by
    refine sb_in [(60, .aload_n 0, 1), (61, .getfield 25, 3), (64, .iload_n 3, 1), (65, .dup2, 1), (66, .iaload, 1), (67, .iload 5, 2), (69, .iadd, 1), (70, .iastore, 1), (71, .aload_n 0, 1), (72, .getfield 12, 3), (75, .getfield 201, 3), (78, .iload 4, 2), (80, .dup2, 1), (81, .iaload, 1), (82, .iconst 1, 1), (83, .iadd, 1), (84, .iastore, 1), (85, .iload 5, 2), (87, .ireturn, 1)] 88 (by decide +kernel) ?_
    refine sb_aload_n rfl ?_
    refine ss_getR g10_25 (hWd0 hw) (rWd2 hw) ?_
    refine sb_iload_n rfl ?_
    refine sb_dup2 rfl rfl ?_
    obtain ⟨hgz12, h⟩ := gd h
    refine ss_iald (hWd13 hw) hgz12 ?_
    refine sb_iload rfl ?_
    refine sb_iadd ?_
    obtain ⟨hgz14, h⟩ := gd h
    refine ss_iast (hWd13 hw) (Nat.succ_ne_zero _) hgz14 ?_
    refine sb_aload_n rfl ?_
    refine ss_getR g10_12 (hWd0 hw) (rWd0 hw) ?_
    refine ss_getR g10_201 (hWd1 hw) (rWd1_4 hw) ?_
    refine sb_iload rfl ?_
    refine sb_dup2 rfl rfl ?_
    obtain ⟨hgz15, h⟩ := gd h
    refine ss_iald (hWd5 hw) hgz15 ?_
    refine sb_iconst cI1 ?_
    refine sb_iadd ?_
    obtain ⟨hgz17, h⟩ := gd h
    refine ss_iast (hWd5 hw) (Nat.succ_ne_zero _) hgz17 ?_
    refine sb_iload rfl ?_
    cases h
    subst hr
    refine sb_ireturn ?_
    exact ⟨.int, rfl, rfl⟩
  clear h
  have h := hj60
  clear hj60
  rcases ife h with ⟨cz18, h⟩ | ⟨cz18, h⟩
  · refine sb_icmp_ne_f 60 cz18 (by decide) ?_
    refine sb_in [(29, .iload_n 2, 1), (30, .aload_n 0, 1), (31, .getfield 12, 3), (34, .getfield 105, 3), (37, .iload 4, 2), (39, .iaload, 1), (40, .invokestatic 72, 3), (43, .istore 5, 2), (45, .aload_n 0, 1), (46, .getfield 12, 3), (49, .getfield 105, 3), (52, .iload 4, 2), (54, .dup2, 1), (55, .iaload, 1), (56, .iload 5, 2), (58, .isub, 1), (59, .iastore, 1)] 60 (by decide +kernel) ?_
    refine sb_iload_n rfl ?_
    refine sb_aload_n rfl ?_
    refine ss_getR g10_12 (hWd0 hw) (rWd0 hw) ?_
    refine ss_getR g10_105 (hWd1 hw) (rWd1_3 hw) ?_
    refine sb_iload rfl ?_
    obtain ⟨hgz5, h⟩ := gd h
    refine ss_iald (hWd4 hw) hgz5 ?_
    refine sb_min lm10_72 minS maI minC (by decide) rfl ?_
    refine sb_istore (by decide) rfl ?_
    refine sb_aload_n rfl ?_
    refine ss_getR g10_12 (hWd0 hw) (rWd0 hw) ?_
    refine ss_getR g10_105 (hWd1 hw) (rWd1_3 hw) ?_
    refine sb_iload rfl ?_
    refine sb_dup2 rfl rfl ?_
    obtain ⟨hgz7, h⟩ := gd h
    refine ss_iald (hWd4 hw) hgz7 ?_
    refine sb_iload rfl ?_
    refine sb_isub ?_
    obtain ⟨hgz9, h⟩ := gd h
    refine ss_iast (hWd4 hw) (Nat.succ_ne_zero _) hgz9 ?_
    refine sb_end ?_
    cases h
    exact rn_sub [0, 3, 4, 5] rfl hJ60
  · refine sb_icmp_ne_t 60 cz18 (by decide) ?_
    cases h
    exact rn_sub [0, 3, 4, 5] rfl hJ60
theorem tfW_take {P : Px} {w : Nat} (hw : Wd w) {x1 : Int32} {x2 : Int32} {M : Mm} {rr : (Int32 × Mm)} (h : fW_take w x1 x2 M = some rr) : EX P 1 kX10_take [.ref w, .int x1, .int x2] (S M) (some (.int rr.1), S rr.2) := ex_of oX10_take (Nat.le_of_ble_eq_true rfl) (nfW_take hw h rfl)
set_option maxRecDepth 20000 in
theorem nfW_feel {P : Px} {w : Nat} (hw : Wd w) {x1 : Int32} {x2 : Int32} {M : Mm} {rr : Mm} (h : fW_feel w x1 x2 M = some rr) {r : Option Value × Sg} (hr : r = (none, S rr)) : RN P 2 kX10_feel 0 [(0, .ref w), (1, .int x1), (2, .int x2)] [] (S M) r := by
  unfold fW_feel at h
  refine sb_in [(0, .aload_n 0, 1), (1, .getfield 21, 3), (4, .getfield 90, 3), (7, .iload_n 1, 1), (8, .iaload, 1), (9, .istore_n 3, 1), (10, .aload_n 0, 1), (11, .getfield 21, 3), (14, .getfield 80, 3), (17, .iload_n 1, 1), (18, .iaload, 1), (19, .istore 4, 2), (21, .aload_n 0, 1), (22, .getfield 12, 3), (25, .getfield 99, 3), (28, .iload 4, 2), (30, .aload_n 0, 1), (31, .getfield 12, 3), (34, .getfield 99, 3), (37, .iload 4, 2), (39, .iaload, 1), (40, .getstatic 204, 3), (43, .iload_n 3, 1), (44, .iaload, 1), (45, .iadd, 1), (46, .bipush (-9), 2), (48, .bipush 9, 2), (50, .invokestatic 147, 3), (53, .iastore, 1), (54, .iload_n 3, 1), (55, .iconst 3, 1), (56, .if_icmp .ne 17, 3)] 59 (by decide +kernel) ?_
  refine sb_aload_n rfl ?_
  refine ss_getR g10_21 (hWd0 hw) (rWd1 hw) ?_
  refine ss_getR g10_90 (hWd7 hw) (rWd7_4 hw) ?_
  refine sb_iload_n rfl ?_
  obtain ⟨hgz1, h⟩ := gd h
  refine ss_iald (hWd10 hw) hgz1 ?_
  refine sb_istore_n (by decide) rfl ?_
  refine sb_aload_n rfl ?_
  refine ss_getR g10_21 (hWd0 hw) (rWd1 hw) ?_
  refine ss_getR g10_80 (hWd7 hw) (rWd7_3 hw) ?_
  refine sb_iload_n rfl ?_
  obtain ⟨hgz3, h⟩ := gd h
  refine ss_iald (hWd9 hw) hgz3 ?_
  refine sb_istore (by decide) rfl ?_
  refine sb_aload_n rfl ?_
  refine ss_getR g10_12 (hWd0 hw) (rWd0 hw) ?_
  refine ss_getR g10_99 (hWd1 hw) (rWd1_1 hw) ?_
  refine sb_iload rfl ?_
  refine sb_aload_n rfl ?_
  refine ss_getR g10_12 (hWd0 hw) (rWd0 hw) ?_
  refine ss_getR g10_99 (hWd1 hw) (rWd1_1 hw) ?_
  refine sb_iload rfl ?_
  obtain ⟨hgz5, h⟩ := gd h
  refine ss_iald (hWd2 hw) hgz5 ?_
  refine rn_getsN (v := .ref 1000) lf10_204 (fun X s h => z_smiles h) ?_
  refine sb_iload_n rfl ?_
  obtain ⟨hgz6, h⟩ := gd h
  refine sb_icld 0 (by decide) hgz6 ?_
  refine sb_iadd ?_
  refine sb_bipush cBm9 ?_
  refine sb_bipush cB9 ?_
  refine sb_callSNi 3 rfl oX11_held ln10_147 vX11_held (rnCk_of (by decide +kernel) rfl) (tfK_held) ?_
  obtain ⟨hgz9, h⟩ := gd h
  refine ss_iast (hWd2 hw) (Nat.succ_ne_zero _) hgz9 ?_
  refine sb_iload_n rfl ?_
  refine sb_iconst cI3 ?_
  obtain ⟨Mz11, hj73, h⟩ := bd h
  have hJ73 : RN P 2 kX10_feel 73 [(0, .ref w), (1, .int x1), (2, .int x2), (3, .int ((M (w + 10) (jix x1))))] [] (S Mz11) r := by
    refine sb_in [(73, .iload_n 3, 1), (74, .iconst 4, 1), (75, .if_icmp .ne 17, 3)] 78 (by decide +kernel) ?_
    refine sb_iload_n rfl ?_
    refine sb_iconst cI4 ?_
    obtain ⟨Mz13, hj92, h⟩ := bd h
    have hJ92 : RN P 2 kX10_feel 92 [(0, .ref w), (1, .int x1), (3, .int ((M (w + 10) (jix x1))))] [] (S Mz13) r := by
      refine sb_in [(92, .iload_n 3, 1), (93, .ifCond .ne 42, 3)] 96 (by decide +kernel) ?_
      refine sb_iload_n rfl ?_
      rcases ife h with ⟨cz17, h⟩ | ⟨cz17, h⟩
      · refine sb_if_ne_f 135 cz17 (by decide) ?_
        refine sb_in [(96, .aload_n 0, 1), (97, .getfield 21, 3), (100, .getfield 93, 3), (103, .iload_n 1, 1), (104, .iaload, 1), (105, .bipush 50, 2), (107, .if_icmp .lt 28, 3)] 110 (by decide +kernel) ?_
        refine sb_aload_n rfl ?_
        refine ss_getR g10_21 (hWd0 hw) (rWd1 hw) ?_
        refine ss_getR g10_93 (hWd7 hw) (rWd7_5 hw) ?_
        refine sb_iload_n rfl ?_
        obtain ⟨hgz14, h⟩ := gd h
        refine ss_iald (hWd11 hw) hgz14 ?_
        refine sb_bipush cB50 ?_
        rcases ife h with ⟨cz18, h⟩ | ⟨cz18, h⟩
        · refine sb_icmp_lt_t 135 cz18 (by decide) ?_
          refine sb_in [(135, .return_, 1)] 136 (by decide +kernel) ?_
          cases h
          subst hr
          refine sb_return ?_
          exact rfl
        · refine sb_icmp_lt_f 135 cz18 (by decide) ?_
          refine sb_in [(110, .aload_n 0, 1), (111, .dup, 1), (112, .getfield 169, 3), (115, .iconst 1, 1), (116, .iadd, 1), (117, .putfield 169, 3), (120, .aload_n 0, 1), (121, .bipush 99, 2), (123, .aload_n 0, 1), (124, .getfield 29, 3), (127, .iconst 5, 1), (128, .iadd, 1), (129, .invokestatic 72, 3), (132, .putfield 29, 3)] 135 (by decide +kernel) ?_
          refine sb_aload_n rfl ?_
          refine sb_dup rfl ?_
          refine ss_getI g10_169 (hWd0 hw) ?_
          refine sb_iconst cI1 ?_
          refine sb_iadd ?_
          refine ss_putI p10_169 (hWd0 hw) (fun q => (nzWd hw) q.1) ?_
          refine sb_aload_n rfl ?_
          refine sb_bipush cB99 ?_
          refine sb_aload_n rfl ?_
          refine ss_getI g10_29 (hWd0 hw) ?_
          refine sb_iconst cI5 ?_
          refine sb_iadd ?_
          refine sb_min lm10_72 minS maI minC (by decide) rfl ?_
          refine ss_putI p10_29 (hWd0 hw) (fun q => (nzWd hw) q.1) ?_
          refine sb_end ?_
          refine sb_in [(135, .return_, 1)] 136 (by decide +kernel) ?_
          cases h
          subst hr
          refine sb_return ?_
          exact rfl
      · refine sb_if_ne_t 135 cz17 (by decide) ?_
        refine sb_in [(135, .return_, 1)] 136 (by decide +kernel) ?_
        cases h
        subst hr
        refine sb_return ?_
        exact rfl
    clear h
    have h := hj92
    clear hj92
    rcases ife h with ⟨cz19, h⟩ | ⟨cz19, h⟩
    · refine sb_icmp_ne_f 92 cz19 (by decide) ?_
      refine sb_in [(78, .aload_n 0, 1), (79, .iconst 0, 1), (80, .aload_n 0, 1), (81, .getfield 108, 3), (84, .iload_n 2, 1), (85, .isub, 1), (86, .invokestatic 207, 3), (89, .putfield 108, 3)] 92 (by decide +kernel) ?_
      refine sb_aload_n rfl ?_
      refine sb_iconst cI0 ?_
      refine sb_aload_n rfl ?_
      refine ss_getI g10_108 (hWd0 hw) ?_
      refine sb_iload_n rfl ?_
      refine sb_isub ?_
      refine sb_max lm10_207 maxS maI maxC (by decide) rfl ?_
      refine ss_putI p10_108 (hWd0 hw) (fun q => (nzWd hw) q.1) ?_
      refine sb_end ?_
      cases h
      exact rn_sub [0, 1, 3] rfl hJ92
    · refine sb_icmp_ne_t 92 cz19 (by decide) ?_
      cases h
      exact rn_sub [0, 1, 3] rfl hJ92
  clear h
  have h := hj73
  clear hj73
  rcases ife h with ⟨cz20, h⟩ | ⟨cz20, h⟩
  · refine sb_icmp_ne_f 73 cz20 (by decide) ?_
    refine sb_in [(59, .aload_n 0, 1), (60, .iconst 0, 1), (61, .aload_n 0, 1), (62, .getfield 29, 3), (65, .iload_n 2, 1), (66, .isub, 1), (67, .invokestatic 207, 3), (70, .putfield 29, 3)] 73 (by decide +kernel) ?_
    refine sb_aload_n rfl ?_
    refine sb_iconst cI0 ?_
    refine sb_aload_n rfl ?_
    refine ss_getI g10_29 (hWd0 hw) ?_
    refine sb_iload_n rfl ?_
    refine sb_isub ?_
    refine sb_max lm10_207 maxS maI maxC (by decide) rfl ?_
    refine ss_putI p10_29 (hWd0 hw) (fun q => (nzWd hw) q.1) ?_
    refine sb_end ?_
    cases h
    exact rn_sub [0, 1, 2, 3] rfl hJ73
  · refine sb_icmp_ne_t 73 cz20 (by decide) ?_
    cases h
    exact rn_sub [0, 1, 2, 3] rfl hJ73
theorem tfW_feel {P : Px} {w : Nat} (hw : Wd w) {x1 : Int32} {x2 : Int32} {M : Mm} {rr : Mm} (h : fW_feel w x1 x2 M = some rr) : EX P 2 kX10_feel [.ref w, .int x1, .int x2] (S M) (none, S rr) := ex_of oX10_feel (Nat.le_of_ble_eq_true rfl) (nfW_feel hw h rfl)
set_option maxRecDepth 20000 in
theorem nfB_remove {P : Px} {w : Nat} (hw : Bg w) {x1 : Int32} {M : Mm} {rr : Mm} (h : fB_remove w x1 M = some rr) {r : Option Value × Sg} (hr : r = (none, S rr)) : RN P 1 kX0_remove 0 [(0, .ref w), (1, .int x1)] [] (S M) r := by
  unfold fB_remove at h
  refine sb_in [(0, .aload_n 0, 1), (1, .getfield 27, 3), (4, .iload_n 1, 1), (5, .isub, 1), (6, .iconst 1, 1), (7, .isub, 1), (8, .istore_n 2, 1), (9, .iload_n 1, 1), (10, .ifCond .lt 7, 3)] 13 (by decide +kernel) ?_
  refine sb_aload_n rfl ?_
  refine ss_getI g0_27 (hBg0 hw) ?_
  refine sb_iload_n rfl ?_
  refine sb_isub ?_
  refine sb_iconst cI1 ?_
  refine sb_isub ?_
  refine sb_istore_n (by decide) rfl ?_
  refine sb_iload_n rfl ?_
  rcases ife h with ⟨cz13, h⟩ | ⟨cz13, h⟩
  · refine sb_if_lt_t 17 cz13 (by decide) ?_
    refine sb_in [(17, .return_, 1)] 18 (by decide +kernel) ?_
    cases h
    subst hr
    refine sb_return ?_
    exact rfl
  · refine sb_if_lt_f 17 cz13 (by decide) ?_
    refine sb_in [(13, .iload_n 2, 1), (14, .ifCond .ge 4, 3)] 17 (by decide +kernel) ?_
    refine sb_iload_n rfl ?_
    rcases ife h with ⟨cz14, h⟩ | ⟨cz14, h⟩
    · refine sb_if_ge_t 18 cz14 (by decide) ?_
      refine sb_in [(18, .aload_n 0, 1), (19, .getfield 9, 3), (22, .iload_n 1, 1), (23, .iconst 1, 1), (24, .iadd, 1), (25, .aload_n 0, 1), (26, .getfield 9, 3), (29, .iload_n 1, 1), (30, .iload_n 2, 1), (31, .invokestatic 34, 3), (34, .aload_n 0, 1), (35, .getfield 15, 3), (38, .iload_n 1, 1), (39, .iconst 1, 1), (40, .iadd, 1), (41, .aload_n 0, 1), (42, .getfield 15, 3), (45, .iload_n 1, 1), (46, .iload_n 2, 1), (47, .invokestatic 34, 3), (50, .aload_n 0, 1), (51, .getfield 18, 3), (54, .iload_n 1, 1), (55, .iconst 1, 1), (56, .iadd, 1), (57, .aload_n 0, 1), (58, .getfield 18, 3), (61, .iload_n 1, 1), (62, .iload_n 2, 1), (63, .invokestatic 34, 3), (66, .aload_n 0, 1), (67, .getfield 21, 3), (70, .iload_n 1, 1), (71, .iconst 1, 1), (72, .iadd, 1), (73, .aload_n 0, 1), (74, .getfield 21, 3), (77, .iload_n 1, 1), (78, .iload_n 2, 1), (79, .invokestatic 34, 3), (82, .aload_n 0, 1), (83, .getfield 24, 3), (86, .iload_n 1, 1), (87, .iconst 1, 1), (88, .iadd, 1), (89, .aload_n 0, 1), (90, .getfield 24, 3), (93, .iload_n 1, 1), (94, .iload_n 2, 1), (95, .invokestatic 34, 3), (98, .aload_n 0, 1), (99, .dup, 1), (100, .getfield 27, 3), (103, .iconst 1, 1), (104, .isub, 1), (105, .putfield 27, 3), (108, .return_, 1)] 109 (by decide +kernel) ?_
      refine sb_aload_n rfl ?_
      refine ss_getR g0_9 (hBg0 hw) (rBg2 hw) ?_
      refine sb_iload_n rfl ?_
      refine sb_iconst cI1 ?_
      refine sb_iadd ?_
      refine sb_aload_n rfl ?_
      refine ss_getR g0_9 (hBg0 hw) (rBg2 hw) ?_
      refine sb_iload_n rfl ?_
      refine sb_iload_n rfl ?_
      obtain ⟨hgz3, h⟩ := gd h
      refine ss_copy lc0_34 acN acS acI (hBg1 hw) (hBg1 hw) (Nat.succ_ne_zero _) hgz3 (by decide) rfl ?_
      refine sb_aload_n rfl ?_
      refine ss_getR g0_15 (hBg0 hw) (rBg3 hw) ?_
      refine sb_iload_n rfl ?_
      refine sb_iconst cI1 ?_
      refine sb_iadd ?_
      refine sb_aload_n rfl ?_
      refine ss_getR g0_15 (hBg0 hw) (rBg3 hw) ?_
      refine sb_iload_n rfl ?_
      refine sb_iload_n rfl ?_
      obtain ⟨hgz5, h⟩ := gd h
      refine ss_copy lc0_34 acN acS acI (hBg2 hw) (hBg2 hw) (Nat.succ_ne_zero _) hgz5 (by decide) rfl ?_
      refine sb_aload_n rfl ?_
      refine ss_getR g0_18 (hBg0 hw) (rBg4 hw) ?_
      refine sb_iload_n rfl ?_
      refine sb_iconst cI1 ?_
      refine sb_iadd ?_
      refine sb_aload_n rfl ?_
      refine ss_getR g0_18 (hBg0 hw) (rBg4 hw) ?_
      refine sb_iload_n rfl ?_
      refine sb_iload_n rfl ?_
      obtain ⟨hgz7, h⟩ := gd h
      refine ss_copy lc0_34 acN acS acI (hBg3 hw) (hBg3 hw) (Nat.succ_ne_zero _) hgz7 (by decide) rfl ?_
      refine sb_aload_n rfl ?_
      refine ss_getR g0_21 (hBg0 hw) (rBg5 hw) ?_
      refine sb_iload_n rfl ?_
      refine sb_iconst cI1 ?_
      refine sb_iadd ?_
      refine sb_aload_n rfl ?_
      refine ss_getR g0_21 (hBg0 hw) (rBg5 hw) ?_
      refine sb_iload_n rfl ?_
      refine sb_iload_n rfl ?_
      obtain ⟨hgz9, h⟩ := gd h
      refine ss_copy lc0_34 acN acS acI (hBg4 hw) (hBg4 hw) (Nat.succ_ne_zero _) hgz9 (by decide) rfl ?_
      refine sb_aload_n rfl ?_
      refine ss_getR g0_24 (hBg0 hw) (rBg6 hw) ?_
      refine sb_iload_n rfl ?_
      refine sb_iconst cI1 ?_
      refine sb_iadd ?_
      refine sb_aload_n rfl ?_
      refine ss_getR g0_24 (hBg0 hw) (rBg6 hw) ?_
      refine sb_iload_n rfl ?_
      refine sb_iload_n rfl ?_
      obtain ⟨hgz11, h⟩ := gd h
      refine ss_copy lc0_34 acN acS acI (hBg5 hw) (hBg5 hw) (Nat.succ_ne_zero _) hgz11 (by decide) rfl ?_
      refine sb_aload_n rfl ?_
      refine sb_dup rfl ?_
      refine ss_getI g0_27 (hBg0 hw) ?_
      refine sb_iconst cI1 ?_
      refine sb_isub ?_
      refine ss_putI p0_27 (hBg0 hw) (fun q => (nzBg hw) q.1) ?_
      cases h
      subst hr
      refine sb_return ?_
      exact rfl
    · refine sb_if_ge_f 18 cz14 (by decide) ?_
      refine sb_in [(17, .return_, 1)] 18 (by decide +kernel) ?_
      cases h
      subst hr
      refine sb_return ?_
      exact rfl
theorem tfB_remove {P : Px} {w : Nat} (hw : Bg w) {x1 : Int32} {M : Mm} {rr : Mm} (h : fB_remove w x1 M = some rr) : EX P 1 kX0_remove [.ref w, .int x1] (S M) (none, S rr) := ex_of oX0_remove (Nat.le_of_ble_eq_true rfl) (nfB_remove hw h rfl)
set_option maxRecDepth 20000 in
theorem nfW_bringAt {P : Px} {w : Nat} (hw : Wd w) {x1 : Int32} {M : Mm} {rr : (Int32 × Mm)} (h : fW_bringAt w x1 M = some rr) {r : Option Value × Sg} (hr : r = (some (.int rr.1), S rr.2)) : RN P 5 kX10_bringAt 0 [(0, .ref w), (1, .int x1), (2, .ref 124)] [] (S M) r := by
  unfold fW_bringAt at h
  refine sb_in [(0, .aload_n 0, 1), (1, .aload_n 0, 1), (2, .iconst 0, 1), (3, .iload_n 1, 1), (4, .aload_n 2, 1), (5, .invokevirtual 53, 3), (8, .invokevirtual 57, 3), (11, .istore_n 3, 1), (12, .iconst (-1), 1), (13, .istore 4, 2), (15, .iload_n 3, 1), (16, .ifCond .eq 24, 3)] 19 (by decide +kernel) ?_
  refine sb_aload_n rfl ?_
  refine sb_aload_n rfl ?_
  refine sb_iconst cI0 ?_
  refine sb_iload_n rfl ?_
  refine sb_aload_n rfl ?_
  obtain ⟨qz2, hez1, h⟩ := bd h
  refine sb_callVi 3 rfl oX10_ask ln10_53 vX10_ask (rc_own (hWd0 hw).1 (S_lt (hWd0 hw).2) (by decide)) (rnCk_of (by decide +kernel) rfl) (tfW_ask hw hez1) ?_
  refine sb_callVi 1 rfl oX10_isOpened ln10_57 vX10_isOpened (rc_own (hWd0 hw).1 (S_lt (hWd0 hw).2) (by decide)) (rnCk_of (by decide +kernel) rfl) (tfW_isOpened hw) ?_
  refine sb_istore_n (by decide) rfl ?_
  refine sb_iconst cIm1 ?_
  refine sb_istore (by decide) rfl ?_
  refine sb_iload_n rfl ?_
  obtain ⟨⟨yz10, Mz11⟩, hj40, h⟩ := bd h
  have hJ40 : RN P 5 kX10_bringAt 40 [(0, .ref w), (1, .int x1), (2, .ref 124), (3, .int (fW_isOpened w qz2.1 qz2.2).1), (4, .int yz10)] [] (S Mz11) r := by
    refine sb_in [(40, .aload_n 0, 1), (41, .bipush 99, 2), (43, .aload_n 0, 1), (44, .getfield 69, 3), (47, .aload_n 0, 1), (48, .iconst 2, 1), (49, .iload_n 1, 1), (50, .aload_n 2, 1), (51, .invokevirtual 53, 3), (54, .iadd, 1), (55, .invokestatic 72, 3), (58, .putfield 69, 3), (61, .aload_n 0, 1), (62, .iload_n 3, 1), (63, .ifCond .eq 7, 3)] 66 (by decide +kernel) ?_
    refine sb_aload_n rfl ?_
    refine sb_bipush cB99 ?_
    refine sb_aload_n rfl ?_
    refine ss_getI g10_69 (hWd0 hw) ?_
    refine sb_aload_n rfl ?_
    refine sb_iconst cI2 ?_
    refine sb_iload_n rfl ?_
    refine sb_aload_n rfl ?_
    obtain ⟨qz13, hez12, h⟩ := bd h
    refine sb_callVi 3 rfl oX10_ask ln10_53 vX10_ask (rc_own (hWd0 hw).1 (S_lt (hWd0 hw).2) (by decide)) (rnCk_of (by decide +kernel) rfl) (tfW_ask hw hez12) ?_
    refine sb_iadd ?_
    refine sb_min lm10_72 minS maI minC (by decide) rfl ?_
    refine ss_putI p10_69 (hWd0 hw) (fun q => (nzWd hw) q.1) ?_
    refine sb_aload_n rfl ?_
    refine sb_iload_n rfl ?_
    have hJ71 : RN P 5 kX10_bringAt 71 [(0, .ref w), (1, .int x1), (3, .int (fW_isOpened w qz2.1 qz2.2).1), (4, .int yz10)] [.int (if (fW_isOpened w qz2.1 qz2.2).1 = 0 then (2 : Int32) else 1), .ref w] (S (mput qz13.2 w 9 (jmin 99 ((Mz11 w 9) + qz13.1)))) r := by
      refine sb_in [(71, .aload_n 0, 1), (72, .getfield 21, 3), (75, .getfield 77, 3), (78, .iload_n 1, 1), (79, .iaload, 1), (80, .iload_n 3, 1), (81, .ifCond .eq 8, 3)] 84 (by decide +kernel) ?_
      refine sb_aload_n rfl ?_
      refine ss_getR g10_21 (hWd0 hw) (rWd1 hw) ?_
      refine ss_getR g10_77 (hWd7 hw) (rWd7_2 hw) ?_
      refine sb_iload_n rfl ?_
      obtain ⟨hgz15, h⟩ := gd h
      refine ss_iald (hWd8 hw) hgz15 ?_
      refine sb_iload_n rfl ?_
      obtain ⟨yz17, hj98, h⟩ := bd h
      have hJ98 : RN P 5 kX10_bringAt 98 [(0, .ref w), (1, .int x1), (3, .int (fW_isOpened w qz2.1 qz2.2).1), (4, .int yz10)] [.int yz17, .int ((mput qz13.2 w 9 (jmin 99 ((Mz11 w 9) + qz13.1))) (w + 8) (jix x1)), .int (if (fW_isOpened w qz2.1 qz2.2).1 = 0 then (2 : Int32) else 1), .ref w] (S (mput qz13.2 w 9 (jmin 99 ((Mz11 w 9) + qz13.1)))) r := by
        refine sb_in [(98, .invokevirtual 47, 3), (101, .iload_n 3, 1), (102, .ifCond .eq 11, 3)] 105 (by decide +kernel) ?_
        obtain ⟨Mz19, hez18, h⟩ := bd h
        refine sb_callVv 3 rfl oX10_write ln10_47 vX10_write (rc_own (hWd0 hw).1 (S_lt (hWd0 hw).2) (by decide)) (rnCk_of (by decide +kernel) rfl) (tfW_write hw hez18) ?_
        refine sb_iload_n rfl ?_
        rcases ife h with ⟨cz22, h⟩ | ⟨cz22, h⟩
        · refine sb_if_eq_t 113 cz22 (by decide) ?_
          refine sb_in [(113, .iload 4, 2), (115, .ireturn, 1)] 116 (by decide +kernel) ?_
          refine sb_iload rfl ?_
          cases h
          subst hr
          refine sb_ireturn ?_
          exact ⟨.int, rfl, rfl⟩
        · refine sb_if_eq_f 113 cz22 (by decide) ?_
          refine sb_in [(105, .aload_n 0, 1), (106, .getfield 21, 3), (109, .iload_n 1, 1), (110, .invokevirtual 83, 3)] 113 (by decide +kernel) ?_
          refine sb_aload_n rfl ?_
          refine ss_getR g10_21 (hWd0 hw) (rWd1 hw) ?_
          refine sb_iload_n rfl ?_
          obtain ⟨Mz21, hez20, h⟩ := bd h
          refine sb_callVv 1 rfl oX0_remove ln10_83 vX0_remove (rc_own (hWd7 hw).1 (S_lt (hWd7 hw).2) (by decide)) (rnCk_of (by decide +kernel) rfl) (tfB_remove (Wd_Bg hw) hez20) ?_
          refine sb_end ?_
          refine sb_in [(113, .iload 4, 2), (115, .ireturn, 1)] 116 (by decide +kernel) ?_
          refine sb_iload rfl ?_
          cases h
          subst hr
          refine sb_ireturn ?_
          exact ⟨.int, rfl, rfl⟩
      clear h
      have h := hj98
      clear hj98
      rcases ife h with ⟨cz23, h⟩ | ⟨cz23, h⟩
      · refine sb_if_eq_t 89 cz23 (by decide) ?_
        refine sb_in [(89, .aload_n 0, 1), (90, .getfield 21, 3), (93, .getfield 80, 3), (96, .iload_n 1, 1), (97, .iaload, 1)] 98 (by decide +kernel) ?_
        refine sb_aload_n rfl ?_
        refine ss_getR g10_21 (hWd0 hw) (rWd1 hw) ?_
        refine ss_getR g10_80 (hWd7 hw) (rWd7_3 hw) ?_
        refine sb_iload_n rfl ?_
        obtain ⟨hgz16, h⟩ := gd h
        refine ss_iald (hWd9 hw) hgz16 ?_
        refine sb_end ?_
        cases h
        exact rn_sub [0, 1, 3, 4] rfl hJ98
      · refine sb_if_eq_f 89 cz23 (by decide) ?_
        refine sb_in [(84, .iload 4, 2), (86, .goto 12, 3)] 89 (by decide +kernel) ?_
        refine sb_iload rfl ?_
        refine sb_goto 98 (by decide) ?_
        cases h
        exact rn_sub [0, 1, 3, 4] rfl hJ98
    rcases Decidable.em ((fW_isOpened w qz2.1 qz2.2).1 = 0) with cz24 | cz24
    · refine sb_if_eq_t 70 cz24 (by decide) ?_
      refine sb_in [(70, .iconst 2, 1)] 71 (by decide +kernel) ?_
      refine sb_iconst cI2 ?_
      refine sb_end ?_
      have hq := hJ71
      simp only [if_pos cz24] at hq
      exact rn_sub [0, 1, 3, 4] rfl hq
    · refine sb_if_eq_f 70 cz24 (by decide) ?_
      refine sb_in [(66, .iconst 1, 1), (67, .goto 4, 3)] 70 (by decide +kernel) ?_
      refine sb_iconst cI1 ?_
      refine sb_goto 71 (by decide) ?_
      have hq := hJ71
      simp only [if_neg cz24] at hq
      exact rn_sub [0, 1, 3, 4] rfl hq
  clear h
  have h := hj40
  clear hj40
  rcases ife h with ⟨cz25, h⟩ | ⟨cz25, h⟩
  · refine sb_if_eq_t 40 cz25 (by decide) ?_
    cases h
    exact rn_sub [0, 1, 2, 3, 4] rfl hJ40
  · refine sb_if_eq_f 40 cz25 (by decide) ?_
    refine sb_in [(19, .aload_n 0, 1), (20, .iload_n 1, 1), (21, .aload_n 0, 1), (22, .iconst 1, 1), (23, .iload_n 1, 1), (24, .aload_n 2, 1), (25, .invokevirtual 53, 3), (28, .invokevirtual 61, 3), (31, .istore 4, 2), (33, .aload_n 0, 1), (34, .iload_n 1, 1), (35, .iload 4, 2), (37, .invokevirtual 65, 3)] 40 (by decide +kernel) ?_
    refine sb_aload_n rfl ?_
    refine sb_iload_n rfl ?_
    refine sb_aload_n rfl ?_
    refine sb_iconst cI1 ?_
    refine sb_iload_n rfl ?_
    refine sb_aload_n rfl ?_
    obtain ⟨qz5, hez4, h⟩ := bd h
    refine sb_callVi 3 rfl oX10_ask ln10_53 vX10_ask (rc_own (hWd0 hw).1 (S_lt (hWd0 hw).2) (by decide)) (rnCk_of (by decide +kernel) rfl) (tfW_ask hw hez4) ?_
    obtain ⟨qz7, hez6, h⟩ := bd h
    refine sb_callVi 2 rfl oX10_take ln10_61 vX10_take (rc_own (hWd0 hw).1 (S_lt (hWd0 hw).2) (by decide)) (rnCk_of (by decide +kernel) rfl) (tfW_take hw hez6) ?_
    refine sb_istore (by decide) rfl ?_
    refine sb_aload_n rfl ?_
    refine sb_iload_n rfl ?_
    refine sb_iload rfl ?_
    obtain ⟨Mz9, hez8, h⟩ := bd h
    refine sb_callVv 2 rfl oX10_feel ln10_65 vX10_feel (rc_own (hWd0 hw).1 (S_lt (hWd0 hw).2) (by decide)) (rnCk_of (by decide +kernel) rfl) (tfW_feel hw hez8) ?_
    refine sb_end ?_
    cases h
    exact rn_sub [0, 1, 2, 3, 4] rfl hJ40
theorem tfW_bringAt {P : Px} {w : Nat} (hw : Wd w) {x1 : Int32} {M : Mm} {rr : (Int32 × Mm)} (h : fW_bringAt w x1 M = some rr) : EX P 5 kX10_bringAt [.ref w, .int x1, .ref 124] (S M) (some (.int rr.1), S rr.2) := ex_of oX10_bringAt (Nat.le_of_ble_eq_true rfl) (nfW_bringAt hw h rfl)
set_option maxRecDepth 20000 in
theorem nfK_bring {P : Px} {x1 : Int32} {M : Mm} {rr : (Int32 × Mm)} (h : fK_bring x1 M = some rr) {r : Option Value × Sg} (hr : r = (some (.int rr.1), S rr.2)) : RN P 6 kX11_bring 0 [(0, .ref 0), (1, .int x1)] [] (S M) r := by
  unfold fK_bring at h
  refine sb_in [(0, .aload_n 0, 1), (1, .getfield 16, 3), (4, .getfield 121, 3), (7, .iload_n 1, 1), (8, .invokevirtual 137, 3), (11, .istore_n 2, 1), (12, .iload_n 2, 1), (13, .iconst (-1), 1), (14, .if_icmp .eq 13, 3)] 17 (by decide +kernel) ?_
  refine sb_aload_n rfl ?_
  refine ss_getR g11_16 h0 r0_0 ?_
  refine ss_getR g11_121 h1 r1_1 ?_
  refine sb_iload_n rfl ?_
  obtain ⟨qz2, hez1, h⟩ := bd h
  refine sb_callVi 1 rfl oX0_placeOf ln11_137 vX0_placeOf (rc_own h8.1 (S_lt h8.2) (by decide)) (rnCk_of (by decide +kernel) rfl) (tfB_placeOf lBg8 hez1) ?_
  refine sb_istore_n (by decide) rfl ?_
  refine sb_iload_n rfl ?_
  refine sb_iconst cIm1 ?_
  rcases ife h with ⟨cz7, h⟩ | ⟨cz7, h⟩
  · refine sb_icmp_eq_t 27 cz7 (by decide) ?_
    refine sb_in [(27, .bipush (-2), 2), (29, .ireturn, 1)] 30 (by decide +kernel) ?_
    refine sb_bipush cBm2 ?_
    cases h
    subst hr
    refine sb_ireturn ?_
    exact ⟨.int, rfl, rfl⟩
  · refine sb_icmp_eq_f 27 cz7 (by decide) ?_
    refine sb_in [(17, .aload_n 0, 1), (18, .getfield 16, 3), (21, .getfield 141, 3), (24, .ifCond .ne 6, 3)] 27 (by decide +kernel) ?_
    refine sb_aload_n rfl ?_
    refine ss_getR g11_16 h0 r0_0 ?_
    refine ss_getI g11_141 h1 ?_
    rcases ife h with ⟨cz8, h⟩ | ⟨cz8, h⟩
    · refine sb_if_ne_f 30 cz8 (by decide) ?_
      refine sb_in [(27, .bipush (-2), 2), (29, .ireturn, 1)] 30 (by decide +kernel) ?_
      refine sb_bipush cBm2 ?_
      cases h
      subst hr
      refine sb_ireturn ?_
      exact ⟨.int, rfl, rfl⟩
    · refine sb_if_ne_t 30 cz8 (by decide) ?_
      refine sb_in [(30, .aload_n 0, 1), (31, .getfield 26, 3), (34, .aload_n 0, 1), (35, .getfield 16, 3), (38, .invokevirtual 130, 3), (41, .aload_n 0, 1), (42, .getfield 16, 3), (45, .iload_n 2, 1), (46, .aload_n 0, 1), (47, .getfield 33, 3), (50, .getfield 144, 3), (53, .invokevirtual 148, 3), (56, .ireturn, 1)] 57 (by decide +kernel) ?_
      refine sb_aload_n rfl ?_
      refine ss_getR g11_26 h0 r0_2 ?_
      refine sb_aload_n rfl ?_
      refine ss_getR g11_16 h0 r0_0 ?_
      obtain ⟨Mz4, hez3, h⟩ := bd h
      refine sb_callVv 1 rfl oX4_keep ln11_130 vX4_keep (rc_own h31.1 (S_lt h31.2) (by decide)) (rnCk_of (by decide +kernel) rfl) (tfP_keep hez3) ?_
      refine sb_aload_n rfl ?_
      refine ss_getR g11_16 h0 r0_0 ?_
      refine sb_iload_n rfl ?_
      refine sb_aload_n rfl ?_
      refine ss_getR g11_33 h0 r0_3 ?_
      refine ss_getR g11_144 h123 r123_0 ?_
      obtain ⟨qz6, hez5, h⟩ := bd h
      refine sb_callVi 2 rfl oX10_bringAt ln11_148 vX10_bringAt (rc_own h1.1 (S_lt h1.2) (by decide)) (rnCk_of (by decide +kernel) rfl) (tfW_bringAt lWd1 hez5) ?_
      cases h
      subst hr
      refine sb_ireturn ?_
      exact ⟨.int, rfl, rfl⟩
theorem tfK_bring {P : Px} {x1 : Int32} {M : Mm} {rr : (Int32 × Mm)} (h : fK_bring x1 M = some rr) : EX P 6 kX11_bring [.ref 0, .int x1] (S M) (some (.int rr.1), S rr.2) := ex_of oX11_bring (Nat.le_of_ble_eq_true rfl) (nfK_bring  h rfl)
set_option maxRecDepth 20000 in
theorem nfK_rain {P : Px} {x1 : Int32} {M : Mm} {rr : (Int32 × Mm)} (h : fK_rain x1 M = some rr) {r : Option Value × Sg} (hr : r = (some (.int rr.1), S rr.2)) : RN P 4 kX11_rain 0 [(0, .ref 0), (1, .int x1)] [] (S M) r := by
  unfold fK_rain at h
  refine sb_in [(0, .iload_n 1, 1), (1, .iconst 0, 1), (2, .bipush 9, 2), (4, .invokestatic 91, 3), (7, .ifCond .ne 5, 3)] 10 (by decide +kernel) ?_
  refine sb_iload_n rfl ?_
  refine sb_iconst cI0 ?_
  refine sb_bipush cB9 ?_
  refine sb_callSi 3 rfl oX11_isWithin ln11_91 vX11_isWithin (rnCk_of (by decide +kernel) rfl) (tfK_isWithin) ?_
  rcases ife h with ⟨cz5, h⟩ | ⟨cz5, h⟩
  · refine sb_if_ne_f 12 cz5 (by decide) ?_
    refine sb_in [(10, .iconst 0, 1), (11, .ireturn, 1)] 12 (by decide +kernel) ?_
    refine sb_iconst cI0 ?_
    cases h
    subst hr
    refine sb_ireturn ?_
    exact ⟨.boolean, rfl, by decide⟩
  · refine sb_if_ne_t 12 cz5 (by decide) ?_
    refine sb_in [(12, .aload_n 0, 1), (13, .getfield 26, 3), (16, .aload_n 0, 1), (17, .getfield 16, 3), (20, .invokevirtual 130, 3), (23, .aload_n 0, 1), (24, .getfield 16, 3), (27, .iload_n 1, 1), (28, .putfield 152, 3), (31, .iconst 1, 1), (32, .ireturn, 1)] 33 (by decide +kernel) ?_
    refine sb_aload_n rfl ?_
    refine ss_getR g11_26 h0 r0_2 ?_
    refine sb_aload_n rfl ?_
    refine ss_getR g11_16 h0 r0_0 ?_
    obtain ⟨Mz3, hez2, h⟩ := bd h
    refine sb_callVv 1 rfl oX4_keep ln11_130 vX4_keep (rc_own h31.1 (S_lt h31.2) (by decide)) (rnCk_of (by decide +kernel) rfl) (tfP_keep hez2) ?_
    refine sb_aload_n rfl ?_
    refine ss_getR g11_16 h0 r0_0 ?_
    refine sb_iload_n rfl ?_
    refine ss_putI p11_152 h1 (by decide) ?_
    refine sb_iconst cI1 ?_
    cases h
    subst hr
    refine sb_ireturn ?_
    exact ⟨.boolean, rfl, by decide⟩
theorem tfK_rain {P : Px} {x1 : Int32} {M : Mm} {rr : (Int32 × Mm)} (h : fK_rain x1 M = some rr) : EX P 4 kX11_rain [.ref 0, .int x1] (S M) (some (.int rr.1), S rr.2) := ex_of oX11_rain (Nat.le_of_ble_eq_true rfl) (nfK_rain  h rfl)
set_option maxRecDepth 20000 in
theorem nfW_takePost {P : Px} {w : Nat} (hw : Wd w) {M : Mm} {rr : Mm} (h : fW_takePost w M = some rr) {r : Option Value × Sg} (hr : r = (none, S rr)) : RN P 3 kX10_takePost 0 [(0, .ref w), (1, .ref 123)] [] (S M) r := by
  unfold fW_takePost at h
  refine sb_in [(0, .iconst 0, 1), (1, .istore_n 2, 1)] 2 (by decide +kernel) ?_
  refine sb_iconst cI0 ?_
  refine sb_istore_n (by decide) rfl ?_
  refine sb_end ?_
  obtain ⟨e2, hl2, h⟩ := bd h
  refine rn_sub [0, 1, 2] rfl ?_
  refine lp_ind (P := fun s => RN P 3 kX10_takePost 2 [(0, .ref w), (1, .ref 123), (2, .int s.1)] [] (S s.2) r) (E := fun p => RN P 3 kX10_takePost 52 [] [] (S p) r) ?_ _ _ _ hl2 ?_
  · intro s qx h hc
    obtain ⟨x2, M⟩ := s
    replace h : fW_takePost_b2 w x2 M = some qx := h
    show RN P 3 kX10_takePost 2 [(0, .ref w), (1, .ref 123), (2, .int x2)] [] (S M) r
    unfold fW_takePost_b2 at h
    refine sb_in [(2, .iload_n 2, 1), (3, .aload_n 1, 1), (4, .getfield 175, 3), (7, .if_icmp .ge 45, 3)] 10 (by decide +kernel) ?_
    refine sb_iload_n rfl ?_
    refine sb_aload_n rfl ?_
    refine ss_getI g10_175 h123 ?_
    rcases ife h with ⟨cz9, h⟩ | ⟨cz9, h⟩
    · refine sb_icmp_ge_t 52 cz9 (by decide) ?_
      cases h
      exact rn_sub [] rfl hc
    · refine sb_icmp_ge_f 52 cz9 (by decide) ?_
      refine sb_in [(10, .aload_n 1, 1), (11, .getfield 178, 3), (14, .iload_n 2, 1), (15, .iaload, 1), (16, .aload_n 0, 1), (17, .getfield 114, 3), (20, .if_icmp .ne 26, 3)] 23 (by decide +kernel) ?_
      refine sb_aload_n rfl ?_
      refine ss_getR g10_178 h123 r123_2 ?_
      refine sb_iload_n rfl ?_
      obtain ⟨hgz1, h⟩ := gd h
      refine ss_iald h132 hgz1 ?_
      refine sb_aload_n rfl ?_
      refine ss_getI g10_114 (hWd0 hw) ?_
      obtain ⟨Mz7, hj46, h⟩ := bd h
      have hJ46 : RN P 3 kX10_takePost 46 [(0, .ref w), (1, .ref 123), (2, .int x2)] [] (S Mz7) r := by
        refine sb_in [(46, .iinc 2 1, 3), (49, .goto (-47), 3)] 52 (by decide +kernel) ?_
        refine ss_iinc cI1 rfl (by decide) rfl ?_
        refine sb_goto 2 (by decide) ?_
        cases h
        exact rn_sub [0, 1, 2] rfl hc
      clear h
      have h := hj46
      clear hj46
      rcases ife h with ⟨cz10, h⟩ | ⟨cz10, h⟩
      · refine sb_icmp_ne_f 46 cz10 (by decide) ?_
        refine sb_in [(23, .aload_n 0, 1), (24, .aload_n 1, 1), (25, .getfield 181, 3), (28, .iload_n 2, 1), (29, .iaload, 1), (30, .aload_n 1, 1), (31, .getfield 184, 3), (34, .iload_n 2, 1), (35, .iaload, 1), (36, .aload_n 1, 1), (37, .getfield 187, 3), (40, .iload_n 2, 1), (41, .iaload, 1), (42, .invokevirtual 190, 3), (45, .pop, 1)] 46 (by decide +kernel) ?_
        refine sb_aload_n rfl ?_
        refine sb_aload_n rfl ?_
        refine ss_getR g10_181 h123 r123_3 ?_
        refine sb_iload_n rfl ?_
        obtain ⟨hgz2, h⟩ := gd h
        refine ss_iald h133 hgz2 ?_
        refine sb_aload_n rfl ?_
        refine ss_getR g10_184 h123 r123_4 ?_
        refine sb_iload_n rfl ?_
        obtain ⟨hgz3, h⟩ := gd h
        refine ss_iald h134 hgz3 ?_
        refine sb_aload_n rfl ?_
        refine ss_getR g10_187 h123 r123_5 ?_
        refine sb_iload_n rfl ?_
        obtain ⟨hgz4, h⟩ := gd h
        refine ss_iald h135 hgz4 ?_
        obtain ⟨qz6, hez5, h⟩ := bd h
        refine sb_callVi 3 rfl oX10_arrive ln10_190 vX10_arrive (rc_own (hWd0 hw).1 (S_lt (hWd0 hw).2) (by decide)) (rnCk_of (by decide +kernel) rfl) (tfW_arrive hw hez5) ?_
        refine sb_pop rfl ?_
        refine sb_end ?_
        cases h
        exact rn_sub [0, 1, 2] rfl hJ46
      · refine sb_icmp_ne_t 46 cz10 (by decide) ?_
        cases h
        exact rn_sub [0, 1, 2] rfl hJ46
  · clear hl2
    obtain ⟨Mz8, hey⟩ : ∃ z, z = e2 := ⟨_, rfl⟩
    subst hey
    show RN P 3 kX10_takePost 52 [] [] (S Mz8) r
    refine sb_in [(52, .return_, 1)] 53 (by decide +kernel) ?_
    cases h
    subst hr
    refine sb_return ?_
    exact rfl
theorem tfW_takePost {P : Px} {w : Nat} (hw : Wd w) {M : Mm} {rr : Mm} (h : fW_takePost w M = some rr) : EX P 3 kX10_takePost [.ref w, .ref 123] (S M) (none, S rr) := ex_of oX10_takePost (Nat.le_of_ble_eq_true rfl) (nfW_takePost hw h rfl)
end RnT
