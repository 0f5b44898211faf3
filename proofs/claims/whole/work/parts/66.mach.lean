section RnT
set_option maxRecDepth 20000 in
theorem nfM_readPostLine {P : Px} {x1 : Int32} {M : Mm} {rr : (Int32 × Mm)} (h : fM_readPostLine x1 M = some rr) {r : Option Value × Sg} (hr : r = (some (.int rr.1), S rr.2)) : RN P 6 kX12_readPostLine 0 [(0, .ref 217), (1, .int x1)] [] (S M) r := by
  unfold fM_readPostLine at h
  refine sb_in [(0, .aload_n 0, 1), (1, .getfield 59, 3), (4, .iload_n 1, 1), (5, .aload_n 0, 1), (6, .bipush 18, 2), (8, .iconst 0, 1), (9, .sipush 999, 3), (12, .invokevirtual 258, 3), (15, .iastore, 1), (16, .aload_n 0, 1), (17, .getfield 59, 3), (20, .iload_n 1, 1), (21, .iaload, 1), (22, .iconst (-1), 1), (23, .if_icmp .ne 5, 3)] 26 (by decide +kernel) ?_
  refine sb_aload_n rfl ?_
  refine ss_getR g12_59 h217 r217_33 ?_
  refine sb_iload_n rfl ?_
  refine sb_aload_n rfl ?_
  refine sb_bipush cB18 ?_
  refine sb_iconst cI0 ?_
  refine sb_sipush cS999 ?_
  obtain ⟨qz2, hez1, h⟩ := bd h
  refine sb_callVi 3 rfl oX12_readTold ln12_258 vX12_readTold (rc_own h217.1 (S_lt h217.2) (by decide)) (rnCk_of (by decide +kernel) rfl) (tfM_readTold hez1) ?_
  obtain ⟨hgz4, h⟩ := gd h
  refine ss_iast h233 (by decide) hgz4 ?_
  refine sb_aload_n rfl ?_
  refine ss_getR g12_59 h217 r217_33 ?_
  refine sb_iload_n rfl ?_
  obtain ⟨hgz5, h⟩ := gd h
  refine ss_iald h233 hgz5 ?_
  refine sb_iconst cIm1 ?_
  rcases ife h with ⟨cz25, h⟩ | ⟨cz25, h⟩
  · refine sb_icmp_ne_f 28 cz25 (by decide) ?_
    refine sb_in [(26, .iconst (-1), 1), (27, .ireturn, 1)] 28 (by decide +kernel) ?_
    refine sb_iconst cIm1 ?_
    cases h
    subst hr
    refine sb_ireturn ?_
    exact ⟨.int, rfl, rfl⟩
  · refine sb_icmp_ne_t 28 cz25 (by decide) ?_
    refine sb_in [(28, .aload_n 0, 1), (29, .getfield 59, 3), (32, .iload_n 1, 1), (33, .iconst 1, 1), (34, .iadd, 1), (35, .aload_n 0, 1), (36, .bipush 19, 2), (38, .iconst 0, 1), (39, .aload_n 0, 1), (40, .getfield 129, 3), (43, .iconst 1, 1), (44, .isub, 1), (45, .invokevirtual 258, 3), (48, .iastore, 1), (49, .aload_n 0, 1), (50, .getfield 59, 3), (53, .iload_n 1, 1), (54, .iconst 1, 1), (55, .iadd, 1), (56, .iaload, 1), (57, .iconst (-1), 1), (58, .if_icmp .ne 5, 3)] 61 (by decide +kernel) ?_
    refine sb_aload_n rfl ?_
    refine ss_getR g12_59 h217 r217_33 ?_
    refine sb_iload_n rfl ?_
    refine sb_iconst cI1 ?_
    refine sb_iadd ?_
    refine sb_aload_n rfl ?_
    refine sb_bipush cB19 ?_
    refine sb_iconst cI0 ?_
    refine sb_aload_n rfl ?_
    refine ss_getI g12_129 h217 ?_
    refine sb_iconst cI1 ?_
    refine sb_isub ?_
    obtain ⟨qz7, hez6, h⟩ := bd h
    refine sb_callVi 3 rfl oX12_readTold ln12_258 vX12_readTold (rc_own h217.1 (S_lt h217.2) (by decide)) (rnCk_of (by decide +kernel) rfl) (tfM_readTold hez6) ?_
    obtain ⟨hgz9, h⟩ := gd h
    refine ss_iast h233 (by decide) hgz9 ?_
    refine sb_aload_n rfl ?_
    refine ss_getR g12_59 h217 r217_33 ?_
    refine sb_iload_n rfl ?_
    refine sb_iconst cI1 ?_
    refine sb_iadd ?_
    obtain ⟨hgz10, h⟩ := gd h
    refine ss_iald h233 hgz10 ?_
    refine sb_iconst cIm1 ?_
    rcases ife h with ⟨cz26, h⟩ | ⟨cz26, h⟩
    · refine sb_icmp_ne_f 63 cz26 (by decide) ?_
      refine sb_in [(61, .iconst (-1), 1), (62, .ireturn, 1)] 63 (by decide +kernel) ?_
      refine sb_iconst cIm1 ?_
      cases h
      subst hr
      refine sb_ireturn ?_
      exact ⟨.int, rfl, rfl⟩
    · refine sb_icmp_ne_t 63 cz26 (by decide) ?_
      refine sb_in [(63, .aload_n 0, 1), (64, .getfield 173, 3), (67, .iconst 2, 1), (68, .if_icmp .ne 18, 3)] 71 (by decide +kernel) ?_
      refine sb_aload_n rfl ?_
      refine ss_getI g12_173 h217 ?_
      refine sb_iconst cI2 ?_
      rcases ife h with ⟨cz27, h⟩ | ⟨cz27, h⟩
      · refine sb_icmp_ne_f 86 cz27 (by decide) ?_
        refine sb_in [(71, .aload_n 0, 1), (72, .aload_n 0, 1), (73, .getfield 176, 3), (76, .bipush 22, 2), (78, .bipush 28, 2), (80, .invokevirtual 143, 3), (83, .ifCond .ne 9, 3)] 86 (by decide +kernel) ?_
        refine sb_aload_n rfl ?_
        refine sb_aload_n rfl ?_
        refine ss_getI g12_176 h217 ?_
        refine sb_bipush cB22 ?_
        refine sb_bipush cB28 ?_
        refine sb_callVi 3 rfl oX12_isIn ln12_143 vX12_isIn (rc_own h217.1 (S_lt h217.2) (by decide)) (rnCk_of (by decide +kernel) rfl) (tfM_isIn) ?_
        rcases ife h with ⟨cz28, h⟩ | ⟨cz28, h⟩
        · refine sb_if_ne_f 92 cz28 (by decide) ?_
          refine sb_in [(86, .aload_n 0, 1), (87, .iconst 1, 1), (88, .invokevirtual 204, 3), (91, .ireturn, 1)] 92 (by decide +kernel) ?_
          refine sb_aload_n rfl ?_
          refine sb_iconst cI1 ?_
          refine sb_callVi 1 rfl oX12_errs ln12_204 vX12_errs (rc_own h217.1 (S_lt h217.2) (by decide)) (rnCk_of (by decide +kernel) rfl) (tfM_errs) ?_
          cases h
          subst hr
          refine sb_ireturn ?_
          exact ⟨.int, rfl, rfl⟩
        · refine sb_if_ne_t 92 cz28 (by decide) ?_
          refine sb_in [(92, .aload_n 0, 1), (93, .getfield 59, 3), (96, .iload_n 1, 1), (97, .iconst 2, 1), (98, .iadd, 1), (99, .aload_n 0, 1), (100, .getfield 176, 3), (103, .bipush 22, 2), (105, .isub, 1), (106, .iastore, 1), (107, .aload_n 0, 1), (108, .invokevirtual 211, 3), (111, .aload_n 0, 1), (112, .getfield 59, 3), (115, .iload_n 1, 1), (116, .iconst 3, 1), (117, .iadd, 1), (118, .aload_n 0, 1), (119, .iconst 1, 1), (120, .bipush 99, 2), (122, .invokevirtual 255, 3), (125, .iastore, 1), (126, .aload_n 0, 1), (127, .getfield 59, 3), (130, .iload_n 1, 1), (131, .iconst 3, 1), (132, .iadd, 1), (133, .iaload, 1), (134, .iconst (-1), 1), (135, .if_icmp .ne 7, 3)] 138 (by decide +kernel) ?_
          refine sb_aload_n rfl ?_
          refine ss_getR g12_59 h217 r217_33 ?_
          refine sb_iload_n rfl ?_
          refine sb_iconst cI2 ?_
          refine sb_iadd ?_
          refine sb_aload_n rfl ?_
          refine ss_getI g12_176 h217 ?_
          refine sb_bipush cB22 ?_
          refine sb_isub ?_
          obtain ⟨hgz14, h⟩ := gd h
          refine ss_iast h233 (by decide) hgz14 ?_
          refine sb_aload_n rfl ?_
          obtain ⟨Mz16, hez15, h⟩ := bd h
          refine sb_callVv 0 rfl oX12_reads ln12_211 vX12_reads (rc_own h217.1 (S_lt h217.2) (by decide)) (rnCk_of (by decide +kernel) rfl) (tfM_reads hez15) ?_
          refine sb_aload_n rfl ?_
          refine ss_getR g12_59 h217 r217_33 ?_
          refine sb_iload_n rfl ?_
          refine sb_iconst cI3 ?_
          refine sb_iadd ?_
          refine sb_aload_n rfl ?_
          refine sb_iconst cI1 ?_
          refine sb_bipush cB99 ?_
          obtain ⟨qz18, hez17, h⟩ := bd h
          refine sb_callVi 2 rfl oX12_readNumber ln12_255 vX12_readNumber (rc_own h217.1 (S_lt h217.2) (by decide)) (rnCk_of (by decide +kernel) rfl) (tfM_readNumber hez17) ?_
          obtain ⟨hgz20, h⟩ := gd h
          refine ss_iast h233 (by decide) hgz20 ?_
          refine sb_aload_n rfl ?_
          refine ss_getR g12_59 h217 r217_33 ?_
          refine sb_iload_n rfl ?_
          refine sb_iconst cI3 ?_
          refine sb_iadd ?_
          obtain ⟨hgz21, h⟩ := gd h
          refine ss_iald h233 hgz21 ?_
          refine sb_iconst cIm1 ?_
          rcases ife h with ⟨cz29, h⟩ | ⟨cz29, h⟩
          · refine sb_icmp_ne_f 142 cz29 (by decide) ?_
            refine sb_in [(138, .iconst (-1), 1), (139, .goto 9, 3)] 142 (by decide +kernel) ?_
            refine sb_iconst cIm1 ?_
            refine sb_goto 148 (by decide) ?_
            refine sb_in [(148, .ireturn, 1)] 149 (by decide +kernel) ?_
            cases h
            subst hr
            refine sb_ireturn ?_
            exact ⟨.int, rfl, rfl⟩
          · refine sb_icmp_ne_t 142 cz29 (by decide) ?_
            refine sb_in [(142, .aload_n 0, 1), (143, .bipush 59, 2), (145, .invokevirtual 261, 3)] 148 (by decide +kernel) ?_
            refine sb_aload_n rfl ?_
            refine sb_bipush cB59 ?_
            obtain ⟨qz23, hez22, h⟩ := bd h
            refine sb_callVi 1 rfl oX12_readMark ln12_261 vX12_readMark (rc_own h217.1 (S_lt h217.2) (by decide)) (rnCk_of (by decide +kernel) rfl) (tfM_readMark hez22) ?_
            refine sb_end ?_
            refine sb_in [(148, .ireturn, 1)] 149 (by decide +kernel) ?_
            cases h
            subst hr
            refine sb_ireturn ?_
            exact ⟨.int, rfl, rfl⟩
      · refine sb_icmp_ne_t 86 cz27 (by decide) ?_
        refine sb_in [(86, .aload_n 0, 1), (87, .iconst 1, 1), (88, .invokevirtual 204, 3), (91, .ireturn, 1)] 92 (by decide +kernel) ?_
        refine sb_aload_n rfl ?_
        refine sb_iconst cI1 ?_
        refine sb_callVi 1 rfl oX12_errs ln12_204 vX12_errs (rc_own h217.1 (S_lt h217.2) (by decide)) (rnCk_of (by decide +kernel) rfl) (tfM_errs) ?_
        cases h
        subst hr
        refine sb_ireturn ?_
        exact ⟨.int, rfl, rfl⟩
theorem tfM_readPostLine {P : Px} {x1 : Int32} {M : Mm} {rr : (Int32 × Mm)} (h : fM_readPostLine x1 M = some rr) : EX P 6 kX12_readPostLine [.ref 217, .int x1] (S M) (some (.int rr.1), S rr.2) := ex_of oX12_readPostLine (Nat.le_of_ble_eq_true rfl) (nfM_readPostLine  h rfl)
set_option maxRecDepth 20000 in
theorem nfM_readPost {P : Px} {M : Mm} {rr : (Int32 × Mm)} (h : fM_readPost M = some rr) {r : Option Value × Sg} (hr : r = (some (.int rr.1), S rr.2)) : RN P 7 kX12_readPost 0 [(0, .ref 217)] [] (S M) r := by
  unfold fM_readPost at h
  refine sb_in [(0, .iconst 0, 1), (1, .istore_n 1, 1)] 2 (by decide +kernel) ?_
  refine sb_iconst cI0 ?_
  refine sb_istore_n (by decide) rfl ?_
  refine sb_end ?_
  obtain ⟨e2, hl2, h⟩ := bd h
  refine rn_sub [0, 1] rfl ?_
  refine lp_ind (P := fun s => RN P 7 kX12_readPost 2 [(0, .ref 217), (1, .int s.1)] [] (S s.2) r) (E := fun e => match e with | Sum.inl p => RN P 7 kX12_readPost 17 [(0, .ref 217)] [] (S p) r | Sum.inr (Sum.inl p) => RN P 7 kX12_readPost 37 [] [] (S p) r | Sum.inr (Sum.inr p) => RN P 7 kX12_readPost 46 [(0, .ref 217), (1, .int p.1)] [] (S p.2) r) ?_ _ _ _ hl2 ?_
  · intro s qx h hc
    obtain ⟨x1, M⟩ := s
    replace h : fM_readPost_b2 x1 M = some qx := h
    show RN P 7 kX12_readPost 2 [(0, .ref 217), (1, .int x1)] [] (S M) r
    unfold fM_readPost_b2 at h
    refine sb_in [(2, .aload_n 0, 1), (3, .bipush 18, 2), (5, .invokevirtual 233, 3), (8, .ifCond .eq 38, 3)] 11 (by decide +kernel) ?_
    refine sb_aload_n rfl ?_
    refine sb_bipush cB18 ?_
    refine sb_callVi 1 rfl oX12_isWord ln12_233 vX12_isWord (rc_own h217.1 (S_lt h217.2) (by decide)) (rnCk_of (by decide +kernel) rfl) (tfM_isWord) ?_
    rcases ife h with ⟨cz11, h⟩ | ⟨cz11, h⟩
    · refine sb_if_eq_t 46 cz11 (by decide) ?_
      cases h
      exact rn_sub [0, 1] rfl hc
    · refine sb_if_eq_f 46 cz11 (by decide) ?_
      refine sb_in [(11, .iload_n 1, 1), (12, .bipush 16, 2), (14, .if_icmp .ne 9, 3)] 17 (by decide +kernel) ?_
      refine sb_iload_n rfl ?_
      refine sb_bipush cB16 ?_
      rcases ife h with ⟨cz12, h⟩ | ⟨cz12, h⟩
      · refine sb_icmp_ne_f 23 cz12 (by decide) ?_
        cases h
        exact rn_sub [0] rfl hc
      · refine sb_icmp_ne_t 23 cz12 (by decide) ?_
        refine sb_in [(23, .aload_n 0, 1), (24, .bipush 64, 2), (26, .iconst 4, 1), (27, .iload_n 1, 1), (28, .imul, 1), (29, .iadd, 1), (30, .invokevirtual 264, 3), (33, .iconst (-1), 1), (34, .if_icmp .ne 5, 3)] 37 (by decide +kernel) ?_
        refine sb_aload_n rfl ?_
        refine sb_bipush cB64 ?_
        refine sb_iconst cI4 ?_
        refine sb_iload_n rfl ?_
        refine sb_imul ?_
        refine sb_iadd ?_
        obtain ⟨qz3, hez2, h⟩ := bd h
        refine sb_callVi 1 rfl oX12_readPostLine ln12_264 vX12_readPostLine (rc_own h217.1 (S_lt h217.2) (by decide)) (rnCk_of (by decide +kernel) rfl) (tfM_readPostLine hez2) ?_
        refine sb_iconst cIm1 ?_
        rcases ife h with ⟨cz13, h⟩ | ⟨cz13, h⟩
        · refine sb_icmp_ne_f 39 cz13 (by decide) ?_
          cases h
          exact rn_sub [] rfl hc
        · refine sb_icmp_ne_t 39 cz13 (by decide) ?_
          refine sb_in [(39, .iload_n 1, 1), (40, .iconst 1, 1), (41, .iadd, 1), (42, .istore_n 1, 1), (43, .goto (-41), 3)] 46 (by decide +kernel) ?_
          refine sb_iload_n rfl ?_
          refine sb_iconst cI1 ?_
          refine sb_iadd ?_
          refine sb_istore_n (by decide) rfl ?_
          refine sb_goto 2 (by decide) ?_
          cases h
          exact rn_sub [0, 1] rfl hc
  · clear hl2
    rcases e2 with e2 | e2 | e2
    · skip
      obtain ⟨Mz5, hey⟩ : ∃ z, z = e2 := ⟨_, rfl⟩
      subst hey
      show RN P 7 kX12_readPost 17 [(0, .ref 217)] [] (S Mz5) r
      refine sb_in [(17, .aload_n 0, 1), (18, .iconst 3, 1), (19, .invokevirtual 204, 3), (22, .ireturn, 1)] 23 (by decide +kernel) ?_
      refine sb_aload_n rfl ?_
      refine sb_iconst cI3 ?_
      refine sb_callVi 1 rfl oX12_errs ln12_204 vX12_errs (rc_own h217.1 (S_lt h217.2) (by decide)) (rnCk_of (by decide +kernel) rfl) (tfM_errs) ?_
      cases h
      subst hr
      refine sb_ireturn ?_
      exact ⟨.int, rfl, rfl⟩
    · skip
      obtain ⟨Mz7, hey⟩ : ∃ z, z = e2 := ⟨_, rfl⟩
      subst hey
      show RN P 7 kX12_readPost 37 [] [] (S Mz7) r
      refine sb_in [(37, .iconst (-1), 1), (38, .ireturn, 1)] 39 (by decide +kernel) ?_
      refine sb_iconst cIm1 ?_
      cases h
      subst hr
      refine sb_ireturn ?_
      exact ⟨.int, rfl, rfl⟩
    · skip
      obtain ⟨yz8, Mz9⟩ := e2
      show RN P 7 kX12_readPost 46 [(0, .ref 217), (1, .int yz8)] [] (S Mz9) r
      refine sb_in [(46, .aload_n 0, 1), (47, .getfield 173, 3), (50, .ifCond .ne 7, 3)] 53 (by decide +kernel) ?_
      refine sb_aload_n rfl ?_
      refine ss_getI g12_173 h217 ?_
      rcases ife h with ⟨cz14, h⟩ | ⟨cz14, h⟩
      · refine sb_if_ne_f 57 cz14 (by decide) ?_
        refine sb_in [(53, .iload_n 1, 1), (54, .goto 8, 3)] 57 (by decide +kernel) ?_
        refine sb_iload_n rfl ?_
        refine sb_goto 62 (by decide) ?_
        refine sb_in [(62, .ireturn, 1)] 63 (by decide +kernel) ?_
        cases h
        subst hr
        refine sb_ireturn ?_
        exact ⟨.int, rfl, rfl⟩
      · refine sb_if_ne_t 57 cz14 (by decide) ?_
        refine sb_in [(57, .aload_n 0, 1), (58, .iconst 1, 1), (59, .invokevirtual 204, 3)] 62 (by decide +kernel) ?_
        refine sb_aload_n rfl ?_
        refine sb_iconst cI1 ?_
        refine sb_callVi 1 rfl oX12_errs ln12_204 vX12_errs (rc_own h217.1 (S_lt h217.2) (by decide)) (rnCk_of (by decide +kernel) rfl) (tfM_errs) ?_
        refine sb_end ?_
        refine sb_in [(62, .ireturn, 1)] 63 (by decide +kernel) ?_
        cases h
        subst hr
        refine sb_ireturn ?_
        exact ⟨.int, rfl, rfl⟩
theorem tfM_readPost {P : Px} {M : Mm} {rr : (Int32 × Mm)} (h : fM_readPost M = some rr) : EX P 7 kX12_readPost [.ref 217] (S M) (some (.int rr.1), S rr.2) := ex_of oX12_readPost (Nat.le_of_ble_eq_true rfl) (nfM_readPost  h rfl)
set_option maxRecDepth 20000 in
theorem nfM_readRound {P : Px} {M : Mm} {rr : (Int32 × Mm)} (h : fM_readRound M = some rr) {r : Option Value × Sg} (hr : r = (some (.int rr.1), S rr.2)) : RN P 6 kX12_readRound 0 [(0, .ref 217)] [] (S M) r := by
  unfold fM_readRound at h
  refine sb_in [(0, .iconst 0, 1), (1, .istore_n 1, 1)] 2 (by decide +kernel) ?_
  refine sb_iconst cI0 ?_
  refine sb_istore_n (by decide) rfl ?_
  refine sb_end ?_
  obtain ⟨e2, hl2, h⟩ := bd h
  refine rn_sub [0, 1] rfl ?_
  refine lp_ind (P := fun s => RN P 6 kX12_readRound 2 [(0, .ref 217), (1, .int s.1)] [] (S s.2) r) (E := fun e => match e with | Sum.inl p => RN P 6 kX12_readRound 17 [(0, .ref 217)] [] (S p) r | Sum.inr (Sum.inl p) => RN P 6 kX12_readRound 68 [] [] (S p) r | Sum.inr (Sum.inr p) => RN P 6 kX12_readRound 77 [(0, .ref 217), (1, .int p.1)] [] (S p.2) r) ?_ _ _ _ hl2 ?_
  · intro s qx h hc
    obtain ⟨x1, M⟩ := s
    replace h : fM_readRound_b2 x1 M = some qx := h
    show RN P 6 kX12_readRound 2 [(0, .ref 217), (1, .int x1)] [] (S M) r
    unfold fM_readRound_b2 at h
    refine sb_in [(2, .aload_n 0, 1), (3, .bipush 20, 2), (5, .invokevirtual 233, 3), (8, .ifCond .eq 69, 3)] 11 (by decide +kernel) ?_
    refine sb_aload_n rfl ?_
    refine sb_bipush cB20 ?_
    refine sb_callVi 1 rfl oX12_isWord ln12_233 vX12_isWord (rc_own h217.1 (S_lt h217.2) (by decide)) (rnCk_of (by decide +kernel) rfl) (tfM_isWord) ?_
    rcases ife h with ⟨cz16, h⟩ | ⟨cz16, h⟩
    · refine sb_if_eq_t 77 cz16 (by decide) ?_
      cases h
      exact rn_sub [0, 1] rfl hc
    · refine sb_if_eq_f 77 cz16 (by decide) ?_
      refine sb_in [(11, .iload_n 1, 1), (12, .bipush 16, 2), (14, .if_icmp .ne 9, 3)] 17 (by decide +kernel) ?_
      refine sb_iload_n rfl ?_
      refine sb_bipush cB16 ?_
      rcases ife h with ⟨cz17, h⟩ | ⟨cz17, h⟩
      · refine sb_icmp_ne_f 23 cz17 (by decide) ?_
        cases h
        exact rn_sub [0] rfl hc
      · refine sb_icmp_ne_t 23 cz17 (by decide) ?_
        refine sb_in [(23, .aload_n 0, 1), (24, .getfield 62, 3), (27, .bipush 16, 2), (29, .iload_n 1, 1), (30, .iadd, 1), (31, .aload_n 0, 1), (32, .bipush 20, 2), (34, .iconst 0, 1), (35, .aload_n 0, 1), (36, .getfield 129, 3), (39, .iconst 1, 1), (40, .isub, 1), (41, .invokevirtual 258, 3), (44, .iastore, 1), (45, .aload_n 0, 1), (46, .getfield 62, 3), (49, .bipush 16, 2), (51, .iload_n 1, 1), (52, .iadd, 1), (53, .iaload, 1), (54, .iconst (-1), 1), (55, .if_icmp .eq 13, 3)] 58 (by decide +kernel) ?_
        refine sb_aload_n rfl ?_
        refine ss_getR g12_62 h217 r217_35 ?_
        refine sb_bipush cB16 ?_
        refine sb_iload_n rfl ?_
        refine sb_iadd ?_
        refine sb_aload_n rfl ?_
        refine sb_bipush cB20 ?_
        refine sb_iconst cI0 ?_
        refine sb_aload_n rfl ?_
        refine ss_getI g12_129 h217 ?_
        refine sb_iconst cI1 ?_
        refine sb_isub ?_
        obtain ⟨qz3, hez2, h⟩ := bd h
        refine sb_callVi 3 rfl oX12_readTold ln12_258 vX12_readTold (rc_own h217.1 (S_lt h217.2) (by decide)) (rnCk_of (by decide +kernel) rfl) (tfM_readTold hez2) ?_
        obtain ⟨hgz5, h⟩ := gd h
        refine ss_iast h234 (by decide) hgz5 ?_
        refine sb_aload_n rfl ?_
        refine ss_getR g12_62 h217 r217_35 ?_
        refine sb_bipush cB16 ?_
        refine sb_iload_n rfl ?_
        refine sb_iadd ?_
        obtain ⟨hgz6, h⟩ := gd h
        refine ss_iald h234 hgz6 ?_
        refine sb_iconst cIm1 ?_
        rcases ife h with ⟨cz18, h⟩ | ⟨cz18, h⟩
        · refine sb_icmp_eq_t 68 cz18 (by decide) ?_
          cases h
          exact rn_sub [] rfl hc
        · refine sb_icmp_eq_f 68 cz18 (by decide) ?_
          refine sb_in [(58, .aload_n 0, 1), (59, .bipush 59, 2), (61, .invokevirtual 261, 3), (64, .iconst (-1), 1), (65, .if_icmp .ne 5, 3)] 68 (by decide +kernel) ?_
          refine sb_aload_n rfl ?_
          refine sb_bipush cB59 ?_
          obtain ⟨qz8, hez7, h⟩ := bd h
          refine sb_callVi 1 rfl oX12_readMark ln12_261 vX12_readMark (rc_own h217.1 (S_lt h217.2) (by decide)) (rnCk_of (by decide +kernel) rfl) (tfM_readMark hez7) ?_
          refine sb_iconst cIm1 ?_
          rcases ife h with ⟨cz19, h⟩ | ⟨cz19, h⟩
          · refine sb_icmp_ne_f 70 cz19 (by decide) ?_
            cases h
            exact rn_sub [] rfl hc
          · refine sb_icmp_ne_t 70 cz19 (by decide) ?_
            refine sb_in [(70, .iload_n 1, 1), (71, .iconst 1, 1), (72, .iadd, 1), (73, .istore_n 1, 1), (74, .goto (-72), 3)] 77 (by decide +kernel) ?_
            refine sb_iload_n rfl ?_
            refine sb_iconst cI1 ?_
            refine sb_iadd ?_
            refine sb_istore_n (by decide) rfl ?_
            refine sb_goto 2 (by decide) ?_
            cases h
            exact rn_sub [0, 1] rfl hc
  · clear hl2
    rcases e2 with e2 | e2 | e2
    · skip
      obtain ⟨Mz10, hey⟩ : ∃ z, z = e2 := ⟨_, rfl⟩
      subst hey
      show RN P 6 kX12_readRound 17 [(0, .ref 217)] [] (S Mz10) r
      refine sb_in [(17, .aload_n 0, 1), (18, .iconst 3, 1), (19, .invokevirtual 204, 3), (22, .ireturn, 1)] 23 (by decide +kernel) ?_
      refine sb_aload_n rfl ?_
      refine sb_iconst cI3 ?_
      refine sb_callVi 1 rfl oX12_errs ln12_204 vX12_errs (rc_own h217.1 (S_lt h217.2) (by decide)) (rnCk_of (by decide +kernel) rfl) (tfM_errs) ?_
      cases h
      subst hr
      refine sb_ireturn ?_
      exact ⟨.int, rfl, rfl⟩
    · skip
      obtain ⟨Mz12, hey⟩ : ∃ z, z = e2 := ⟨_, rfl⟩
      subst hey
      show RN P 6 kX12_readRound 68 [] [] (S Mz12) r
      refine sb_in [(68, .iconst (-1), 1), (69, .ireturn, 1)] 70 (by decide +kernel) ?_
      refine sb_iconst cIm1 ?_
      cases h
      subst hr
      refine sb_ireturn ?_
      exact ⟨.int, rfl, rfl⟩
    · skip
      obtain ⟨yz13, Mz14⟩ := e2
      show RN P 6 kX12_readRound 77 [(0, .ref 217), (1, .int yz13)] [] (S Mz14) r
      refine sb_in [(77, .aload_n 0, 1), (78, .getfield 173, 3), (81, .ifCond .ne 7, 3)] 84 (by decide +kernel) ?_
      refine sb_aload_n rfl ?_
      refine ss_getI g12_173 h217 ?_
      rcases ife h with ⟨cz20, h⟩ | ⟨cz20, h⟩
      · refine sb_if_ne_f 88 cz20 (by decide) ?_
        refine sb_in [(84, .iload_n 1, 1), (85, .goto 8, 3)] 88 (by decide +kernel) ?_
        refine sb_iload_n rfl ?_
        refine sb_goto 93 (by decide) ?_
        refine sb_in [(93, .ireturn, 1)] 94 (by decide +kernel) ?_
        cases h
        subst hr
        refine sb_ireturn ?_
        exact ⟨.int, rfl, rfl⟩
      · refine sb_if_ne_t 88 cz20 (by decide) ?_
        refine sb_in [(88, .aload_n 0, 1), (89, .iconst 1, 1), (90, .invokevirtual 204, 3)] 93 (by decide +kernel) ?_
        refine sb_aload_n rfl ?_
        refine sb_iconst cI1 ?_
        refine sb_callVi 1 rfl oX12_errs ln12_204 vX12_errs (rc_own h217.1 (S_lt h217.2) (by decide)) (rnCk_of (by decide +kernel) rfl) (tfM_errs) ?_
        refine sb_end ?_
        refine sb_in [(93, .ireturn, 1)] 94 (by decide +kernel) ?_
        cases h
        subst hr
        refine sb_ireturn ?_
        exact ⟨.int, rfl, rfl⟩
theorem tfM_readRound {P : Px} {M : Mm} {rr : (Int32 × Mm)} (h : fM_readRound M = some rr) : EX P 6 kX12_readRound [.ref 217] (S M) (some (.int rr.1), S rr.2) := ex_of oX12_readRound (Nat.le_of_ble_eq_true rfl) (nfM_readRound  h rfl)
set_option maxRecDepth 20000 in
theorem nfM_takesStreet {P : Px} {x1 : Int32} {x2 : Int32} {M : Mm} {rr : Mm} (h : fM_takesStreet x1 x2 M = some rr) {r : Option Value × Sg} (hr : r = (none, S rr)) : RN P 1 kX12_takesStreet 0 [(0, .ref 217), (1, .int x1), (2, .int x2)] [] (S M) r := by
  unfold fM_takesStreet at h
  refine sb_in [(0, .aload_n 0, 1), (1, .getfield 65, 3), (4, .iload_n 1, 1), (5, .iaload, 1), (6, .ifCond .eq 13, 3)] 9 (by decide +kernel) ?_
  refine sb_aload_n rfl ?_
  refine ss_getR g12_65 h217 r217_37 ?_
  refine sb_iload_n rfl ?_
  obtain ⟨hgz1, h⟩ := gd h
  refine ss_iald h235 hgz1 ?_
  have hJ19 : ∀ (z1 : Int32) (z2 : Int32) (M : Mm), fM_takesStreet_j19 z1 z2 M = some rr → RN P 1 kX12_takesStreet 19 [(0, .ref 217), (1, .int z1), (2, .int z2)] [] (S M) r := by
    intro z1 z2 M h
    unfold fM_takesStreet_j19 at h
    refine sb_in [(19, .aload_n 0, 1), (20, .getfield 65, 3), (23, .iload_n 1, 1), (24, .iload_n 2, 1), (25, .iastore, 1)] 26 (by decide +kernel) ?_
    refine sb_aload_n rfl ?_
    refine ss_getR g12_65 h217 r217_37 ?_
    refine sb_iload_n rfl ?_
    refine sb_iload_n rfl ?_
    obtain ⟨hgz4, h⟩ := gd h
    refine ss_iast h235 (by decide) hgz4 ?_
    refine sb_end ?_
    refine sb_in [(26, .return_, 1)] 27 (by decide +kernel) ?_
    cases h
    subst hr
    refine sb_return ?_
    exact rfl
  rcases ife h with ⟨cz5, h⟩ | ⟨cz5, h⟩
  · refine sb_if_eq_t 19 cz5 (by decide) ?_
    exact rn_sub [0, 1, 2] rfl (hJ19 _ _ _ h)
  · refine sb_if_eq_f 19 cz5 (by decide) ?_
    refine sb_in [(9, .iload_n 2, 1), (10, .aload_n 0, 1), (11, .getfield 65, 3), (14, .iload_n 1, 1), (15, .iaload, 1), (16, .if_icmp .ge 10, 3)] 19 (by decide +kernel) ?_
    refine sb_iload_n rfl ?_
    refine sb_aload_n rfl ?_
    refine ss_getR g12_65 h217 r217_37 ?_
    refine sb_iload_n rfl ?_
    obtain ⟨hgz2, h⟩ := gd h
    refine ss_iald h235 hgz2 ?_
    rcases ife h with ⟨cz6, h⟩ | ⟨cz6, h⟩
    · refine sb_icmp_ge_t 26 cz6 (by decide) ?_
      refine sb_in [(26, .return_, 1)] 27 (by decide +kernel) ?_
      cases h
      subst hr
      refine sb_return ?_
      exact rfl
    · refine sb_icmp_ge_f 26 cz6 (by decide) ?_
      exact rn_sub [0, 1, 2] rfl (hJ19 _ _ _ h)
theorem tfM_takesStreet {P : Px} {x1 : Int32} {x2 : Int32} {M : Mm} {rr : Mm} (h : fM_takesStreet x1 x2 M = some rr) : EX P 1 kX12_takesStreet [.ref 217, .int x1, .int x2] (S M) (none, S rr) := ex_of oX12_takesStreet (Nat.le_of_ble_eq_true rfl) (nfM_takesStreet  h rfl)
set_option maxRecDepth 20000 in
theorem nfM_readStreet {P : Px} {M : Mm} {rr : (Int32 × Mm)} (h : fM_readStreet M = some rr) {r : Option Value × Sg} (hr : r = (some (.int rr.1), S rr.2)) : RN P 6 kX12_readStreet 0 [(0, .ref 217)] [] (S M) r := by
  unfold fM_readStreet at h
  refine sb_in [(0, .aload_n 0, 1), (1, .bipush 21, 2), (3, .iconst 0, 1), (4, .aload_n 0, 1), (5, .getfield 129, 3), (8, .iconst 1, 1), (9, .isub, 1), (10, .invokevirtual 258, 3), (13, .istore_n 1, 1), (14, .iload_n 1, 1), (15, .iconst (-1), 1), (16, .if_icmp .ne 5, 3)] 19 (by decide +kernel) ?_
  refine sb_aload_n rfl ?_
  refine sb_bipush cB21 ?_
  refine sb_iconst cI0 ?_
  refine sb_aload_n rfl ?_
  refine ss_getI g12_129 h217 ?_
  refine sb_iconst cI1 ?_
  refine sb_isub ?_
  obtain ⟨qz2, hez1, h⟩ := bd h
  refine sb_callVi 3 rfl oX12_readTold ln12_258 vX12_readTold (rc_own h217.1 (S_lt h217.2) (by decide)) (rnCk_of (by decide +kernel) rfl) (tfM_readTold hez1) ?_
  refine sb_istore_n (by decide) rfl ?_
  refine sb_iload_n rfl ?_
  refine sb_iconst cIm1 ?_
  rcases ife h with ⟨cz14, h⟩ | ⟨cz14, h⟩
  · refine sb_icmp_ne_f 21 cz14 (by decide) ?_
    refine sb_in [(19, .iconst (-1), 1), (20, .ireturn, 1)] 21 (by decide +kernel) ?_
    refine sb_iconst cIm1 ?_
    cases h
    subst hr
    refine sb_ireturn ?_
    exact ⟨.int, rfl, rfl⟩
  · refine sb_icmp_ne_t 21 cz14 (by decide) ?_
    refine sb_in [(21, .aload_n 0, 1), (22, .getfield 173, 3), (25, .iconst 3, 1), (26, .if_icmp .ne 17, 3)] 29 (by decide +kernel) ?_
    refine sb_aload_n rfl ?_
    refine ss_getI g12_173 h217 ?_
    refine sb_iconst cI3 ?_
    have hJ43 : ∀ (z1 : Int32) (M : Mm), fM_readStreet_j43 z1 M = some rr → RN P 6 kX12_readStreet 43 [(0, .ref 217), (1, .int z1)] [] (S M) r := by
      intro z1 M h
      unfold fM_readStreet_j43 at h
      refine sb_in [(43, .aload_n 0, 1), (44, .iconst 0, 1), (45, .aload_n 0, 1), (46, .getfield 129, 3), (49, .iconst 1, 1), (50, .isub, 1), (51, .invokevirtual 255, 3), (54, .istore_n 2, 1), (55, .iload_n 2, 1), (56, .iconst (-1), 1), (57, .if_icmp .ne 5, 3)] 60 (by decide +kernel) ?_
      refine sb_aload_n rfl ?_
      refine sb_iconst cI0 ?_
      refine sb_aload_n rfl ?_
      refine ss_getI g12_129 h217 ?_
      refine sb_iconst cI1 ?_
      refine sb_isub ?_
      obtain ⟨qz5, hez4, h⟩ := bd h
      refine sb_callVi 2 rfl oX12_readNumber ln12_255 vX12_readNumber (rc_own h217.1 (S_lt h217.2) (by decide)) (rnCk_of (by decide +kernel) rfl) (tfM_readNumber hez4) ?_
      refine sb_istore_n (by decide) rfl ?_
      refine sb_iload_n rfl ?_
      refine sb_iconst cIm1 ?_
      rcases ife h with ⟨cz15, h⟩ | ⟨cz15, h⟩
      · refine sb_icmp_ne_f 62 cz15 (by decide) ?_
        refine sb_in [(60, .iconst (-1), 1), (61, .ireturn, 1)] 62 (by decide +kernel) ?_
        refine sb_iconst cIm1 ?_
        cases h
        subst hr
        refine sb_ireturn ?_
        exact ⟨.int, rfl, rfl⟩
      · refine sb_icmp_ne_t 62 cz15 (by decide) ?_
        refine sb_in [(62, .aload_n 0, 1), (63, .iconst 1, 1), (64, .bipush 99, 2), (66, .invokevirtual 255, 3), (69, .istore_n 3, 1), (70, .iload_n 3, 1), (71, .iconst (-1), 1), (72, .if_icmp .ne 5, 3)] 75 (by decide +kernel) ?_
        refine sb_aload_n rfl ?_
        refine sb_iconst cI1 ?_
        refine sb_bipush cB99 ?_
        obtain ⟨qz7, hez6, h⟩ := bd h
        refine sb_callVi 2 rfl oX12_readNumber ln12_255 vX12_readNumber (rc_own h217.1 (S_lt h217.2) (by decide)) (rnCk_of (by decide +kernel) rfl) (tfM_readNumber hez6) ?_
        refine sb_istore_n (by decide) rfl ?_
        refine sb_iload_n rfl ?_
        refine sb_iconst cIm1 ?_
        rcases ife h with ⟨cz16, h⟩ | ⟨cz16, h⟩
        · refine sb_icmp_ne_f 77 cz16 (by decide) ?_
          refine sb_in [(75, .iconst (-1), 1), (76, .ireturn, 1)] 77 (by decide +kernel) ?_
          refine sb_iconst cIm1 ?_
          cases h
          subst hr
          refine sb_ireturn ?_
          exact ⟨.int, rfl, rfl⟩
        · refine sb_icmp_ne_t 77 cz16 (by decide) ?_
          refine sb_in [(77, .aload_n 0, 1), (78, .sipush 144, 3), (81, .bipush 12, 2), (83, .iload_n 1, 1), (84, .imul, 1), (85, .iadd, 1), (86, .iload_n 2, 1), (87, .iadd, 1), (88, .iload_n 3, 1), (89, .invokevirtual 267, 3), (92, .aload_n 0, 1), (93, .sipush 144, 3), (96, .bipush 12, 2), (98, .iload_n 2, 1), (99, .imul, 1), (100, .iadd, 1), (101, .iload_n 1, 1), (102, .iadd, 1), (103, .iload_n 3, 1), (104, .invokevirtual 267, 3), (107, .aload_n 0, 1), (108, .bipush 59, 2), (110, .invokevirtual 261, 3), (113, .ireturn, 1)] 114 (by decide +kernel) ?_
          refine sb_aload_n rfl ?_
          refine sb_sipush cS144 ?_
          refine sb_bipush cB12 ?_
          refine sb_iload_n rfl ?_
          refine sb_imul ?_
          refine sb_iadd ?_
          refine sb_iload_n rfl ?_
          refine sb_iadd ?_
          refine sb_iload_n rfl ?_
          obtain ⟨Mz9, hez8, h⟩ := bd h
          refine sb_callVv 2 rfl oX12_takesStreet ln12_267 vX12_takesStreet (rc_own h217.1 (S_lt h217.2) (by decide)) (rnCk_of (by decide +kernel) rfl) (tfM_takesStreet hez8) ?_
          refine sb_aload_n rfl ?_
          refine sb_sipush cS144 ?_
          refine sb_bipush cB12 ?_
          refine sb_iload_n rfl ?_
          refine sb_imul ?_
          refine sb_iadd ?_
          refine sb_iload_n rfl ?_
          refine sb_iadd ?_
          refine sb_iload_n rfl ?_
          obtain ⟨Mz11, hez10, h⟩ := bd h
          refine sb_callVv 2 rfl oX12_takesStreet ln12_267 vX12_takesStreet (rc_own h217.1 (S_lt h217.2) (by decide)) (rnCk_of (by decide +kernel) rfl) (tfM_takesStreet hez10) ?_
          refine sb_aload_n rfl ?_
          refine sb_bipush cB59 ?_
          obtain ⟨qz13, hez12, h⟩ := bd h
          refine sb_callVi 1 rfl oX12_readMark ln12_261 vX12_readMark (rc_own h217.1 (S_lt h217.2) (by decide)) (rnCk_of (by decide +kernel) rfl) (tfM_readMark hez12) ?_
          cases h
          subst hr
          refine sb_ireturn ?_
          exact ⟨.int, rfl, rfl⟩
    rcases ife h with ⟨cz17, h⟩ | ⟨cz17, h⟩
    · refine sb_icmp_ne_f 43 cz17 (by decide) ?_
      refine sb_in [(29, .aload_n 0, 1), (30, .getfield 176, 3), (33, .iload_n 1, 1), (34, .if_icmp .ne 9, 3)] 37 (by decide +kernel) ?_
      refine sb_aload_n rfl ?_
      refine ss_getI g12_176 h217 ?_
      refine sb_iload_n rfl ?_
      rcases ife h with ⟨cz18, h⟩ | ⟨cz18, h⟩
      · refine sb_icmp_ne_f 43 cz18 (by decide) ?_
        refine sb_in [(37, .aload_n 0, 1), (38, .iconst 2, 1), (39, .invokevirtual 204, 3), (42, .ireturn, 1)] 43 (by decide +kernel) ?_
        refine sb_aload_n rfl ?_
        refine sb_iconst cI2 ?_
        refine sb_callVi 1 rfl oX12_errs ln12_204 vX12_errs (rc_own h217.1 (S_lt h217.2) (by decide)) (rnCk_of (by decide +kernel) rfl) (tfM_errs) ?_
        cases h
        subst hr
        refine sb_ireturn ?_
        exact ⟨.int, rfl, rfl⟩
      · refine sb_icmp_ne_t 43 cz18 (by decide) ?_
        exact rn_sub [0, 1] rfl (hJ43 _ _ h)
    · refine sb_icmp_ne_t 43 cz17 (by decide) ?_
      exact rn_sub [0, 1] rfl (hJ43 _ _ h)
theorem tfM_readStreet {P : Px} {M : Mm} {rr : (Int32 × Mm)} (h : fM_readStreet M = some rr) : EX P 6 kX12_readStreet [.ref 217] (S M) (some (.int rr.1), S rr.2) := ex_of oX12_readStreet (Nat.le_of_ble_eq_true rfl) (nfM_readStreet  h rfl)
set_option maxRecDepth 20000 in
theorem nfM_readStreets {P : Px} {M : Mm} {rr : (Int32 × Mm)} (h : fM_readStreets M = some rr) {r : Option Value × Sg} (hr : r = (some (.int rr.1), S rr.2)) : RN P 7 kX12_readStreets 0 [(0, .ref 217)] [] (S M) r := by
  unfold fM_readStreets at h
  refine sb_in [(0, .iconst 0, 1), (1, .istore_n 1, 1)] 2 (by decide +kernel) ?_
  refine sb_iconst cI0 ?_
  refine sb_istore_n (by decide) rfl ?_
  refine sb_end ?_
  obtain ⟨e2, hl2, h⟩ := bd h
  refine rn_sub [0, 1] rfl ?_
  refine lp_ind (P := fun s => RN P 7 kX12_readStreets 2 [(0, .ref 217), (1, .int s.1)] [] (S s.2) r) (E := fun p => RN P 7 kX12_readStreets 26 [(0, .ref 217)] [] (S p) r) ?_ _ _ _ hl2 ?_
  · intro s qx h hc
    obtain ⟨x1, M⟩ := s
    replace h : fM_readStreets_b2 x1 M = some qx := h
    show RN P 7 kX12_readStreets 2 [(0, .ref 217), (1, .int x1)] [] (S M) r
    unfold fM_readStreets_b2 at h
    refine sb_in [(2, .iload_n 1, 1), (3, .sipush 144, 3), (6, .if_icmp .ge 20, 3)] 9 (by decide +kernel) ?_
    refine sb_iload_n rfl ?_
    refine sb_sipush cS144 ?_
    rcases ife h with ⟨cz14, h⟩ | ⟨cz14, h⟩
    · refine sb_icmp_ge_t 26 cz14 (by decide) ?_
      cases h
      exact rn_sub [0] rfl hc
    · refine sb_icmp_ge_f 26 cz14 (by decide) ?_
      refine sb_in [(9, .aload_n 0, 1), (10, .getfield 65, 3), (13, .sipush 144, 3), (16, .iload_n 1, 1), (17, .iadd, 1), (18, .iconst 0, 1), (19, .iastore, 1), (20, .iinc 1 1, 3), (23, .goto (-21), 3)] 26 (by decide +kernel) ?_
      refine sb_aload_n rfl ?_
      refine ss_getR g12_65 h217 r217_37 ?_
      refine sb_sipush cS144 ?_
      refine sb_iload_n rfl ?_
      refine sb_iadd ?_
      refine sb_iconst cI0 ?_
      obtain ⟨hgz2, h⟩ := gd h
      refine ss_iast h235 (by decide) hgz2 ?_
      refine ss_iinc cI1 rfl (by decide) rfl ?_
      refine sb_goto 2 (by decide) ?_
      cases h
      exact rn_sub [0, 1] rfl hc
  · clear hl2
    obtain ⟨Mz3, hey⟩ : ∃ z, z = e2 := ⟨_, rfl⟩
    subst hey
    show RN P 7 kX12_readStreets 26 [(0, .ref 217)] [] (S Mz3) r
    refine sb_in [(26, .iconst 0, 1), (27, .istore_n 1, 1)] 28 (by decide +kernel) ?_
    refine sb_iconst cI0 ?_
    refine sb_istore_n (by decide) rfl ?_
    refine sb_end ?_
    obtain ⟨e28, hl28, h⟩ := bd h
    refine rn_sub [0, 1] rfl ?_
    refine lp_ind (P := fun s => RN P 7 kX12_readStreets 28 [(0, .ref 217), (1, .int s.1)] [] (S s.2) r) (E := fun e => match e with | Sum.inl p => RN P 7 kX12_readStreets 43 [(0, .ref 217)] [] (S p) r | Sum.inr (Sum.inl p) => RN P 7 kX12_readStreets 57 [] [] (S p) r | Sum.inr (Sum.inr p) => RN P 7 kX12_readStreets 66 [(0, .ref 217), (1, .int p.1)] [] (S p.2) r) ?_ _ _ _ hl28 ?_
    · intro s qx h hc
      obtain ⟨x1, M⟩ := s
      replace h : fM_readStreets_b28 x1 M = some qx := h
      show RN P 7 kX12_readStreets 28 [(0, .ref 217), (1, .int x1)] [] (S M) r
      unfold fM_readStreets_b28 at h
      refine sb_in [(28, .aload_n 0, 1), (29, .bipush 21, 2), (31, .invokevirtual 233, 3), (34, .ifCond .eq 32, 3)] 37 (by decide +kernel) ?_
      refine sb_aload_n rfl ?_
      refine sb_bipush cB21 ?_
      refine sb_callVi 1 rfl oX12_isWord ln12_233 vX12_isWord (rc_own h217.1 (S_lt h217.2) (by decide)) (rnCk_of (by decide +kernel) rfl) (tfM_isWord) ?_
      rcases ife h with ⟨cz15, h⟩ | ⟨cz15, h⟩
      · refine sb_if_eq_t 66 cz15 (by decide) ?_
        cases h
        exact rn_sub [0, 1] rfl hc
      · refine sb_if_eq_f 66 cz15 (by decide) ?_
        refine sb_in [(37, .iload_n 1, 1), (38, .bipush 16, 2), (40, .if_icmp .ne 9, 3)] 43 (by decide +kernel) ?_
        refine sb_iload_n rfl ?_
        refine sb_bipush cB16 ?_
        rcases ife h with ⟨cz16, h⟩ | ⟨cz16, h⟩
        · refine sb_icmp_ne_f 49 cz16 (by decide) ?_
          cases h
          exact rn_sub [0] rfl hc
        · refine sb_icmp_ne_t 49 cz16 (by decide) ?_
          refine sb_in [(49, .aload_n 0, 1), (50, .invokevirtual 270, 3), (53, .iconst (-1), 1), (54, .if_icmp .ne 5, 3)] 57 (by decide +kernel) ?_
          refine sb_aload_n rfl ?_
          obtain ⟨qz6, hez5, h⟩ := bd h
          refine sb_callVi 0 rfl oX12_readStreet ln12_270 vX12_readStreet (rc_own h217.1 (S_lt h217.2) (by decide)) (rnCk_of (by decide +kernel) rfl) (tfM_readStreet hez5) ?_
          refine sb_iconst cIm1 ?_
          rcases ife h with ⟨cz17, h⟩ | ⟨cz17, h⟩
          · refine sb_icmp_ne_f 59 cz17 (by decide) ?_
            cases h
            exact rn_sub [] rfl hc
          · refine sb_icmp_ne_t 59 cz17 (by decide) ?_
            refine sb_in [(59, .iload_n 1, 1), (60, .iconst 1, 1), (61, .iadd, 1), (62, .istore_n 1, 1), (63, .goto (-35), 3)] 66 (by decide +kernel) ?_
            refine sb_iload_n rfl ?_
            refine sb_iconst cI1 ?_
            refine sb_iadd ?_
            refine sb_istore_n (by decide) rfl ?_
            refine sb_goto 28 (by decide) ?_
            cases h
            exact rn_sub [0, 1] rfl hc
    · clear hl28
      rcases e28 with e28 | e28 | e28
      · skip
        obtain ⟨Mz8, hey⟩ : ∃ z, z = e28 := ⟨_, rfl⟩
        subst hey
        show RN P 7 kX12_readStreets 43 [(0, .ref 217)] [] (S Mz8) r
        refine sb_in [(43, .aload_n 0, 1), (44, .iconst 3, 1), (45, .invokevirtual 204, 3), (48, .ireturn, 1)] 49 (by decide +kernel) ?_
        refine sb_aload_n rfl ?_
        refine sb_iconst cI3 ?_
        refine sb_callVi 1 rfl oX12_errs ln12_204 vX12_errs (rc_own h217.1 (S_lt h217.2) (by decide)) (rnCk_of (by decide +kernel) rfl) (tfM_errs) ?_
        cases h
        subst hr
        refine sb_ireturn ?_
        exact ⟨.int, rfl, rfl⟩
      · skip
        obtain ⟨Mz10, hey⟩ : ∃ z, z = e28 := ⟨_, rfl⟩
        subst hey
        show RN P 7 kX12_readStreets 57 [] [] (S Mz10) r
        refine sb_in [(57, .iconst (-1), 1), (58, .ireturn, 1)] 59 (by decide +kernel) ?_
        refine sb_iconst cIm1 ?_
        cases h
        subst hr
        refine sb_ireturn ?_
        exact ⟨.int, rfl, rfl⟩
      · skip
        obtain ⟨yz11, Mz12⟩ := e28
        show RN P 7 kX12_readStreets 66 [(0, .ref 217), (1, .int yz11)] [] (S Mz12) r
        refine sb_in [(66, .aload_n 0, 1), (67, .getfield 173, 3), (70, .ifCond .ne 7, 3)] 73 (by decide +kernel) ?_
        refine sb_aload_n rfl ?_
        refine ss_getI g12_173 h217 ?_
        rcases ife h with ⟨cz18, h⟩ | ⟨cz18, h⟩
        · refine sb_if_ne_f 77 cz18 (by decide) ?_
          refine sb_in [(73, .iload_n 1, 1), (74, .goto 8, 3)] 77 (by decide +kernel) ?_
          refine sb_iload_n rfl ?_
          refine sb_goto 82 (by decide) ?_
          refine sb_in [(82, .ireturn, 1)] 83 (by decide +kernel) ?_
          cases h
          subst hr
          refine sb_ireturn ?_
          exact ⟨.int, rfl, rfl⟩
        · refine sb_if_ne_t 77 cz18 (by decide) ?_
          refine sb_in [(77, .aload_n 0, 1), (78, .iconst 1, 1), (79, .invokevirtual 204, 3)] 82 (by decide +kernel) ?_
          refine sb_aload_n rfl ?_
          refine sb_iconst cI1 ?_
          refine sb_callVi 1 rfl oX12_errs ln12_204 vX12_errs (rc_own h217.1 (S_lt h217.2) (by decide)) (rnCk_of (by decide +kernel) rfl) (tfM_errs) ?_
          refine sb_end ?_
          refine sb_in [(82, .ireturn, 1)] 83 (by decide +kernel) ?_
          cases h
          subst hr
          refine sb_ireturn ?_
          exact ⟨.int, rfl, rfl⟩
theorem tfM_readStreets {P : Px} {M : Mm} {rr : (Int32 × Mm)} (h : fM_readStreets M = some rr) : EX P 7 kX12_readStreets [.ref 217] (S M) (some (.int rr.1), S rr.2) := ex_of oX12_readStreets (Nat.le_of_ble_eq_true rfl) (nfM_readStreets  h rfl)
set_option maxRecDepth 20000 in
theorem nfM_readsText {P : Px} {x1 : Int32} {M : Mm} {rr : (Int32 × Mm)} (h : fM_readsText x1 M = some rr) {r : Option Value × Sg} (hr : r = (some (.int rr.1), S rr.2)) : RN P 10 kX12_readsText 0 [(0, .ref 217), (1, .int x1)] [] (S M) r := by
  unfold fM_readsText at h
  refine sb_in [(0, .aload_n 0, 1), (1, .iconst 0, 1), (2, .putfield 252, 3), (5, .aload_n 0, 1), (6, .invokevirtual 211, 3), (9, .iload_n 1, 1), (10, .iconst 1, 1), (11, .if_icmp .ne 8, 3)] 14 (by decide +kernel) ?_
  refine sb_aload_n rfl ?_
  refine sb_iconst cI0 ?_
  refine ss_putI p12_252 h217 (by decide) ?_
  refine sb_aload_n rfl ?_
  obtain ⟨Mz3, hez2, h⟩ := bd h
  refine sb_callVv 0 rfl oX12_reads ln12_211 vX12_reads (rc_own h217.1 (S_lt h217.2) (by decide)) (rnCk_of (by decide +kernel) rfl) (tfM_reads hez2) ?_
  refine sb_iload_n rfl ?_
  refine sb_iconst cI1 ?_
  rcases ife h with ⟨cz12, h⟩ | ⟨cz12, h⟩
  · refine sb_icmp_ne_f 19 cz12 (by decide) ?_
    refine sb_in [(14, .aload_n 0, 1), (15, .invokevirtual 273, 3), (18, .ireturn, 1)] 19 (by decide +kernel) ?_
    refine sb_aload_n rfl ?_
    obtain ⟨qz11, hez10, h⟩ := bd h
    refine sb_callVi 0 rfl oX12_readPost ln12_273 vX12_readPost (rc_own h217.1 (S_lt h217.2) (by decide)) (rnCk_of (by decide +kernel) rfl) (tfM_readPost hez10) ?_
    cases h
    subst hr
    refine sb_ireturn ?_
    exact ⟨.int, rfl, rfl⟩
  · refine sb_icmp_ne_t 19 cz12 (by decide) ?_
    refine sb_in [(19, .iload_n 1, 1), (20, .iconst 2, 1), (21, .if_icmp .ne 8, 3)] 24 (by decide +kernel) ?_
    refine sb_iload_n rfl ?_
    refine sb_iconst cI2 ?_
    rcases ife h with ⟨cz13, h⟩ | ⟨cz13, h⟩
    · refine sb_icmp_ne_f 29 cz13 (by decide) ?_
      refine sb_in [(24, .aload_n 0, 1), (25, .invokevirtual 276, 3), (28, .ireturn, 1)] 29 (by decide +kernel) ?_
      refine sb_aload_n rfl ?_
      obtain ⟨qz9, hez8, h⟩ := bd h
      refine sb_callVi 0 rfl oX12_readRound ln12_276 vX12_readRound (rc_own h217.1 (S_lt h217.2) (by decide)) (rnCk_of (by decide +kernel) rfl) (tfM_readRound hez8) ?_
      cases h
      subst hr
      refine sb_ireturn ?_
      exact ⟨.int, rfl, rfl⟩
    · refine sb_icmp_ne_t 29 cz13 (by decide) ?_
      refine sb_in [(29, .iload_n 1, 1), (30, .iconst 3, 1), (31, .if_icmp .ne 10, 3)] 34 (by decide +kernel) ?_
      refine sb_iload_n rfl ?_
      refine sb_iconst cI3 ?_
      rcases ife h with ⟨cz14, h⟩ | ⟨cz14, h⟩
      · refine sb_icmp_ne_f 41 cz14 (by decide) ?_
        refine sb_in [(34, .aload_n 0, 1), (35, .invokevirtual 279, 3), (38, .goto 7, 3)] 41 (by decide +kernel) ?_
        refine sb_aload_n rfl ?_
        obtain ⟨qz7, hez6, h⟩ := bd h
        refine sb_callVi 0 rfl oX12_readStreets ln12_279 vX12_readStreets (rc_own h217.1 (S_lt h217.2) (by decide)) (rnCk_of (by decide +kernel) rfl) (tfM_readStreets hez6) ?_
        refine sb_goto 45 (by decide) ?_
        refine sb_in [(45, .ireturn, 1)] 46 (by decide +kernel) ?_
        cases h
        subst hr
        refine sb_ireturn ?_
        exact ⟨.int, rfl, rfl⟩
      · refine sb_icmp_ne_t 41 cz14 (by decide) ?_
        refine sb_in [(41, .aload_n 0, 1), (42, .invokevirtual 282, 3)] 45 (by decide +kernel) ?_
        refine sb_aload_n rfl ?_
        obtain ⟨qz5, hez4, h⟩ := bd h
        refine sb_callVi 0 rfl oX12_readLaw ln12_282 vX12_readLaw (rc_own h217.1 (S_lt h217.2) (by decide)) (rnCk_of (by decide +kernel) rfl) (tfM_readLaw hez4) ?_
        refine sb_end ?_
        refine sb_in [(45, .ireturn, 1)] 46 (by decide +kernel) ?_
        cases h
        subst hr
        refine sb_ireturn ?_
        exact ⟨.int, rfl, rfl⟩
theorem tfM_readsText {P : Px} {x1 : Int32} {M : Mm} {rr : (Int32 × Mm)} (h : fM_readsText x1 M = some rr) : EX P 10 kX12_readsText [.ref 217, .int x1] (S M) (some (.int rr.1), S rr.2) := ex_of oX12_readsText (Nat.le_of_ble_eq_true rfl) (nfM_readsText  h rfl)
set_option maxRecDepth 20000 in
theorem nfM_takesOther {P : Px} {x1 : Int32} {x2 : Int32} {M : Mm} {rr : Mm} (h : fM_takesOther x1 x2 M = some rr) {r : Option Value × Sg} (hr : r = (none, S rr)) : RN P 1 kX12_takesOther 0 [(0, .ref 217), (1, .int x1), (2, .int x2)] [] (S M) r := by
  unfold fM_takesOther at h
  refine sb_in [(0, .iload_n 1, 1), (1, .iconst 3, 1), (2, .if_icmp .ne 40, 3)] 5 (by decide +kernel) ?_
  refine sb_iload_n rfl ?_
  refine sb_iconst cI3 ?_
  rcases ife h with ⟨cz18, h⟩ | ⟨cz18, h⟩
  · refine sb_icmp_ne_f 42 cz18 (by decide) ?_
    refine sb_in [(5, .iconst 0, 1), (6, .istore_n 3, 1)] 7 (by decide +kernel) ?_
    refine sb_iconst cI0 ?_
    refine sb_istore_n (by decide) rfl ?_
    refine sb_end ?_
    obtain ⟨e7, hl7, h⟩ := bd h
    refine rn_sub [0, 2, 3] rfl ?_
    refine lp_ind (P := fun s => RN P 1 kX12_takesOther 7 [(0, .ref 217), (2, .int x2), (3, .int s.1)] [] (S s.2) r) (E := fun p => RN P 1 kX12_takesOther 36 [(0, .ref 217), (2, .int x2)] [] (S p) r) ?_ _ _ _ hl7 ?_
    · intro s qx h hc
      obtain ⟨x3, M⟩ := s
      replace h : fM_takesOther_b7 x2 x3 M = some qx := h
      show RN P 1 kX12_takesOther 7 [(0, .ref 217), (2, .int x2), (3, .int x3)] [] (S M) r
      unfold fM_takesOther_b7 at h
      refine sb_in [(7, .iload_n 3, 1), (8, .sipush 144, 3), (11, .if_icmp .ge 25, 3)] 14 (by decide +kernel) ?_
      refine sb_iload_n rfl ?_
      refine sb_sipush cS144 ?_
      rcases ife h with ⟨cz19, h⟩ | ⟨cz19, h⟩
      · refine sb_icmp_ge_t 36 cz19 (by decide) ?_
        cases h
        exact rn_sub [0, 2] rfl hc
      · refine sb_icmp_ge_f 36 cz19 (by decide) ?_
        refine sb_in [(14, .aload_n 0, 1), (15, .getfield 65, 3), (18, .iload_n 3, 1), (19, .aload_n 0, 1), (20, .getfield 65, 3), (23, .sipush 144, 3), (26, .iload_n 3, 1), (27, .iadd, 1), (28, .iaload, 1), (29, .iastore, 1), (30, .iinc 3 1, 3), (33, .goto (-26), 3)] 36 (by decide +kernel) ?_
        refine sb_aload_n rfl ?_
        refine ss_getR g12_65 h217 r217_37 ?_
        refine sb_iload_n rfl ?_
        refine sb_aload_n rfl ?_
        refine ss_getR g12_65 h217 r217_37 ?_
        refine sb_sipush cS144 ?_
        refine sb_iload_n rfl ?_
        refine sb_iadd ?_
        obtain ⟨hgz13, h⟩ := gd h
        refine ss_iald h235 hgz13 ?_
        obtain ⟨hgz15, h⟩ := gd h
        refine ss_iast h235 (by decide) hgz15 ?_
        refine ss_iinc cI1 rfl (by decide) rfl ?_
        refine sb_goto 7 (by decide) ?_
        cases h
        exact rn_sub [0, 2, 3] rfl hc
    · clear hl7
      obtain ⟨Mz16, hey⟩ : ∃ z, z = e7 := ⟨_, rfl⟩
      subst hey
      show RN P 1 kX12_takesOther 36 [(0, .ref 217), (2, .int x2)] [] (S Mz16) r
      refine sb_in [(36, .aload_n 0, 1), (37, .iload_n 2, 1), (38, .putfield 285, 3), (41, .return_, 1)] 42 (by decide +kernel) ?_
      refine sb_aload_n rfl ?_
      refine sb_iload_n rfl ?_
      refine ss_putI p12_285 h217 (by decide) ?_
      cases h
      subst hr
      refine sb_return ?_
      exact rfl
  · refine sb_icmp_ne_t 42 cz18 (by decide) ?_
    refine sb_in [(42, .iload_n 1, 1), (43, .iconst 1, 1), (44, .if_icmp .ne 41, 3)] 47 (by decide +kernel) ?_
    refine sb_iload_n rfl ?_
    refine sb_iconst cI1 ?_
    rcases ife h with ⟨cz20, h⟩ | ⟨cz20, h⟩
    · refine sb_icmp_ne_f 85 cz20 (by decide) ?_
      refine sb_in [(47, .iconst 0, 1), (48, .istore_n 3, 1)] 49 (by decide +kernel) ?_
      refine sb_iconst cI0 ?_
      refine sb_istore_n (by decide) rfl ?_
      refine sb_end ?_
      obtain ⟨e49, hl49, h⟩ := bd h
      refine rn_sub [0, 2, 3] rfl ?_
      refine lp_ind (P := fun s => RN P 1 kX12_takesOther 49 [(0, .ref 217), (2, .int x2), (3, .int s.1)] [] (S s.2) r) (E := fun p => RN P 1 kX12_takesOther 77 [(0, .ref 217), (2, .int x2)] [] (S p) r) ?_ _ _ _ hl49 ?_
      · intro s qx h hc
        obtain ⟨x3, M⟩ := s
        replace h : fM_takesOther_b49 x2 x3 M = some qx := h
        show RN P 1 kX12_takesOther 49 [(0, .ref 217), (2, .int x2), (3, .int x3)] [] (S M) r
        unfold fM_takesOther_b49 at h
        refine sb_in [(49, .iload_n 3, 1), (50, .iconst 4, 1), (51, .iload_n 2, 1), (52, .imul, 1), (53, .if_icmp .ge 24, 3)] 56 (by decide +kernel) ?_
        refine sb_iload_n rfl ?_
        refine sb_iconst cI4 ?_
        refine sb_iload_n rfl ?_
        refine sb_imul ?_
        rcases ife h with ⟨cz21, h⟩ | ⟨cz21, h⟩
        · refine sb_icmp_ge_t 77 cz21 (by decide) ?_
          cases h
          exact rn_sub [0, 2] rfl hc
        · refine sb_icmp_ge_f 77 cz21 (by decide) ?_
          refine sb_in [(56, .aload_n 0, 1), (57, .getfield 59, 3), (60, .iload_n 3, 1), (61, .aload_n 0, 1), (62, .getfield 59, 3), (65, .bipush 64, 2), (67, .iload_n 3, 1), (68, .iadd, 1), (69, .iaload, 1), (70, .iastore, 1), (71, .iinc 3 1, 3), (74, .goto (-25), 3)] 77 (by decide +kernel) ?_
          refine sb_aload_n rfl ?_
          refine ss_getR g12_59 h217 r217_33 ?_
          refine sb_iload_n rfl ?_
          refine sb_aload_n rfl ?_
          refine ss_getR g12_59 h217 r217_33 ?_
          refine sb_bipush cB64 ?_
          refine sb_iload_n rfl ?_
          refine sb_iadd ?_
          obtain ⟨hgz7, h⟩ := gd h
          refine ss_iald h233 hgz7 ?_
          obtain ⟨hgz9, h⟩ := gd h
          refine ss_iast h233 (by decide) hgz9 ?_
          refine ss_iinc cI1 rfl (by decide) rfl ?_
          refine sb_goto 49 (by decide) ?_
          cases h
          exact rn_sub [0, 2, 3] rfl hc
      · clear hl49
        obtain ⟨Mz10, hey⟩ : ∃ z, z = e49 := ⟨_, rfl⟩
        subst hey
        show RN P 1 kX12_takesOther 77 [(0, .ref 217), (2, .int x2)] [] (S Mz10) r
        refine sb_in [(77, .aload_n 0, 1), (78, .iload_n 2, 1), (79, .putfield 288, 3), (82, .goto 36, 3)] 85 (by decide +kernel) ?_
        refine sb_aload_n rfl ?_
        refine sb_iload_n rfl ?_
        refine ss_putI p12_288 h217 (by decide) ?_
        refine sb_goto 118 (by decide) ?_
        refine sb_in [(118, .aload_n 0, 1), (119, .iconst 0, 1), (120, .putfield 120, 3), (123, .return_, 1)] 124 (by decide +kernel) ?_
        refine sb_aload_n rfl ?_
        refine sb_iconst cI0 ?_
        refine ss_putI p12_120 h217 (by decide) ?_
        cases h
        subst hr
        refine sb_return ?_
        exact rfl
    · refine sb_icmp_ne_t 85 cz20 (by decide) ?_
      refine sb_in [(85, .iconst 0, 1), (86, .istore_n 3, 1)] 87 (by decide +kernel) ?_
      refine sb_iconst cI0 ?_
      refine sb_istore_n (by decide) rfl ?_
      refine sb_end ?_
      obtain ⟨e87, hl87, h⟩ := bd h
      refine rn_sub [0, 2, 3] rfl ?_
      refine lp_ind (P := fun s => RN P 1 kX12_takesOther 87 [(0, .ref 217), (2, .int x2), (3, .int s.1)] [] (S s.2) r) (E := fun p => RN P 1 kX12_takesOther 113 [(0, .ref 217), (2, .int x2)] [] (S p) r) ?_ _ _ _ hl87 ?_
      · intro s qx h hc
        obtain ⟨x3, M⟩ := s
        replace h : fM_takesOther_b87 x2 x3 M = some qx := h
        show RN P 1 kX12_takesOther 87 [(0, .ref 217), (2, .int x2), (3, .int x3)] [] (S M) r
        unfold fM_takesOther_b87 at h
        refine sb_in [(87, .iload_n 3, 1), (88, .iload_n 2, 1), (89, .if_icmp .ge 24, 3)] 92 (by decide +kernel) ?_
        refine sb_iload_n rfl ?_
        refine sb_iload_n rfl ?_
        rcases ife h with ⟨cz22, h⟩ | ⟨cz22, h⟩
        · refine sb_icmp_ge_t 113 cz22 (by decide) ?_
          cases h
          exact rn_sub [0, 2] rfl hc
        · refine sb_icmp_ge_f 113 cz22 (by decide) ?_
          refine sb_in [(92, .aload_n 0, 1), (93, .getfield 62, 3), (96, .iload_n 3, 1), (97, .aload_n 0, 1), (98, .getfield 62, 3), (101, .bipush 16, 2), (103, .iload_n 3, 1), (104, .iadd, 1), (105, .iaload, 1), (106, .iastore, 1), (107, .iinc 3 1, 3), (110, .goto (-23), 3)] 113 (by decide +kernel) ?_
          refine sb_aload_n rfl ?_
          refine ss_getR g12_62 h217 r217_35 ?_
          refine sb_iload_n rfl ?_
          refine sb_aload_n rfl ?_
          refine ss_getR g12_62 h217 r217_35 ?_
          refine sb_bipush cB16 ?_
          refine sb_iload_n rfl ?_
          refine sb_iadd ?_
          obtain ⟨hgz1, h⟩ := gd h
          refine ss_iald h234 hgz1 ?_
          obtain ⟨hgz3, h⟩ := gd h
          refine ss_iast h234 (by decide) hgz3 ?_
          refine ss_iinc cI1 rfl (by decide) rfl ?_
          refine sb_goto 87 (by decide) ?_
          cases h
          exact rn_sub [0, 2, 3] rfl hc
      · clear hl87
        obtain ⟨Mz4, hey⟩ : ∃ z, z = e87 := ⟨_, rfl⟩
        subst hey
        show RN P 1 kX12_takesOther 113 [(0, .ref 217), (2, .int x2)] [] (S Mz4) r
        refine sb_in [(113, .aload_n 0, 1), (114, .iload_n 2, 1), (115, .putfield 291, 3)] 118 (by decide +kernel) ?_
        refine sb_aload_n rfl ?_
        refine sb_iload_n rfl ?_
        refine ss_putI p12_291 h217 (by decide) ?_
        refine sb_end ?_
        refine sb_in [(118, .aload_n 0, 1), (119, .iconst 0, 1), (120, .putfield 120, 3), (123, .return_, 1)] 124 (by decide +kernel) ?_
        refine sb_aload_n rfl ?_
        refine sb_iconst cI0 ?_
        refine ss_putI p12_120 h217 (by decide) ?_
        cases h
        subst hr
        refine sb_return ?_
        exact rfl
theorem tfM_takesOther {P : Px} {x1 : Int32} {x2 : Int32} {M : Mm} {rr : Mm} (h : fM_takesOther x1 x2 M = some rr) : EX P 1 kX12_takesOther [.ref 217, .int x1, .int x2] (S M) (none, S rr) := ex_of oX12_takesOther (Nat.le_of_ble_eq_true rfl) (nfM_takesOther  h rfl)
set_option maxRecDepth 20000 in
theorem nfM_text {P : Px} {x1 : Int32} {M : Mm} {rr : (Int32 × Mm)} (h : fM_text x1 M = some rr) {r : Option Value × Sg} (hr : r = (some (.int rr.1), S rr.2)) : RN P 11 kX12_text 0 [(0, .ref 217), (1, .int x1)] [] (S M) r := by
  unfold fM_text at h
  refine sb_in [(0, .aload_n 0, 1), (1, .iconst 0, 1), (2, .putfield 116, 3), (5, .aload_n 0, 1), (6, .iconst 0, 1), (7, .putfield 294, 3), (10, .aload_n 0, 1), (11, .iconst (-1), 1), (12, .putfield 55, 3), (15, .aload_n 0, 1), (16, .iconst 0, 1), (17, .putfield 164, 3), (20, .aload_n 0, 1), (21, .iconst 0, 1), (22, .putfield 198, 3), (25, .aload_n 0, 1), (26, .iconst 0, 1), (27, .putfield 230, 3), (30, .iconst (-1), 1), (31, .istore_n 2, 1), (32, .aload_n 0, 1), (33, .iload_n 1, 1), (34, .iconst 0, 1), (35, .iconst 3, 1), (36, .invokevirtual 143, 3), (39, .ifCond .eq 30, 3)] 42 (by decide +kernel) ?_
  refine sb_aload_n rfl ?_
  refine sb_iconst cI0 ?_
  refine ss_putI p12_116 h217 (by decide) ?_
  refine sb_aload_n rfl ?_
  refine sb_iconst cI0 ?_
  refine ss_putI p12_294 h217 (by decide) ?_
  refine sb_aload_n rfl ?_
  refine sb_iconst cIm1 ?_
  refine ss_putI p12_55 h217 (by decide) ?_
  refine sb_aload_n rfl ?_
  refine sb_iconst cI0 ?_
  refine ss_putI p12_164 h217 (by decide) ?_
  refine sb_aload_n rfl ?_
  refine sb_iconst cI0 ?_
  refine ss_putI p12_198 h217 (by decide) ?_
  refine sb_aload_n rfl ?_
  refine sb_iconst cI0 ?_
  refine ss_putI p12_230 h217 (by decide) ?_
  refine sb_iconst cIm1 ?_
  refine sb_istore_n (by decide) rfl ?_
  refine sb_aload_n rfl ?_
  refine sb_iload_n rfl ?_
  refine sb_iconst cI0 ?_
  refine sb_iconst cI3 ?_
  refine sb_callVi 3 rfl oX12_isIn ln12_143 vX12_isIn (rc_own h217.1 (S_lt h217.2) (by decide)) (rnCk_of (by decide +kernel) rfl) (tfM_isIn) ?_
  obtain ⟨⟨yz12, Mz13⟩, hj69, h⟩ := bd h
  have hJ69 : RN P 11 kX12_text 69 [(0, .ref 217), (1, .int x1), (2, .int yz12)] [] (S Mz13) r := by
    refine sb_in [(69, .aload_n 0, 1), (70, .iconst 0, 1), (71, .putfield 158, 3), (74, .iload_n 2, 1), (75, .iconst (-1), 1), (76, .if_icmp .ne 5, 3)] 79 (by decide +kernel) ?_
    refine sb_aload_n rfl ?_
    refine sb_iconst cI0 ?_
    refine ss_putI p12_158 h217 (by decide) ?_
    refine sb_iload_n rfl ?_
    refine sb_iconst cIm1 ?_
    rcases ife h with ⟨cz19, h⟩ | ⟨cz19, h⟩
    · refine sb_icmp_ne_f 81 cz19 (by decide) ?_
      refine sb_in [(79, .iconst (-1), 1), (80, .ireturn, 1)] 81 (by decide +kernel) ?_
      refine sb_iconst cIm1 ?_
      cases h
      subst hr
      refine sb_ireturn ?_
      exact ⟨.int, rfl, rfl⟩
    · refine sb_icmp_ne_t 81 cz19 (by decide) ?_
      refine sb_in [(81, .iload_n 1, 1), (82, .ifCond .ne 11, 3)] 85 (by decide +kernel) ?_
      refine sb_iload_n rfl ?_
      rcases ife h with ⟨cz20, h⟩ | ⟨cz20, h⟩
      · refine sb_if_ne_f 93 cz20 (by decide) ?_
        refine sb_in [(85, .aload_n 0, 1), (86, .iload_n 2, 1), (87, .invokevirtual 300, 3), (90, .goto 9, 3)] 93 (by decide +kernel) ?_
        refine sb_aload_n rfl ?_
        refine sb_iload_n rfl ?_
        obtain ⟨Mz18, hez17, h⟩ := bd h
        refine sb_callVv 1 rfl oX12_takesLaw ln12_300 vX12_takesLaw (rc_own h217.1 (S_lt h217.2) (by decide)) (rnCk_of (by decide +kernel) rfl) (tfM_takesLaw hez17) ?_
        refine sb_goto 99 (by decide) ?_
        refine sb_in [(99, .iload_n 2, 1), (100, .ireturn, 1)] 101 (by decide +kernel) ?_
        refine sb_iload_n rfl ?_
        cases h
        subst hr
        refine sb_ireturn ?_
        exact ⟨.int, rfl, rfl⟩
      · refine sb_if_ne_t 93 cz20 (by decide) ?_
        refine sb_in [(93, .aload_n 0, 1), (94, .iload_n 1, 1), (95, .iload_n 2, 1), (96, .invokevirtual 303, 3)] 99 (by decide +kernel) ?_
        refine sb_aload_n rfl ?_
        refine sb_iload_n rfl ?_
        refine sb_iload_n rfl ?_
        obtain ⟨Mz16, hez15, h⟩ := bd h
        refine sb_callVv 2 rfl oX12_takesOther ln12_303 vX12_takesOther (rc_own h217.1 (S_lt h217.2) (by decide)) (rnCk_of (by decide +kernel) rfl) (tfM_takesOther hez15) ?_
        refine sb_end ?_
        refine sb_in [(99, .iload_n 2, 1), (100, .ireturn, 1)] 101 (by decide +kernel) ?_
        refine sb_iload_n rfl ?_
        cases h
        subst hr
        refine sb_ireturn ?_
        exact ⟨.int, rfl, rfl⟩
  clear h
  have h := hj69
  clear hj69
  rcases ife h with ⟨cz21, h⟩ | ⟨cz21, h⟩
  · refine sb_if_eq_t 69 cz21 (by decide) ?_
    cases h
    exact rn_sub [0, 1, 2] rfl hJ69
  · refine sb_if_eq_f 69 cz21 (by decide) ?_
    refine sb_in [(42, .aload_n 0, 1), (43, .iload_n 1, 1), (44, .invokevirtual 297, 3), (47, .istore_n 2, 1), (48, .iload_n 2, 1), (49, .iconst (-1), 1), (50, .if_icmp .ne 19, 3)] 53 (by decide +kernel) ?_
    refine sb_aload_n rfl ?_
    refine sb_iload_n rfl ?_
    obtain ⟨qz9, hez8, h⟩ := bd h
    refine sb_callVi 1 rfl oX12_readsText ln12_297 vX12_readsText (rc_own h217.1 (S_lt h217.2) (by decide)) (rnCk_of (by decide +kernel) rfl) (tfM_readsText hez8) ?_
    refine sb_istore_n (by decide) rfl ?_
    refine sb_iload_n rfl ?_
    refine sb_iconst cIm1 ?_
    rcases ife h with ⟨cz22, h⟩ | ⟨cz22, h⟩
    · refine sb_icmp_ne_f 69 cz22 (by decide) ?_
      refine sb_in [(53, .aload_n 0, 1), (54, .aload_n 0, 1), (55, .getfield 192, 3), (58, .putfield 294, 3), (61, .aload_n 0, 1), (62, .aload_n 0, 1), (63, .getfield 195, 3), (66, .putfield 55, 3)] 69 (by decide +kernel) ?_
      refine sb_aload_n rfl ?_
      refine sb_aload_n rfl ?_
      refine ss_getI g12_192 h217 ?_
      refine ss_putI p12_294 h217 (by decide) ?_
      refine sb_aload_n rfl ?_
      refine sb_aload_n rfl ?_
      refine ss_getI g12_195 h217 ?_
      refine ss_putI p12_55 h217 (by decide) ?_
      refine sb_end ?_
      cases h
      exact rn_sub [0, 1, 2] rfl hJ69
    · refine sb_icmp_ne_t 69 cz22 (by decide) ?_
      cases h
      exact rn_sub [0, 1, 2] rfl hJ69
theorem tfM_text {P : Px} {x1 : Int32} {M : Mm} {rr : (Int32 × Mm)} (h : fM_text x1 M = some rr) : EX P 11 kX12_text [.ref 217, .int x1] (S M) (some (.int rr.1), S rr.2) := ex_of oX12_text (Nat.le_of_ble_eq_true rfl) (nfM_text  h rfl)
set_option maxRecDepth 20000 in
theorem nfM_fault {P : Px} {x1 : Int32} {M : Mm} {rr : (Int32 × Mm)} (h : fM_fault x1 M = rr) {r : Option Value × Sg} (hr : r = (some (.int rr.1), S rr.2)) : RN P 1 kX12_fault 0 [(0, .ref 217), (1, .int x1)] [] (S M) r := by
  unfold fM_fault at h
  refine sb_in [(0, .aload_n 0, 1), (1, .iconst 0, 1), (2, .putfield 116, 3), (5, .iload_n 1, 1), (6, .ifCond .ne 10, 3)] 9 (by decide +kernel) ?_
  refine sb_aload_n rfl ?_
  refine sb_iconst cI0 ?_
  refine ss_putI p12_116 h217 (by decide) ?_
  refine sb_iload_n rfl ?_
  rcases ife h with ⟨cz2, h⟩ | ⟨cz2, h⟩
  · refine sb_if_ne_f 16 cz2 (by decide) ?_
    refine sb_in [(9, .aload_n 0, 1), (10, .getfield 294, 3), (13, .goto 16, 3)] 16 (by decide +kernel) ?_
    refine sb_aload_n rfl ?_
    refine ss_getI g12_294 h217 ?_
    refine sb_goto 29 (by decide) ?_
    refine sb_in [(29, .ireturn, 1)] 30 (by decide +kernel) ?_
    subst h
    subst hr
    refine sb_ireturn ?_
    exact ⟨.int, rfl, rfl⟩
  · refine sb_if_ne_t 16 cz2 (by decide) ?_
    refine sb_in [(16, .iload_n 1, 1), (17, .iconst 1, 1), (18, .if_icmp .ne 10, 3)] 21 (by decide +kernel) ?_
    refine sb_iload_n rfl ?_
    refine sb_iconst cI1 ?_
    rcases ife h with ⟨cz3, h⟩ | ⟨cz3, h⟩
    · refine sb_icmp_ne_f 28 cz3 (by decide) ?_
      refine sb_in [(21, .aload_n 0, 1), (22, .getfield 55, 3), (25, .goto 4, 3)] 28 (by decide +kernel) ?_
      refine sb_aload_n rfl ?_
      refine ss_getI g12_55 h217 ?_
      refine sb_goto 29 (by decide) ?_
      refine sb_in [(29, .ireturn, 1)] 30 (by decide +kernel) ?_
      subst h
      subst hr
      refine sb_ireturn ?_
      exact ⟨.int, rfl, rfl⟩
    · refine sb_icmp_ne_t 28 cz3 (by decide) ?_
      refine sb_in [(28, .iconst (-1), 1)] 29 (by decide +kernel) ?_
      refine sb_iconst cIm1 ?_
      refine sb_end ?_
      refine sb_in [(29, .ireturn, 1)] 30 (by decide +kernel) ?_
      subst h
      subst hr
      refine sb_ireturn ?_
      exact ⟨.int, rfl, rfl⟩
theorem tfM_fault {P : Px} {x1 : Int32} {M : Mm} : EX P 1 kX12_fault [.ref 217, .int x1] (S M) (some (.int (fM_fault x1 M).1), S (fM_fault x1 M).2) := ex_of oX12_fault (Nat.le_of_ble_eq_true rfl) (nfM_fault  rfl rfl)
set_option maxRecDepth 20000 in
theorem nfM_twoOf {P : Px} {x1 : Int32} {x2 : Int32} {x3 : Int32} {M : Mm} {rr : Int32} (h : fM_twoOf x1 x2 x3 = some rr) {r : Option Value × Sg} (hr : r = (some (.int rr), S M)) : RN P 1 kX12_twoOf 0 [(0, .ref 217), (1, .int x1), (2, .int x2), (3, .int x3)] [] (S M) r := by
  unfold fM_twoOf at h
  refine sb_in [(0, .iload_n 1, 1), (1, .iconst 2, 1), (2, .if_icmp .ne 7, 3)] 5 (by decide +kernel) ?_
  refine sb_iload_n rfl ?_
  refine sb_iconst cI2 ?_
  rcases ife h with ⟨cz2, h⟩ | ⟨cz2, h⟩
  · refine sb_icmp_ne_f 9 cz2 (by decide) ?_
    refine sb_in [(5, .iload_n 2, 1), (6, .iload_n 3, 1), (7, .iadd, 1), (8, .ireturn, 1)] 9 (by decide +kernel) ?_
    refine sb_iload_n rfl ?_
    refine sb_iload_n rfl ?_
    refine sb_iadd ?_
    cases h
    subst hr
    refine sb_ireturn ?_
    exact ⟨.int, rfl, rfl⟩
  · refine sb_icmp_ne_t 9 cz2 (by decide) ?_
    refine sb_in [(9, .iload_n 1, 1), (10, .iconst 3, 1), (11, .if_icmp .ne 7, 3)] 14 (by decide +kernel) ?_
    refine sb_iload_n rfl ?_
    refine sb_iconst cI3 ?_
    rcases ife h with ⟨cz3, h⟩ | ⟨cz3, h⟩
    · refine sb_icmp_ne_f 18 cz3 (by decide) ?_
      refine sb_in [(14, .iload_n 2, 1), (15, .iload_n 3, 1), (16, .isub, 1), (17, .ireturn, 1)] 18 (by decide +kernel) ?_
      refine sb_iload_n rfl ?_
      refine sb_iload_n rfl ?_
      refine sb_isub ?_
      cases h
      subst hr
      refine sb_ireturn ?_
      exact ⟨.int, rfl, rfl⟩
    · refine sb_icmp_ne_t 18 cz3 (by decide) ?_
      refine sb_in [(18, .iload_n 1, 1), (19, .iconst 4, 1), (20, .if_icmp .ne 7, 3)] 23 (by decide +kernel) ?_
      refine sb_iload_n rfl ?_
      refine sb_iconst cI4 ?_
      rcases ife h with ⟨cz4, h⟩ | ⟨cz4, h⟩
      · refine sb_icmp_ne_f 27 cz4 (by decide) ?_
        refine sb_in [(23, .iload_n 2, 1), (24, .iload_n 3, 1), (25, .imul, 1), (26, .ireturn, 1)] 27 (by decide +kernel) ?_
        refine sb_iload_n rfl ?_
        refine sb_iload_n rfl ?_
        refine sb_imul ?_
        cases h
        subst hr
        refine sb_ireturn ?_
        exact ⟨.int, rfl, rfl⟩
      · refine sb_icmp_ne_t 27 cz4 (by decide) ?_
        refine sb_in [(27, .iload_n 1, 1), (28, .iconst 5, 1), (29, .if_icmp .ne 7, 3)] 32 (by decide +kernel) ?_
        refine sb_iload_n rfl ?_
        refine sb_iconst cI5 ?_
        rcases ife h with ⟨cz5, h⟩ | ⟨cz5, h⟩
        · refine sb_icmp_ne_f 36 cz5 (by decide) ?_
          refine sb_in [(32, .iload_n 2, 1), (33, .iload_n 3, 1), (34, .idiv, 1), (35, .ireturn, 1)] 36 (by decide +kernel) ?_
          refine sb_iload_n rfl ?_
          refine sb_iload_n rfl ?_
          obtain ⟨hgz1, h⟩ := gd h
          refine sb_idiv hgz1 ?_
          cases h
          subst hr
          refine sb_ireturn ?_
          exact ⟨.int, rfl, rfl⟩
        · refine sb_icmp_ne_t 36 cz5 (by decide) ?_
          refine sb_in [(36, .iload_n 1, 1), (37, .bipush 6, 2), (39, .if_icmp .ne 14, 3)] 42 (by decide +kernel) ?_
          refine sb_iload_n rfl ?_
          refine sb_bipush cB6 ?_
          rcases ife h with ⟨cz6, h⟩ | ⟨cz6, h⟩
          · refine sb_icmp_ne_f 53 cz6 (by decide) ?_
            refine sb_in [(42, .iload_n 2, 1), (43, .iload_n 3, 1), (44, .if_icmp .ge 7, 3)] 47 (by decide +kernel) ?_
            refine sb_iload_n rfl ?_
            refine sb_iload_n rfl ?_
            rcases ife h with ⟨cz7, h⟩ | ⟨cz7, h⟩
            · refine sb_icmp_ge_t 51 cz7 (by decide) ?_
              refine sb_in [(51, .iconst 0, 1)] 52 (by decide +kernel) ?_
              refine sb_iconst cI0 ?_
              refine sb_end ?_
              refine sb_in [(52, .ireturn, 1)] 53 (by decide +kernel) ?_
              cases h
              subst hr
              refine sb_ireturn ?_
              exact ⟨.int, rfl, rfl⟩
            · refine sb_icmp_ge_f 51 cz7 (by decide) ?_
              refine sb_in [(47, .iconst 1, 1), (48, .goto 4, 3)] 51 (by decide +kernel) ?_
              refine sb_iconst cI1 ?_
              refine sb_goto 52 (by decide) ?_
              refine sb_in [(52, .ireturn, 1)] 53 (by decide +kernel) ?_
              cases h
              subst hr
              refine sb_ireturn ?_
              exact ⟨.int, rfl, rfl⟩
          · refine sb_icmp_ne_t 53 cz6 (by decide) ?_
            refine sb_in [(53, .iload_n 1, 1), (54, .bipush 7, 2), (56, .if_icmp .ne 14, 3)] 59 (by decide +kernel) ?_
            refine sb_iload_n rfl ?_
            refine sb_bipush cB7 ?_
            rcases ife h with ⟨cz8, h⟩ | ⟨cz8, h⟩
            · refine sb_icmp_ne_f 70 cz8 (by decide) ?_
              refine sb_in [(59, .iload_n 2, 1), (60, .iload_n 3, 1), (61, .if_icmp .ne 7, 3)] 64 (by decide +kernel) ?_
              refine sb_iload_n rfl ?_
              refine sb_iload_n rfl ?_
              rcases ife h with ⟨cz9, h⟩ | ⟨cz9, h⟩
              · refine sb_icmp_ne_f 68 cz9 (by decide) ?_
                refine sb_in [(64, .iconst 1, 1), (65, .goto 4, 3)] 68 (by decide +kernel) ?_
                refine sb_iconst cI1 ?_
                refine sb_goto 69 (by decide) ?_
                refine sb_in [(69, .ireturn, 1)] 70 (by decide +kernel) ?_
                cases h
                subst hr
                refine sb_ireturn ?_
                exact ⟨.int, rfl, rfl⟩
              · refine sb_icmp_ne_t 68 cz9 (by decide) ?_
                refine sb_in [(68, .iconst 0, 1)] 69 (by decide +kernel) ?_
                refine sb_iconst cI0 ?_
                refine sb_end ?_
                refine sb_in [(69, .ireturn, 1)] 70 (by decide +kernel) ?_
                cases h
                subst hr
                refine sb_ireturn ?_
                exact ⟨.int, rfl, rfl⟩
            · refine sb_icmp_ne_t 70 cz8 (by decide) ?_
              refine sb_in [(70, .iload_n 1, 1), (71, .bipush 8, 2), (73, .if_icmp .ne 14, 3)] 76 (by decide +kernel) ?_
              refine sb_iload_n rfl ?_
              refine sb_bipush cB8 ?_
              rcases ife h with ⟨cz10, h⟩ | ⟨cz10, h⟩
              · refine sb_icmp_ne_f 87 cz10 (by decide) ?_
                refine sb_in [(76, .iload_n 2, 1), (77, .iload_n 3, 1), (78, .if_icmp .le 7, 3)] 81 (by decide +kernel) ?_
                refine sb_iload_n rfl ?_
                refine sb_iload_n rfl ?_
                rcases ife h with ⟨cz11, h⟩ | ⟨cz11, h⟩
                · refine sb_icmp_le_t 85 cz11 (by decide) ?_
                  refine sb_in [(85, .iconst 0, 1)] 86 (by decide +kernel) ?_
                  refine sb_iconst cI0 ?_
                  refine sb_end ?_
                  refine sb_in [(86, .ireturn, 1)] 87 (by decide +kernel) ?_
                  cases h
                  subst hr
                  refine sb_ireturn ?_
                  exact ⟨.int, rfl, rfl⟩
                · refine sb_icmp_le_f 85 cz11 (by decide) ?_
                  refine sb_in [(81, .iconst 1, 1), (82, .goto 4, 3)] 85 (by decide +kernel) ?_
                  refine sb_iconst cI1 ?_
                  refine sb_goto 86 (by decide) ?_
                  refine sb_in [(86, .ireturn, 1)] 87 (by decide +kernel) ?_
                  cases h
                  subst hr
                  refine sb_ireturn ?_
                  exact ⟨.int, rfl, rfl⟩
              · refine sb_icmp_ne_t 87 cz10 (by decide) ?_
                refine sb_in [(87, .iload_n 1, 1), (88, .bipush 10, 2), (90, .if_icmp .ne 9, 3)] 93 (by decide +kernel) ?_
                refine sb_iload_n rfl ?_
                refine sb_bipush cB10 ?_
                rcases ife h with ⟨cz12, h⟩ | ⟨cz12, h⟩
                · refine sb_icmp_ne_f 99 cz12 (by decide) ?_
                  refine sb_in [(93, .iload_n 2, 1), (94, .iload_n 3, 1), (95, .imul, 1), (96, .goto 14, 3)] 99 (by decide +kernel) ?_
                  refine sb_iload_n rfl ?_
                  refine sb_iload_n rfl ?_
                  refine sb_imul ?_
                  refine sb_goto 110 (by decide) ?_
                  refine sb_in [(110, .ireturn, 1)] 111 (by decide +kernel) ?_
                  cases h
                  subst hr
                  refine sb_ireturn ?_
                  exact ⟨.int, rfl, rfl⟩
                · refine sb_icmp_ne_t 99 cz12 (by decide) ?_
                  refine sb_in [(99, .iload_n 2, 1), (100, .iload_n 3, 1), (101, .iadd, 1), (102, .ifCond .le 7, 3)] 105 (by decide +kernel) ?_
                  refine sb_iload_n rfl ?_
                  refine sb_iload_n rfl ?_
                  refine sb_iadd ?_
                  rcases ife h with ⟨cz13, h⟩ | ⟨cz13, h⟩
                  · refine sb_if_le_t 109 cz13 (by decide) ?_
                    refine sb_in [(109, .iconst 0, 1)] 110 (by decide +kernel) ?_
                    refine sb_iconst cI0 ?_
                    refine sb_end ?_
                    refine sb_in [(110, .ireturn, 1)] 111 (by decide +kernel) ?_
                    cases h
                    subst hr
                    refine sb_ireturn ?_
                    exact ⟨.int, rfl, rfl⟩
                  · refine sb_if_le_f 109 cz13 (by decide) ?_
                    refine sb_in [(105, .iconst 1, 1), (106, .goto 4, 3)] 109 (by decide +kernel) ?_
                    refine sb_iconst cI1 ?_
                    refine sb_goto 110 (by decide) ?_
                    refine sb_in [(110, .ireturn, 1)] 111 (by decide +kernel) ?_
                    cases h
                    subst hr
                    refine sb_ireturn ?_
                    exact ⟨.int, rfl, rfl⟩
theorem tfM_twoOf {P : Px} {x1 : Int32} {x2 : Int32} {x3 : Int32} {M : Mm} {rr : Int32} (h : fM_twoOf x1 x2 x3 = some rr) : EX P 1 kX12_twoOf [.ref 217, .int x1, .int x2, .int x3] (S M) (some (.int rr), S M) := ex_of oX12_twoOf (Nat.le_of_ble_eq_true rfl) (nfM_twoOf  h rfl)
set_option maxRecDepth 20000 in
theorem nfM_runs {P : Px} {x1 : Int32} {x2 : Int32} {x3 : Int32} {M : Mm} {rr : (Int32 × Mm)} (h : fM_runs x1 x2 x3 M = some rr) {r : Option Value × Sg} (hr : r = (some (.int rr.1), S rr.2)) : RN P 2 kX12_runs 0 [(0, .ref 217), (1, .int x1), (2, .int x2), (3, .int x3)] [] (S M) r := by
  unfold fM_runs at h
  refine sb_in [(0, .iconst 0, 1), (1, .istore 4, 2), (3, .sipush 400, 3), (6, .iload_n 1, 1), (7, .imul, 1), (8, .iload_n 2, 1), (9, .iadd, 1), (10, .istore 5, 2)] 12 (by decide +kernel) ?_
  refine sb_iconst cI0 ?_
  refine sb_istore (by decide) rfl ?_
  refine sb_sipush cS400 ?_
  refine sb_iload_n rfl ?_
  refine sb_imul ?_
  refine sb_iload_n rfl ?_
  refine sb_iadd ?_
  refine sb_istore (by decide) rfl ?_
  refine sb_end ?_
  obtain ⟨e12, hl12, h⟩ := bd h
  refine rn_sub [0, 1, 3, 4, 5] rfl ?_
  refine lp_ind (P := fun s => RN P 2 kX12_runs 12 [(0, .ref 217), (1, .int x1), (3, .int x3), (4, .int s.1), (5, .int s.2.1)] [] (S s.2.2) r) (E := fun p => RN P 2 kX12_runs 176 [(0, .ref 217)] [] (S p) r) ?_ _ _ _ hl12 ?_
  · intro s qx h hc
    obtain ⟨x4, x5, M⟩ := s
    replace h : fM_runs_b12 x1 x3 x4 x5 M = some qx := h
    show RN P 2 kX12_runs 12 [(0, .ref 217), (1, .int x1), (3, .int x3), (4, .int x4), (5, .int x5)] [] (S M) r
    unfold fM_runs_b12 at h
    refine sb_in [(12, .iload 5, 2), (14, .sipush 400, 3), (17, .iload_n 1, 1), (18, .imul, 1), (19, .iload_n 3, 1), (20, .iadd, 1), (21, .if_icmp .ge 155, 3)] 24 (by decide +kernel) ?_
    refine sb_iload rfl ?_
    refine sb_sipush cS400 ?_
    refine sb_iload_n rfl ?_
    refine sb_imul ?_
    refine sb_iload_n rfl ?_
    refine sb_iadd ?_
    rcases ife h with ⟨cz35, h⟩ | ⟨cz35, h⟩
    · refine sb_icmp_ge_t 176 cz35 (by decide) ?_
      cases h
      exact rn_sub [0] rfl hc
    · refine sb_icmp_ge_f 176 cz35 (by decide) ?_
      refine sb_in [(24, .aload_n 0, 1), (25, .getfield 46, 3), (28, .iload 5, 2), (30, .iaload, 1), (31, .ifCond .eq 14, 3)] 34 (by decide +kernel) ?_
      refine sb_aload_n rfl ?_
      refine ss_getR g12_46 h217 r217_21 ?_
      refine sb_iload rfl ?_
      obtain ⟨hgz2, h⟩ := gd h
      refine ss_iald h230 hgz2 ?_
      obtain ⟨⟨yz32, Mz33⟩, hj170, h⟩ := bd h
      have hJ170 : RN P 2 kX12_runs 170 [(0, .ref 217), (1, .int x1), (3, .int x3), (4, .int yz32), (5, .int x5)] [] (S Mz33) r := by
        refine sb_in [(170, .iinc 5 1, 3), (173, .goto (-161), 3)] 176 (by decide +kernel) ?_
        refine ss_iinc cI1 rfl (by decide) rfl ?_
        refine sb_goto 12 (by decide) ?_
        cases h
        exact rn_sub [0, 1, 3, 4, 5] rfl hc
      clear h
      have h := hj170
      clear hj170
      rcases ife h with ⟨cz36, h⟩ | ⟨cz36, h⟩
      · refine sb_if_eq_t 45 cz36 (by decide) ?_
        refine sb_in [(45, .aload_n 0, 1), (46, .getfield 71, 3), (49, .iload 4, 2), (51, .aload_n 0, 1), (52, .getfield 46, 3), (55, .iload 5, 2), (57, .iaload, 1), (58, .ifCond .ne 13, 3)] 61 (by decide +kernel) ?_
        refine sb_aload_n rfl ?_
        refine ss_getR g12_71 h217 r217_39 ?_
        refine sb_iload rfl ?_
        refine sb_aload_n rfl ?_
        refine ss_getR g12_46 h217 r217_21 ?_
        refine sb_iload rfl ?_
        obtain ⟨hgz3, h⟩ := gd h
        refine ss_iald h230 hgz3 ?_
        obtain ⟨yz7, hj83, h⟩ := bd h
        have hJ83 : RN P 2 kX12_runs 83 [(0, .ref 217), (1, .int x1), (3, .int x3), (4, .int x4), (5, .int x5)] [.int yz7, .int x4, .ref 237] (S M) r := by
          refine sb_in [(83, .iastore, 1), (84, .iload 4, 2), (86, .iconst 1, 1), (87, .iadd, 1), (88, .istore 4, 2), (90, .goto 80, 3)] 93 (by decide +kernel) ?_
          obtain ⟨hgz9, h⟩ := gd h
          refine ss_iast h237 (by decide) hgz9 ?_
          refine sb_iload rfl ?_
          refine sb_iconst cI1 ?_
          refine sb_iadd ?_
          refine sb_istore (by decide) rfl ?_
          refine sb_goto 170 (by decide) ?_
          cases h
          exact rn_sub [0, 1, 3, 4, 5] rfl hJ170
        clear h
        have h := hj83
        clear hj83
        rcases ife h with ⟨cz37, h⟩ | ⟨cz37, h⟩
        · refine sb_if_ne_f 71 cz37 (by decide) ?_
          refine sb_in [(61, .aload_n 0, 1), (62, .getfield 49, 3), (65, .iload 5, 2), (67, .iaload, 1), (68, .goto 15, 3)] 71 (by decide +kernel) ?_
          refine sb_aload_n rfl ?_
          refine ss_getR g12_49 h217 r217_22 ?_
          refine sb_iload rfl ?_
          obtain ⟨hgz6, h⟩ := gd h
          refine ss_iald h231 hgz6 ?_
          refine sb_goto 83 (by decide) ?_
          cases h
          exact rn_sub [0, 1, 3, 4, 5] rfl hJ83
        · refine sb_if_ne_t 71 cz37 (by decide) ?_
          refine sb_in [(71, .aload_n 0, 1), (72, .getfield 68, 3), (75, .aload_n 0, 1), (76, .getfield 49, 3), (79, .iload 5, 2), (81, .iaload, 1), (82, .iaload, 1)] 83 (by decide +kernel) ?_
          refine sb_aload_n rfl ?_
          refine ss_getR g12_68 h217 r217_38 ?_
          refine sb_aload_n rfl ?_
          refine ss_getR g12_49 h217 r217_22 ?_
          refine sb_iload rfl ?_
          obtain ⟨hgz4, h⟩ := gd h
          refine ss_iald h231 hgz4 ?_
          obtain ⟨hgz5, h⟩ := gd h
          refine ss_iald h236 hgz5 ?_
          refine sb_end ?_
          cases h
          exact rn_sub [0, 1, 3, 4, 5] rfl hJ83
      · refine sb_if_eq_f 45 cz36 (by decide) ?_
        refine sb_in [(34, .aload_n 0, 1), (35, .getfield 46, 3), (38, .iload 5, 2), (40, .iaload, 1), (41, .iconst 1, 1), (42, .if_icmp .ne 51, 3)] 45 (by decide +kernel) ?_
        refine sb_aload_n rfl ?_
        refine ss_getR g12_46 h217 r217_21 ?_
        refine sb_iload rfl ?_
        obtain ⟨hgz11, h⟩ := gd h
        refine ss_iald h230 hgz11 ?_
        refine sb_iconst cI1 ?_
        rcases ife h with ⟨cz38, h⟩ | ⟨cz38, h⟩
        · refine sb_icmp_ne_f 93 cz38 (by decide) ?_
          refine sb_in [(45, .aload_n 0, 1), (46, .getfield 71, 3), (49, .iload 4, 2), (51, .aload_n 0, 1), (52, .getfield 46, 3), (55, .iload 5, 2), (57, .iaload, 1), (58, .ifCond .ne 13, 3)] 61 (by decide +kernel) ?_
          refine sb_aload_n rfl ?_
          refine ss_getR g12_71 h217 r217_39 ?_
          refine sb_iload rfl ?_
          refine sb_aload_n rfl ?_
          refine ss_getR g12_46 h217 r217_21 ?_
          refine sb_iload rfl ?_
          obtain ⟨hgz24, h⟩ := gd h
          refine ss_iald h230 hgz24 ?_
          obtain ⟨yz28, hj83, h⟩ := bd h
          have hJ83 : RN P 2 kX12_runs 83 [(0, .ref 217), (1, .int x1), (3, .int x3), (4, .int x4), (5, .int x5)] [.int yz28, .int x4, .ref 237] (S M) r := by
            refine sb_in [(83, .iastore, 1), (84, .iload 4, 2), (86, .iconst 1, 1), (87, .iadd, 1), (88, .istore 4, 2), (90, .goto 80, 3)] 93 (by decide +kernel) ?_
            obtain ⟨hgz30, h⟩ := gd h
            refine ss_iast h237 (by decide) hgz30 ?_
            refine sb_iload rfl ?_
            refine sb_iconst cI1 ?_
            refine sb_iadd ?_
            refine sb_istore (by decide) rfl ?_
            refine sb_goto 170 (by decide) ?_
            cases h
            exact rn_sub [0, 1, 3, 4, 5] rfl hJ170
          clear h
          have h := hj83
          clear hj83
          rcases ife h with ⟨cz39, h⟩ | ⟨cz39, h⟩
          · refine sb_if_ne_f 71 cz39 (by decide) ?_
            refine sb_in [(61, .aload_n 0, 1), (62, .getfield 49, 3), (65, .iload 5, 2), (67, .iaload, 1), (68, .goto 15, 3)] 71 (by decide +kernel) ?_
            refine sb_aload_n rfl ?_
            refine ss_getR g12_49 h217 r217_22 ?_
            refine sb_iload rfl ?_
            obtain ⟨hgz27, h⟩ := gd h
            refine ss_iald h231 hgz27 ?_
            refine sb_goto 83 (by decide) ?_
            cases h
            exact rn_sub [0, 1, 3, 4, 5] rfl hJ83
          · refine sb_if_ne_t 71 cz39 (by decide) ?_
            refine sb_in [(71, .aload_n 0, 1), (72, .getfield 68, 3), (75, .aload_n 0, 1), (76, .getfield 49, 3), (79, .iload 5, 2), (81, .iaload, 1), (82, .iaload, 1)] 83 (by decide +kernel) ?_
            refine sb_aload_n rfl ?_
            refine ss_getR g12_68 h217 r217_38 ?_
            refine sb_aload_n rfl ?_
            refine ss_getR g12_49 h217 r217_22 ?_
            refine sb_iload rfl ?_
            obtain ⟨hgz25, h⟩ := gd h
            refine ss_iald h231 hgz25 ?_
            obtain ⟨hgz26, h⟩ := gd h
            refine ss_iald h236 hgz26 ?_
            refine sb_end ?_
            cases h
            exact rn_sub [0, 1, 3, 4, 5] rfl hJ83
        · refine sb_icmp_ne_t 93 cz38 (by decide) ?_
          refine sb_in [(93, .aload_n 0, 1), (94, .getfield 46, 3), (97, .iload 5, 2), (99, .iaload, 1), (100, .bipush 9, 2), (102, .if_icmp .ne 26, 3)] 105 (by decide +kernel) ?_
          refine sb_aload_n rfl ?_
          refine ss_getR g12_46 h217 r217_21 ?_
          refine sb_iload rfl ?_
          obtain ⟨hgz12, h⟩ := gd h
          refine ss_iald h230 hgz12 ?_
          refine sb_bipush cB9 ?_
          rcases ife h with ⟨cz40, h⟩ | ⟨cz40, h⟩
          · refine sb_icmp_ne_f 128 cz40 (by decide) ?_
            refine sb_in [(105, .aload_n 0, 1), (106, .getfield 71, 3), (109, .iload 4, 2), (111, .iconst 1, 1), (112, .isub, 1), (113, .iconst 1, 1), (114, .aload_n 0, 1), (115, .getfield 71, 3), (118, .iload 4, 2), (120, .iconst 1, 1), (121, .isub, 1), (122, .iaload, 1), (123, .isub, 1), (124, .iastore, 1), (125, .goto 45, 3)] 128 (by decide +kernel) ?_
            refine sb_aload_n rfl ?_
            refine ss_getR g12_71 h217 r217_39 ?_
            refine sb_iload rfl ?_
            refine sb_iconst cI1 ?_
            refine sb_isub ?_
            refine sb_iconst cI1 ?_
            refine sb_aload_n rfl ?_
            refine ss_getR g12_71 h217 r217_39 ?_
            refine sb_iload rfl ?_
            refine sb_iconst cI1 ?_
            refine sb_isub ?_
            obtain ⟨hgz21, h⟩ := gd h
            refine ss_iald h237 hgz21 ?_
            refine sb_isub ?_
            obtain ⟨hgz23, h⟩ := gd h
            refine ss_iast h237 (by decide) hgz23 ?_
            refine sb_goto 170 (by decide) ?_
            cases h
            exact rn_sub [0, 1, 3, 4, 5] rfl hJ170
          · refine sb_icmp_ne_t 128 cz40 (by decide) ?_
            refine sb_in [(128, .iload 4, 2), (130, .iconst 1, 1), (131, .isub, 1), (132, .istore 4, 2), (134, .aload_n 0, 1), (135, .getfield 71, 3), (138, .iload 4, 2), (140, .iconst 1, 1), (141, .isub, 1), (142, .aload_n 0, 1), (143, .aload_n 0, 1), (144, .getfield 46, 3), (147, .iload 5, 2), (149, .iaload, 1), (150, .aload_n 0, 1), (151, .getfield 71, 3), (154, .iload 4, 2), (156, .iconst 1, 1), (157, .isub, 1), (158, .iaload, 1), (159, .aload_n 0, 1), (160, .getfield 71, 3), (163, .iload 4, 2), (165, .iaload, 1), (166, .invokevirtual 306, 3), (169, .iastore, 1)] 170 (by decide +kernel) ?_
            refine sb_iload rfl ?_
            refine sb_iconst cI1 ?_
            refine sb_isub ?_
            refine sb_istore (by decide) rfl ?_
            refine sb_aload_n rfl ?_
            refine ss_getR g12_71 h217 r217_39 ?_
            refine sb_iload rfl ?_
            refine sb_iconst cI1 ?_
            refine sb_isub ?_
            refine sb_aload_n rfl ?_
            refine sb_aload_n rfl ?_
            refine ss_getR g12_46 h217 r217_21 ?_
            refine sb_iload rfl ?_
            obtain ⟨hgz14, h⟩ := gd h
            refine ss_iald h230 hgz14 ?_
            refine sb_aload_n rfl ?_
            refine ss_getR g12_71 h217 r217_39 ?_
            refine sb_iload rfl ?_
            refine sb_iconst cI1 ?_
            refine sb_isub ?_
            obtain ⟨hgz15, h⟩ := gd h
            refine ss_iald h237 hgz15 ?_
            refine sb_aload_n rfl ?_
            refine ss_getR g12_71 h217 r217_39 ?_
            refine sb_iload rfl ?_
            obtain ⟨hgz16, h⟩ := gd h
            refine ss_iald h237 hgz16 ?_
            obtain ⟨qz18, hez17, h⟩ := bd h
            refine sb_callVi 3 rfl oX12_twoOf ln12_306 vX12_twoOf (rc_own h217.1 (S_lt h217.2) (by decide)) (rnCk_of (by decide +kernel) rfl) (tfM_twoOf hez17) ?_
            obtain ⟨hgz20, h⟩ := gd h
            refine ss_iast h237 (by decide) hgz20 ?_
            refine sb_end ?_
            cases h
            exact rn_sub [0, 1, 3, 4, 5] rfl hJ170
  · clear hl12
    obtain ⟨Mz34, hey⟩ : ∃ z, z = e12 := ⟨_, rfl⟩
    subst hey
    show RN P 2 kX12_runs 176 [(0, .ref 217)] [] (S Mz34) r
    refine sb_in [(176, .aload_n 0, 1), (177, .getfield 71, 3), (180, .iconst 0, 1), (181, .iaload, 1), (182, .ireturn, 1)] 183 (by decide +kernel) ?_
    refine sb_aload_n rfl ?_
    refine ss_getR g12_71 h217 r217_39 ?_
    refine sb_iconst cI0 ?_
    refine ss_ialdL 0 h237 iL0 rfl ?_
    cases h
    subst hr
    refine sb_ireturn ?_
    exact ⟨.int, rfl, rfl⟩
theorem tfM_runs {P : Px} {x1 : Int32} {x2 : Int32} {x3 : Int32} {M : Mm} {rr : (Int32 × Mm)} (h : fM_runs x1 x2 x3 M = some rr) : EX P 2 kX12_runs [.ref 217, .int x1, .int x2, .int x3] (S M) (some (.int rr.1), S rr.2) := ex_of oX12_runs (Nat.le_of_ble_eq_true rfl) (nfM_runs  h rfl)
set_option maxRecDepth 20000 in
theorem nfM_lineOf {P : Px} {x1 : Int32} {M : Mm} {rr : (Int32 × Mm)} (h : fM_lineOf x1 M = some rr) {r : Option Value × Sg} (hr : r = (some (.int rr.1), S rr.2)) : RN P 3 kX12_lineOf 0 [(0, .ref 217), (1, .int x1)] [] (S M) r := by
  unfold fM_lineOf at h
  refine sb_in [(0, .iconst 0, 1), (1, .istore_n 2, 1)] 2 (by decide +kernel) ?_
  refine sb_iconst cI0 ?_
  refine sb_istore_n (by decide) rfl ?_
  refine sb_end ?_
  obtain ⟨e2, hl2, h⟩ := bd h
  refine rn_sub [0, 1, 2] rfl ?_
  refine lp_ind (P := fun s => RN P 3 kX12_lineOf 2 [(0, .ref 217), (1, .int x1), (2, .int s.1)] [] (S s.2) r) (E := fun e => match e with | Sum.inl p => RN P 3 kX12_lineOf 57 [(2, .int p.1)] [] (S p.2) r | Sum.inr p => RN P 3 kX12_lineOf 65 [] [] (S p) r) ?_ _ _ _ hl2 ?_
  · intro s qx h hc
    obtain ⟨x2, M⟩ := s
    replace h : fM_lineOf_b2 x1 x2 M = some qx := h
    show RN P 3 kX12_lineOf 2 [(0, .ref 217), (1, .int x1), (2, .int x2)] [] (S M) r
    unfold fM_lineOf_b2 at h
    refine sb_in [(2, .iload_n 2, 1), (3, .aload_n 0, 1), (4, .getfield 31, 3), (7, .iconst 0, 1), (8, .iaload, 1), (9, .if_icmp .ge 56, 3)] 12 (by decide +kernel) ?_
    refine sb_iload_n rfl ?_
    refine sb_aload_n rfl ?_
    refine ss_getR g12_31 h217 r217_16 ?_
    refine sb_iconst cI0 ?_
    refine ss_ialdL 0 h225 iL0 rfl ?_
    rcases ife h with ⟨cz11, h⟩ | ⟨cz11, h⟩
    · refine sb_icmp_ge_t 65 cz11 (by decide) ?_
      cases h
      exact rn_sub [] rfl hc
    · refine sb_icmp_ge_f 65 cz11 (by decide) ?_
      refine sb_in [(12, .aload_n 0, 1), (13, .getfield 34, 3), (16, .iload_n 2, 1), (17, .iaload, 1), (18, .iload_n 1, 1), (19, .if_icmp .ne 40, 3)] 22 (by decide +kernel) ?_
      refine sb_aload_n rfl ?_
      refine ss_getR g12_34 h217 r217_17 ?_
      refine sb_iload_n rfl ?_
      obtain ⟨hgz1, h⟩ := gd h
      refine ss_iald h226 hgz1 ?_
      refine sb_iload_n rfl ?_
      have hJ59 : ∀ (z2 : Int32) (M : Mm), fM_lineOf_j59 x1 z2 M = some qx → RN P 3 kX12_lineOf 59 [(0, .ref 217), (1, .int x1), (2, .int z2)] [] (S M) r := by
        intro z2 M h
        unfold fM_lineOf_j59 at h
        refine sb_in [(59, .iinc 2 1, 3), (62, .goto (-60), 3)] 65 (by decide +kernel) ?_
        refine ss_iinc cI1 rfl (by decide) rfl ?_
        refine sb_goto 2 (by decide) ?_
        cases h
        exact rn_sub [0, 1, 2] rfl hc
      rcases ife h with ⟨cz12, h⟩ | ⟨cz12, h⟩
      · refine sb_icmp_ne_f 59 cz12 (by decide) ?_
        refine sb_in [(22, .aload_n 0, 1), (23, .getfield 40, 3), (26, .iload_n 2, 1), (27, .iaload, 1), (28, .aload_n 0, 1), (29, .getfield 43, 3), (32, .iload_n 2, 1), (33, .iaload, 1), (34, .if_icmp .eq 23, 3)] 37 (by decide +kernel) ?_
        refine sb_aload_n rfl ?_
        refine ss_getR g12_40 h217 r217_19 ?_
        refine sb_iload_n rfl ?_
        obtain ⟨hgz2, h⟩ := gd h
        refine ss_iald h228 hgz2 ?_
        refine sb_aload_n rfl ?_
        refine ss_getR g12_43 h217 r217_20 ?_
        refine sb_iload_n rfl ?_
        obtain ⟨hgz3, h⟩ := gd h
        refine ss_iald h229 hgz3 ?_
        rcases ife h with ⟨cz13, h⟩ | ⟨cz13, h⟩
        · refine sb_icmp_eq_t 57 cz13 (by decide) ?_
          cases h
          exact rn_sub [2] rfl hc
        · refine sb_icmp_eq_f 57 cz13 (by decide) ?_
          refine sb_in [(37, .aload_n 0, 1), (38, .iconst 0, 1), (39, .aload_n 0, 1), (40, .getfield 40, 3), (43, .iload_n 2, 1), (44, .iaload, 1), (45, .aload_n 0, 1), (46, .getfield 43, 3), (49, .iload_n 2, 1), (50, .iaload, 1), (51, .invokevirtual 309, 3), (54, .ifCond .eq 5, 3)] 57 (by decide +kernel) ?_
          refine sb_aload_n rfl ?_
          refine sb_iconst cI0 ?_
          refine sb_aload_n rfl ?_
          refine ss_getR g12_40 h217 r217_19 ?_
          refine sb_iload_n rfl ?_
          obtain ⟨hgz4, h⟩ := gd h
          refine ss_iald h228 hgz4 ?_
          refine sb_aload_n rfl ?_
          refine ss_getR g12_43 h217 r217_20 ?_
          refine sb_iload_n rfl ?_
          obtain ⟨hgz5, h⟩ := gd h
          refine ss_iald h229 hgz5 ?_
          obtain ⟨qz7, hez6, h⟩ := bd h
          refine sb_callVi 3 rfl oX12_runs ln12_309 vX12_runs (rc_own h217.1 (S_lt h217.2) (by decide)) (rnCk_of (by decide +kernel) rfl) (tfM_runs hez6) ?_
          rcases ife h with ⟨cz14, h⟩ | ⟨cz14, h⟩
          · refine sb_if_eq_t 59 cz14 (by decide) ?_
            exact rn_sub [0, 1, 2] rfl (hJ59 _ _ h)
          · refine sb_if_eq_f 59 cz14 (by decide) ?_
            cases h
            exact rn_sub [2] rfl hc
      · refine sb_icmp_ne_t 59 cz12 (by decide) ?_
        exact rn_sub [0, 1, 2] rfl (hJ59 _ _ h)
  · clear hl2
    rcases e2 with e2 | e2
    · skip
      obtain ⟨yz8, Mz9⟩ := e2
      show RN P 3 kX12_lineOf 57 [(2, .int yz8)] [] (S Mz9) r
      refine sb_in [(57, .iload_n 2, 1), (58, .ireturn, 1)] 59 (by decide +kernel) ?_
      refine sb_iload_n rfl ?_
      cases h
      subst hr
      refine sb_ireturn ?_
      exact ⟨.int, rfl, rfl⟩
    · skip
      obtain ⟨Mz10, hey⟩ : ∃ z, z = e2 := ⟨_, rfl⟩
      subst hey
      show RN P 3 kX12_lineOf 65 [] [] (S Mz10) r
      refine sb_in [(65, .iconst (-1), 1), (66, .ireturn, 1)] 67 (by decide +kernel) ?_
      refine sb_iconst cIm1 ?_
      cases h
      subst hr
      refine sb_ireturn ?_
      exact ⟨.int, rfl, rfl⟩
theorem tfM_lineOf {P : Px} {x1 : Int32} {M : Mm} {rr : (Int32 × Mm)} (h : fM_lineOf x1 M = some rr) : EX P 3 kX12_lineOf [.ref 217, .int x1] (S M) (some (.int rr.1), S rr.2) := ex_of oX12_lineOf (Nat.le_of_ble_eq_true rfl) (nfM_lineOf  h rfl)
set_option maxRecDepth 20000 in
theorem nfM_asks {P : Px} {x1 : Int32} {x2 : Int32} {x3 : Int32} {x4 : Int32} {M : Mm} {rr : Mm} (h : fM_asks x1 x2 x3 x4 M = some rr) {r : Option Value × Sg} (hr : r = (none, S rr)) : RN P 2 kX12_asks 0 [(0, .ref 217), (1, .int x1), (2, .int x2), (3, .int x3), (4, .int x4)] [] (S M) r := by
  unfold fM_asks at h
  refine sb_in [(0, .aload_n 0, 1), (1, .getfield 68, 3), (4, .iconst 0, 1), (5, .iload_n 2, 1), (6, .iastore, 1), (7, .aload_n 0, 1), (8, .getfield 68, 3), (11, .iconst 1, 1), (12, .iload_n 3, 1), (13, .iastore, 1), (14, .aload_n 0, 1), (15, .getfield 68, 3), (18, .iconst 2, 1), (19, .iload 4, 2), (21, .iastore, 1), (22, .aload_n 0, 1), (23, .getfield 68, 3), (26, .iconst 3, 1), (27, .aload_n 0, 1), (28, .getfield 7, 3), (31, .bipush 18, 2), (33, .iload_n 1, 1), (34, .iadd, 1), (35, .iaload, 1), (36, .iastore, 1), (37, .aload_n 0, 1), (38, .getfield 68, 3), (41, .iconst 4, 1), (42, .aload_n 0, 1), (43, .getfield 19, 3), (46, .iload_n 1, 1), (47, .iaload, 1), (48, .iastore, 1), (49, .aload_n 0, 1), (50, .getfield 68, 3), (53, .iconst 5, 1), (54, .aload_n 0, 1), (55, .getfield 7, 3), (58, .bipush 30, 2), (60, .iload_n 1, 1), (61, .iadd, 1), (62, .iaload, 1), (63, .iastore, 1), (64, .aload_n 0, 1), (65, .getfield 68, 3), (68, .bipush 6, 2), (70, .aload_n 0, 1), (71, .invokevirtual 312, 3), (74, .iastore, 1), (75, .aload_n 0, 1), (76, .getfield 68, 3), (79, .bipush 7, 2), (81, .aload_n 0, 1), (82, .getfield 7, 3), (85, .iconst 5, 1), (86, .iaload, 1), (87, .iastore, 1), (88, .aload_n 0, 1), (89, .getfield 68, 3), (92, .bipush 8, 2), (94, .aload_n 0, 1), (95, .getfield 7, 3), (98, .iconst 3, 1), (99, .iaload, 1), (100, .iastore, 1), (101, .aload_n 0, 1), (102, .getfield 68, 3), (105, .bipush 9, 2), (107, .aload_n 0, 1), (108, .getfield 7, 3), (111, .bipush 8, 2), (113, .iaload, 1), (114, .iastore, 1), (115, .aload_n 0, 1), (116, .getfield 68, 3), (119, .bipush 10, 2), (121, .aload_n 0, 1), (122, .getfield 7, 3), (125, .iconst 0, 1), (126, .iaload, 1), (127, .iastore, 1), (128, .return_, 1)] 129 (by decide +kernel) ?_
  refine sb_aload_n rfl ?_
  refine ss_getR g12_68 h217 r217_38 ?_
  refine sb_iconst cI0 ?_
  refine sb_iload_n rfl ?_
  refine ss_iastL 0 h236 (by decide) iL0 rfl ?_
  refine sb_aload_n rfl ?_
  refine ss_getR g12_68 h217 r217_38 ?_
  refine sb_iconst cI1 ?_
  refine sb_iload_n rfl ?_
  refine ss_iastL 1 h236 (by decide) iL1 rfl ?_
  refine sb_aload_n rfl ?_
  refine ss_getR g12_68 h217 r217_38 ?_
  refine sb_iconst cI2 ?_
  refine sb_iload rfl ?_
  refine ss_iastL 2 h236 (by decide) iL2 rfl ?_
  refine sb_aload_n rfl ?_
  refine ss_getR g12_68 h217 r217_38 ?_
  refine sb_iconst cI3 ?_
  refine sb_aload_n rfl ?_
  refine ss_getR g12_7 h217 r217_1 ?_
  refine sb_bipush cB18 ?_
  refine sb_iload_n rfl ?_
  refine sb_iadd ?_
  obtain ⟨hgz4, h⟩ := gd h
  refine ss_iald h218 hgz4 ?_
  refine ss_iastL 3 h236 (by decide) iL3 rfl ?_
  refine sb_aload_n rfl ?_
  refine ss_getR g12_68 h217 r217_38 ?_
  refine sb_iconst cI4 ?_
  refine sb_aload_n rfl ?_
  refine ss_getR g12_19 h217 r217_7 ?_
  refine sb_iload_n rfl ?_
  obtain ⟨hgz6, h⟩ := gd h
  refine ss_iald h221 hgz6 ?_
  refine ss_iastL 4 h236 (by decide) iL4 rfl ?_
  refine sb_aload_n rfl ?_
  refine ss_getR g12_68 h217 r217_38 ?_
  refine sb_iconst cI5 ?_
  refine sb_aload_n rfl ?_
  refine ss_getR g12_7 h217 r217_1 ?_
  refine sb_bipush cB30 ?_
  refine sb_iload_n rfl ?_
  refine sb_iadd ?_
  obtain ⟨hgz8, h⟩ := gd h
  refine ss_iald h218 hgz8 ?_
  refine ss_iastL 5 h236 (by decide) iL5 rfl ?_
  refine sb_aload_n rfl ?_
  refine ss_getR g12_68 h217 r217_38 ?_
  refine sb_bipush cB6 ?_
  refine sb_aload_n rfl ?_
  refine sb_callVi 0 rfl oX12_health ln12_312 vX12_health (rc_own h217.1 (S_lt h217.2) (by decide)) (rnCk_of (by decide +kernel) rfl) (tfM_health) ?_
  refine ss_iastL 6 h236 (by decide) iL6 rfl ?_
  refine sb_aload_n rfl ?_
  refine ss_getR g12_68 h217 r217_38 ?_
  refine sb_bipush cB7 ?_
  refine sb_aload_n rfl ?_
  refine ss_getR g12_7 h217 r217_1 ?_
  refine sb_iconst cI5 ?_
  refine ss_ialdL 5 h218 iL5 rfl ?_
  refine ss_iastL 7 h236 (by decide) iL7 rfl ?_
  refine sb_aload_n rfl ?_
  refine ss_getR g12_68 h217 r217_38 ?_
  refine sb_bipush cB8 ?_
  refine sb_aload_n rfl ?_
  refine ss_getR g12_7 h217 r217_1 ?_
  refine sb_iconst cI3 ?_
  refine ss_ialdL 3 h218 iL3 rfl ?_
  refine ss_iastL 8 h236 (by decide) iL8 rfl ?_
  refine sb_aload_n rfl ?_
  refine ss_getR g12_68 h217 r217_38 ?_
  refine sb_bipush cB9 ?_
  refine sb_aload_n rfl ?_
  refine ss_getR g12_7 h217 r217_1 ?_
  refine sb_bipush cB8 ?_
  refine ss_ialdL 8 h218 iL8 rfl ?_
  refine ss_iastL 9 h236 (by decide) iL9 rfl ?_
  refine sb_aload_n rfl ?_
  refine ss_getR g12_68 h217 r217_38 ?_
  refine sb_bipush cB10 ?_
  refine sb_aload_n rfl ?_
  refine ss_getR g12_7 h217 r217_1 ?_
  refine sb_iconst cI0 ?_
  refine ss_ialdL 0 h218 iL0 rfl ?_
  refine ss_iastL 10 h236 (by decide) iL10 rfl ?_
  cases h
  subst hr
  refine sb_return ?_
  exact rfl
theorem tfM_asks {P : Px} {x1 : Int32} {x2 : Int32} {x3 : Int32} {x4 : Int32} {M : Mm} {rr : Mm} (h : fM_asks x1 x2 x3 x4 M = some rr) : EX P 2 kX12_asks [.ref 217, .int x1, .int x2, .int x3, .int x4] (S M) (none, S rr) := ex_of oX12_asks (Nat.le_of_ble_eq_true rfl) (nfM_asks  h rfl)
set_option maxRecDepth 20000 in
theorem nfM_lawTells {P : Px} {x1 : Int32} {x2 : Int32} {x3 : Int32} {M : Mm} {rr : (Int32 × Mm)} (h : fM_lawTells x1 x2 x3 M = some rr) {r : Option Value × Sg} (hr : r = (some (.int rr.1), S rr.2)) : RN P 4 kX12_lawTells 0 [(0, .ref 217), (1, .int x1), (2, .int x2), (3, .int x3)] [] (S M) r := by
  unfold fM_lawTells at h
  refine sb_in [(0, .aload_n 0, 1), (1, .iload_n 1, 1), (2, .invokevirtual 315, 3), (5, .istore 4, 2), (7, .aload_n 0, 1), (8, .iload 4, 2), (10, .iconst (-1), 1), (11, .if_icmp .ne 7, 3)] 14 (by decide +kernel) ?_
  refine sb_aload_n rfl ?_
  refine sb_iload_n rfl ?_
  obtain ⟨qz2, hez1, h⟩ := bd h
  refine sb_callVi 1 rfl oX12_lineOf ln12_315 vX12_lineOf (rc_own h217.1 (S_lt h217.2) (by decide)) (rnCk_of (by decide +kernel) rfl) (tfM_lineOf hez1) ?_
  refine sb_istore (by decide) rfl ?_
  refine sb_aload_n rfl ?_
  refine sb_iload rfl ?_
  refine sb_iconst cIm1 ?_
  rcases ife h with ⟨cz9, h⟩ | ⟨cz9, h⟩
  · refine sb_icmp_ne_f 18 cz9 (by decide) ?_
    refine sb_in [(14, .iload_n 2, 1), (15, .goto 22, 3)] 18 (by decide +kernel) ?_
    refine sb_iload_n rfl ?_
    refine sb_goto 37 (by decide) ?_
    refine sb_in [(37, .iconst 0, 1), (38, .iload_n 3, 1), (39, .invokevirtual 132, 3), (42, .ireturn, 1)] 43 (by decide +kernel) ?_
    refine sb_iconst cI0 ?_
    refine sb_iload_n rfl ?_
    refine sb_callVi 3 rfl oX12_held ln12_132 vX12_held (rc_own h217.1 (S_lt h217.2) (by decide)) (rnCk_of (by decide +kernel) rfl) (tfM_held) ?_
    cases h
    subst hr
    refine sb_ireturn ?_
    exact ⟨.int, rfl, rfl⟩
  · refine sb_icmp_ne_t 18 cz9 (by decide) ?_
    refine sb_in [(18, .aload_n 0, 1), (19, .iconst 0, 1), (20, .aload_n 0, 1), (21, .getfield 37, 3), (24, .iload 4, 2), (26, .iaload, 1), (27, .aload_n 0, 1), (28, .getfield 40, 3), (31, .iload 4, 2), (33, .iaload, 1), (34, .invokevirtual 309, 3)] 37 (by decide +kernel) ?_
    refine sb_aload_n rfl ?_
    refine sb_iconst cI0 ?_
    refine sb_aload_n rfl ?_
    refine ss_getR g12_37 h217 r217_18 ?_
    refine sb_iload rfl ?_
    obtain ⟨hgz3, h⟩ := gd h
    refine ss_iald h227 hgz3 ?_
    refine sb_aload_n rfl ?_
    refine ss_getR g12_40 h217 r217_19 ?_
    refine sb_iload rfl ?_
    obtain ⟨hgz4, h⟩ := gd h
    refine ss_iald h228 hgz4 ?_
    obtain ⟨qz6, hez5, h⟩ := bd h
    refine sb_callVi 3 rfl oX12_runs ln12_309 vX12_runs (rc_own h217.1 (S_lt h217.2) (by decide)) (rnCk_of (by decide +kernel) rfl) (tfM_runs hez5) ?_
    refine sb_end ?_
    refine sb_in [(37, .iconst 0, 1), (38, .iload_n 3, 1), (39, .invokevirtual 132, 3), (42, .ireturn, 1)] 43 (by decide +kernel) ?_
    refine sb_iconst cI0 ?_
    refine sb_iload_n rfl ?_
    refine sb_callVi 3 rfl oX12_held ln12_132 vX12_held (rc_own h217.1 (S_lt h217.2) (by decide)) (rnCk_of (by decide +kernel) rfl) (tfM_held) ?_
    cases h
    subst hr
    refine sb_ireturn ?_
    exact ⟨.int, rfl, rfl⟩
theorem tfM_lawTells {P : Px} {x1 : Int32} {x2 : Int32} {x3 : Int32} {M : Mm} {rr : (Int32 × Mm)} (h : fM_lawTells x1 x2 x3 M = some rr) : EX P 4 kX12_lawTells [.ref 217, .int x1, .int x2, .int x3] (S M) (some (.int rr.1), S rr.2) := ex_of oX12_lawTells (Nat.le_of_ble_eq_true rfl) (nfM_lawTells  h rfl)
set_option maxRecDepth 20000 in
theorem nfM_opensNow {P : Px} {M : Mm} {rr : (Int32 × Mm)} (h : fM_opensNow M = some rr) {r : Option Value × Sg} (hr : r = (some (.int rr.1), S rr.2)) : RN P 5 kX12_opensNow 0 [(0, .ref 217)] [] (S M) r := by
  unfold fM_opensNow at h
  refine sb_in [(0, .aload_n 0, 1), (1, .iconst 0, 1), (2, .sipush 900, 3), (5, .bipush 100, 2), (7, .aload_n 0, 1), (8, .getfield 7, 3), (11, .bipush 8, 2), (13, .iaload, 1), (14, .imul, 1), (15, .isub, 1), (16, .bipush 20, 2), (18, .aload_n 0, 1), (19, .getfield 68, 3), (22, .iconst 3, 1), (23, .iaload, 1), (24, .imul, 1), (25, .iadd, 1), (26, .sipush 1000, 3), (29, .invokevirtual 318, 3), (32, .ireturn, 1)] 33 (by decide +kernel) ?_
  refine sb_aload_n rfl ?_
  refine sb_iconst cI0 ?_
  refine sb_sipush cS900 ?_
  refine sb_bipush cB100 ?_
  refine sb_aload_n rfl ?_
  refine ss_getR g12_7 h217 r217_1 ?_
  refine sb_bipush cB8 ?_
  refine ss_ialdL 8 h218 iL8 rfl ?_
  refine sb_imul ?_
  refine sb_isub ?_
  refine sb_bipush cB20 ?_
  refine sb_aload_n rfl ?_
  refine ss_getR g12_68 h217 r217_38 ?_
  refine sb_iconst cI3 ?_
  refine ss_ialdL 3 h236 iL3 rfl ?_
  refine sb_imul ?_
  refine sb_iadd ?_
  refine sb_sipush cS1000 ?_
  obtain ⟨qz2, hez1, h⟩ := bd h
  refine sb_callVi 3 rfl oX12_lawTells ln12_318 vX12_lawTells (rc_own h217.1 (S_lt h217.2) (by decide)) (rnCk_of (by decide +kernel) rfl) (tfM_lawTells hez1) ?_
  cases h
  subst hr
  refine sb_ireturn ?_
  exact ⟨.int, rfl, rfl⟩
theorem tfM_opensNow {P : Px} {M : Mm} {rr : (Int32 × Mm)} (h : fM_opensNow M = some rr) : EX P 5 kX12_opensNow [.ref 217] (S M) (some (.int rr.1), S rr.2) := ex_of oX12_opensNow (Nat.le_of_ble_eq_true rfl) (nfM_opensNow  h rfl)
set_option maxRecDepth 20000 in
theorem nfM_givesNow {P : Px} {M : Mm} {rr : (Int32 × Mm)} (h : fM_givesNow M = some rr) {r : Option Value × Sg} (hr : r = (some (.int rr.1), S rr.2)) : RN P 5 kX12_givesNow 0 [(0, .ref 217)] [] (S M) r := by
  unfold fM_givesNow at h
  refine sb_in [(0, .aload_n 0, 1), (1, .iconst 1, 1), (2, .aload_n 0, 1), (3, .getfield 68, 3), (6, .iconst 1, 1), (7, .iaload, 1), (8, .bipush 99, 2), (10, .invokevirtual 318, 3), (13, .ireturn, 1)] 14 (by decide +kernel) ?_
  refine sb_aload_n rfl ?_
  refine sb_iconst cI1 ?_
  refine sb_aload_n rfl ?_
  refine ss_getR g12_68 h217 r217_38 ?_
  refine sb_iconst cI1 ?_
  refine ss_ialdL 1 h236 iL1 rfl ?_
  refine sb_bipush cB99 ?_
  obtain ⟨qz2, hez1, h⟩ := bd h
  refine sb_callVi 3 rfl oX12_lawTells ln12_318 vX12_lawTells (rc_own h217.1 (S_lt h217.2) (by decide)) (rnCk_of (by decide +kernel) rfl) (tfM_lawTells hez1) ?_
  cases h
  subst hr
  refine sb_ireturn ?_
  exact ⟨.int, rfl, rfl⟩
theorem tfM_givesNow {P : Px} {M : Mm} {rr : (Int32 × Mm)} (h : fM_givesNow M = some rr) : EX P 5 kX12_givesNow [.ref 217] (S M) (some (.int rr.1), S rr.2) := ex_of oX12_givesNow (Nat.le_of_ble_eq_true rfl) (nfM_givesNow  h rfl)
set_option maxRecDepth 20000 in
theorem nfM_tiresNow {P : Px} {M : Mm} {rr : (Int32 × Mm)} (h : fM_tiresNow M = some rr) {r : Option Value × Sg} (hr : r = (some (.int rr.1), S rr.2)) : RN P 5 kX12_tiresNow 0 [(0, .ref 217)] [] (S M) r := by
  unfold fM_tiresNow at h
  refine sb_in [(0, .aload_n 0, 1), (1, .iconst 2, 1), (2, .iconst 1, 1), (3, .bipush 20, 2), (5, .invokevirtual 318, 3), (8, .ireturn, 1)] 9 (by decide +kernel) ?_
  refine sb_aload_n rfl ?_
  refine sb_iconst cI2 ?_
  refine sb_iconst cI1 ?_
  refine sb_bipush cB20 ?_
  obtain ⟨qz2, hez1, h⟩ := bd h
  refine sb_callVi 3 rfl oX12_lawTells ln12_318 vX12_lawTells (rc_own h217.1 (S_lt h217.2) (by decide)) (rnCk_of (by decide +kernel) rfl) (tfM_lawTells hez1) ?_
  cases h
  subst hr
  refine sb_ireturn ?_
  exact ⟨.int, rfl, rfl⟩
theorem tfM_tiresNow {P : Px} {M : Mm} {rr : (Int32 × Mm)} (h : fM_tiresNow M = some rr) : EX P 5 kX12_tiresNow [.ref 217] (S M) (some (.int rr.1), S rr.2) := ex_of oX12_tiresNow (Nat.le_of_ble_eq_true rfl) (nfM_tiresNow  h rfl)
set_option maxRecDepth 20000 in
theorem nfM_asksOf {P : Px} {x1 : Int32} {M : Mm} {rr : Mm} (h : fM_asksOf x1 M = some rr) {r : Option Value × Sg} (hr : r = (none, S rr)) : RN P 3 kX12_asksOf 0 [(0, .ref 217), (1, .int x1)] [] (S M) r := by
  unfold fM_asksOf at h
  refine sb_in [(0, .aload_n 0, 1), (1, .iload_n 1, 1), (2, .invokevirtual 136, 3), (5, .istore_n 2, 1), (6, .aload_n 0, 1), (7, .aload_n 0, 1), (8, .getfield 7, 3), (11, .iload_n 2, 1), (12, .iconst 1, 1), (13, .iadd, 1), (14, .iaload, 1), (15, .aload_n 0, 1), (16, .getfield 7, 3), (19, .iload_n 2, 1), (20, .iconst 2, 1), (21, .iadd, 1), (22, .iaload, 1), (23, .aload_n 0, 1), (24, .getfield 7, 3), (27, .iload_n 2, 1), (28, .iconst 3, 1), (29, .iadd, 1), (30, .iaload, 1), (31, .aload_n 0, 1), (32, .getfield 7, 3), (35, .iload_n 2, 1), (36, .iconst 4, 1), (37, .iadd, 1), (38, .iaload, 1), (39, .invokevirtual 321, 3), (42, .return_, 1)] 43 (by decide +kernel) ?_
  refine sb_aload_n rfl ?_
  refine sb_iload_n rfl ?_
  refine sb_callVi 1 rfl oX12_letterAt ln12_136 vX12_letterAt (rc_own h217.1 (S_lt h217.2) (by decide)) (rnCk_of (by decide +kernel) rfl) (tfM_letterAt) ?_
  refine sb_istore_n (by decide) rfl ?_
  refine sb_aload_n rfl ?_
  refine sb_aload_n rfl ?_
  refine ss_getR g12_7 h217 r217_1 ?_
  refine sb_iload_n rfl ?_
  refine sb_iconst cI1 ?_
  refine sb_iadd ?_
  obtain ⟨hgz2, h⟩ := gd h
  refine ss_iald h218 hgz2 ?_
  refine sb_aload_n rfl ?_
  refine ss_getR g12_7 h217 r217_1 ?_
  refine sb_iload_n rfl ?_
  refine sb_iconst cI2 ?_
  refine sb_iadd ?_
  obtain ⟨hgz3, h⟩ := gd h
  refine ss_iald h218 hgz3 ?_
  refine sb_aload_n rfl ?_
  refine ss_getR g12_7 h217 r217_1 ?_
  refine sb_iload_n rfl ?_
  refine sb_iconst cI3 ?_
  refine sb_iadd ?_
  obtain ⟨hgz4, h⟩ := gd h
  refine ss_iald h218 hgz4 ?_
  refine sb_aload_n rfl ?_
  refine ss_getR g12_7 h217 r217_1 ?_
  refine sb_iload_n rfl ?_
  refine sb_iconst cI4 ?_
  refine sb_iadd ?_
  obtain ⟨hgz5, h⟩ := gd h
  refine ss_iald h218 hgz5 ?_
  obtain ⟨Mz7, hez6, h⟩ := bd h
  refine sb_callVv 4 rfl oX12_asks ln12_321 vX12_asks (rc_own h217.1 (S_lt h217.2) (by decide)) (rnCk_of (by decide +kernel) rfl) (tfM_asks hez6) ?_
  cases h
  subst hr
  refine sb_return ?_
  exact rfl
theorem tfM_asksOf {P : Px} {x1 : Int32} {M : Mm} {rr : Mm} (h : fM_asksOf x1 M = some rr) : EX P 3 kX12_asksOf [.ref 217, .int x1] (S M) (none, S rr) := ex_of oX12_asksOf (Nat.le_of_ble_eq_true rfl) (nfM_asksOf  h rfl)
set_option maxRecDepth 20000 in
theorem nfM_notes {P : Px} {x1 : Int32} {x2 : Int32} {x3 : Int32} {M : Mm} {rr : Mm} (h : fM_notes x1 x2 x3 M = some rr) {r : Option Value × Sg} (hr : r = (none, S rr)) : RN P 1 kX12_notes 0 [(0, .ref 217), (1, .int x1), (2, .int x2), (3, .int x3)] [] (S M) r := by
  unfold fM_notes at h
  refine sb_in [(0, .aload_n 0, 1), (1, .getfield 123, 3), (4, .ifCond .ne 15, 3)] 7 (by decide +kernel) ?_
  refine sb_aload_n rfl ?_
  refine ss_getI g12_123 h217 ?_
  rcases ife h with ⟨cz11, h⟩ | ⟨cz11, h⟩
  · refine sb_if_ne_f 19 cz11 (by decide) ?_
    refine sb_in [(7, .aload_n 0, 1), (8, .getfield 7, 3), (11, .iconst 2, 1), (12, .iaload, 1), (13, .sipush 150, 3), (16, .if_icmp .ne 4, 3)] 19 (by decide +kernel) ?_
    refine sb_aload_n rfl ?_
    refine ss_getR g12_7 h217 r217_1 ?_
    refine sb_iconst cI2 ?_
    refine ss_ialdL 2 h218 iL2 rfl ?_
    refine sb_sipush cS150 ?_
    rcases ife h with ⟨cz12, h⟩ | ⟨cz12, h⟩
    · refine sb_icmp_ne_f 20 cz12 (by decide) ?_
      refine sb_in [(19, .return_, 1)] 20 (by decide +kernel) ?_
      cases h
      subst hr
      refine sb_return ?_
      exact rfl
    · refine sb_icmp_ne_t 20 cz12 (by decide) ?_
      refine sb_in [(20, .iconst 4, 1), (21, .aload_n 0, 1), (22, .getfield 7, 3), (25, .iconst 2, 1), (26, .iaload, 1), (27, .imul, 1), (28, .istore 4, 2), (30, .aload_n 0, 1), (31, .getfield 22, 3), (34, .iload 4, 2), (36, .aload_n 0, 1), (37, .getfield 7, 3), (40, .iconst 0, 1), (41, .iaload, 1), (42, .iastore, 1), (43, .aload_n 0, 1), (44, .getfield 22, 3), (47, .iload 4, 2), (49, .iconst 1, 1), (50, .iadd, 1), (51, .iload_n 1, 1), (52, .iastore, 1), (53, .aload_n 0, 1), (54, .getfield 22, 3), (57, .iload 4, 2), (59, .iconst 2, 1), (60, .iadd, 1), (61, .iload_n 2, 1), (62, .iastore, 1), (63, .aload_n 0, 1), (64, .getfield 22, 3), (67, .iload 4, 2), (69, .iconst 3, 1), (70, .iadd, 1), (71, .iload_n 3, 1), (72, .iastore, 1), (73, .aload_n 0, 1), (74, .getfield 7, 3), (77, .iconst 2, 1), (78, .aload_n 0, 1), (79, .getfield 7, 3), (82, .iconst 2, 1), (83, .iaload, 1), (84, .iconst 1, 1), (85, .iadd, 1), (86, .iastore, 1), (87, .return_, 1)] 88 (by decide +kernel) ?_
      refine sb_iconst cI4 ?_
      refine sb_aload_n rfl ?_
      refine ss_getR g12_7 h217 r217_1 ?_
      refine sb_iconst cI2 ?_
      refine ss_ialdL 2 h218 iL2 rfl ?_
      refine sb_imul ?_
      refine sb_istore (by decide) rfl ?_
      refine sb_aload_n rfl ?_
      refine ss_getR g12_22 h217 r217_8 ?_
      refine sb_iload rfl ?_
      refine sb_aload_n rfl ?_
      refine ss_getR g12_7 h217 r217_1 ?_
      refine sb_iconst cI0 ?_
      refine ss_ialdL 0 h218 iL0 rfl ?_
      obtain ⟨hgz3, h⟩ := gd h
      refine ss_iast h222 (by decide) hgz3 ?_
      refine sb_aload_n rfl ?_
      refine ss_getR g12_22 h217 r217_8 ?_
      refine sb_iload rfl ?_
      refine sb_iconst cI1 ?_
      refine sb_iadd ?_
      refine sb_iload_n rfl ?_
      obtain ⟨hgz5, h⟩ := gd h
      refine ss_iast h222 (by decide) hgz5 ?_
      refine sb_aload_n rfl ?_
      refine ss_getR g12_22 h217 r217_8 ?_
      refine sb_iload rfl ?_
      refine sb_iconst cI2 ?_
      refine sb_iadd ?_
      refine sb_iload_n rfl ?_
      obtain ⟨hgz7, h⟩ := gd h
      refine ss_iast h222 (by decide) hgz7 ?_
      refine sb_aload_n rfl ?_
      refine ss_getR g12_22 h217 r217_8 ?_
      refine sb_iload rfl ?_
      refine sb_iconst cI3 ?_
      refine sb_iadd ?_
      refine sb_iload_n rfl ?_
      obtain ⟨hgz9, h⟩ := gd h
      refine ss_iast h222 (by decide) hgz9 ?_
      refine sb_aload_n rfl ?_
      refine ss_getR g12_7 h217 r217_1 ?_
      refine sb_iconst cI2 ?_
      refine sb_aload_n rfl ?_
      refine ss_getR g12_7 h217 r217_1 ?_
      refine sb_iconst cI2 ?_
      refine ss_ialdL 2 h218 iL2 rfl ?_
      refine sb_iconst cI1 ?_
      refine sb_iadd ?_
      refine ss_iastL 2 h218 (by decide) iL2 rfl ?_
      cases h
      subst hr
      refine sb_return ?_
      exact rfl
  · refine sb_if_ne_t 19 cz11 (by decide) ?_
    refine sb_in [(19, .return_, 1)] 20 (by decide +kernel) ?_
    cases h
    subst hr
    refine sb_return ?_
    exact rfl
theorem tfM_notes {P : Px} {x1 : Int32} {x2 : Int32} {x3 : Int32} {M : Mm} {rr : Mm} (h : fM_notes x1 x2 x3 M = some rr) : EX P 1 kX12_notes [.ref 217, .int x1, .int x2, .int x3] (S M) (none, S rr) := ex_of oX12_notes (Nat.le_of_ble_eq_true rfl) (nfM_notes  h rfl)
set_option maxRecDepth 20000 in
theorem nfM_comes {P : Px} {x1 : Int32} {x2 : Int32} {x3 : Int32} {M : Mm} {rr : (Int32 × Mm)} (h : fM_comes x1 x2 x3 M = some rr) {r : Option Value × Sg} (hr : r = (some (.int rr.1), S rr.2)) : RN P 2 kX12_comes 0 [(0, .ref 217), (1, .int x1), (2, .int x2), (3, .int x3)] [] (S M) r := by
  unfold fM_comes at h
  refine sb_in [(0, .aload_n 0, 1), (1, .aload_n 0, 1), (2, .getfield 7, 3), (5, .bipush 10, 2), (7, .iaload, 1), (8, .invokevirtual 136, 3), (11, .istore 4, 2), (13, .aload_n 0, 1), (14, .getfield 7, 3), (17, .iload 4, 2), (19, .aload_n 0, 1), (20, .getfield 7, 3), (23, .bipush 9, 2), (25, .iaload, 1), (26, .iastore, 1), (27, .aload_n 0, 1), (28, .getfield 7, 3), (31, .iload 4, 2), (33, .iconst 1, 1), (34, .iadd, 1), (35, .iload_n 1, 1), (36, .iastore, 1), (37, .aload_n 0, 1), (38, .getfield 7, 3), (41, .iload 4, 2), (43, .iconst 2, 1), (44, .iadd, 1), (45, .iload_n 2, 1), (46, .iastore, 1), (47, .aload_n 0, 1), (48, .getfield 7, 3), (51, .iload 4, 2), (53, .iconst 3, 1), (54, .iadd, 1), (55, .iload_n 3, 1), (56, .iastore, 1), (57, .aload_n 0, 1), (58, .getfield 7, 3), (61, .iload 4, 2), (63, .iconst 4, 1), (64, .iadd, 1), (65, .iconst 0, 1), (66, .iastore, 1), (67, .aload_n 0, 1), (68, .getfield 7, 3), (71, .bipush 10, 2), (73, .aload_n 0, 1), (74, .getfield 7, 3), (77, .bipush 10, 2), (79, .iaload, 1), (80, .iconst 1, 1), (81, .iadd, 1), (82, .iastore, 1), (83, .aload_n 0, 1), (84, .getfield 7, 3), (87, .bipush 9, 2), (89, .aload_n 0, 1), (90, .getfield 7, 3), (93, .bipush 9, 2), (95, .iaload, 1), (96, .iconst 1, 1), (97, .iadd, 1), (98, .iastore, 1), (99, .aload_n 0, 1), (100, .iconst 0, 1), (101, .aload_n 0, 1), (102, .getfield 7, 3), (105, .iload 4, 2), (107, .iaload, 1), (108, .iload_n 1, 1), (109, .invokevirtual 325, 3), (112, .aload_n 0, 1), (113, .getfield 7, 3), (116, .iload 4, 2), (118, .iaload, 1), (119, .ireturn, 1)] 120 (by decide +kernel) ?_
  refine sb_aload_n rfl ?_
  refine sb_aload_n rfl ?_
  refine ss_getR g12_7 h217 r217_1 ?_
  refine sb_bipush cB10 ?_
  refine ss_ialdL 10 h218 iL10 rfl ?_
  refine sb_callVi 1 rfl oX12_letterAt ln12_136 vX12_letterAt (rc_own h217.1 (S_lt h217.2) (by decide)) (rnCk_of (by decide +kernel) rfl) (tfM_letterAt) ?_
  refine sb_istore (by decide) rfl ?_
  refine sb_aload_n rfl ?_
  refine ss_getR g12_7 h217 r217_1 ?_
  refine sb_iload rfl ?_
  refine sb_aload_n rfl ?_
  refine ss_getR g12_7 h217 r217_1 ?_
  refine sb_bipush cB9 ?_
  refine ss_ialdL 9 h218 iL9 rfl ?_
  obtain ⟨hgz3, h⟩ := gd h
  refine ss_iast h218 (by decide) hgz3 ?_
  refine sb_aload_n rfl ?_
  refine ss_getR g12_7 h217 r217_1 ?_
  refine sb_iload rfl ?_
  refine sb_iconst cI1 ?_
  refine sb_iadd ?_
  refine sb_iload_n rfl ?_
  obtain ⟨hgz5, h⟩ := gd h
  refine ss_iast h218 (by decide) hgz5 ?_
  refine sb_aload_n rfl ?_
  refine ss_getR g12_7 h217 r217_1 ?_
  refine sb_iload rfl ?_
  refine sb_iconst cI2 ?_
  refine sb_iadd ?_
  refine sb_iload_n rfl ?_
  obtain ⟨hgz7, h⟩ := gd h
  refine ss_iast h218 (by decide) hgz7 ?_
  refine sb_aload_n rfl ?_
  refine ss_getR g12_7 h217 r217_1 ?_
  refine sb_iload rfl ?_
  refine sb_iconst cI3 ?_
  refine sb_iadd ?_
  refine sb_iload_n rfl ?_
  obtain ⟨hgz9, h⟩ := gd h
  refine ss_iast h218 (by decide) hgz9 ?_
  refine sb_aload_n rfl ?_
  refine ss_getR g12_7 h217 r217_1 ?_
  refine sb_iload rfl ?_
  refine sb_iconst cI4 ?_
  refine sb_iadd ?_
  refine sb_iconst cI0 ?_
  obtain ⟨hgz11, h⟩ := gd h
  refine ss_iast h218 (by decide) hgz11 ?_
  refine sb_aload_n rfl ?_
  refine ss_getR g12_7 h217 r217_1 ?_
  refine sb_bipush cB10 ?_
  refine sb_aload_n rfl ?_
  refine ss_getR g12_7 h217 r217_1 ?_
  refine sb_bipush cB10 ?_
  refine ss_ialdL 10 h218 iL10 rfl ?_
  refine sb_iconst cI1 ?_
  refine sb_iadd ?_
  refine ss_iastL 10 h218 (by decide) iL10 rfl ?_
  refine sb_aload_n rfl ?_
  refine ss_getR g12_7 h217 r217_1 ?_
  refine sb_bipush cB9 ?_
  refine sb_aload_n rfl ?_
  refine ss_getR g12_7 h217 r217_1 ?_
  refine sb_bipush cB9 ?_
  refine ss_ialdL 9 h218 iL9 rfl ?_
  refine sb_iconst cI1 ?_
  refine sb_iadd ?_
  refine ss_iastL 9 h218 (by decide) iL9 rfl ?_
  refine sb_aload_n rfl ?_
  refine sb_iconst cI0 ?_
  refine sb_aload_n rfl ?_
  refine ss_getR g12_7 h217 r217_1 ?_
  refine sb_iload rfl ?_
  obtain ⟨hgz14, h⟩ := gd h
  refine ss_iald h218 hgz14 ?_
  refine sb_iload_n rfl ?_
  obtain ⟨Mz16, hez15, h⟩ := bd h
  refine sb_callVv 3 rfl oX12_notes ln12_325 vX12_notes (rc_own h217.1 (S_lt h217.2) (by decide)) (rnCk_of (by decide +kernel) rfl) (tfM_notes hez15) ?_
  refine sb_aload_n rfl ?_
  refine ss_getR g12_7 h217 r217_1 ?_
  refine sb_iload rfl ?_
  obtain ⟨hgz17, h⟩ := gd h
  refine ss_iald h218 hgz17 ?_
  cases h
  subst hr
  refine sb_ireturn ?_
  exact ⟨.int, rfl, rfl⟩
theorem tfM_comes {P : Px} {x1 : Int32} {x2 : Int32} {x3 : Int32} {M : Mm} {rr : (Int32 × Mm)} (h : fM_comes x1 x2 x3 M = some rr) : EX P 2 kX12_comes [.ref 217, .int x1, .int x2, .int x3] (S M) (some (.int rr.1), S rr.2) := ex_of oX12_comes (Nat.le_of_ble_eq_true rfl) (nfM_comes  h rfl)
set_option maxRecDepth 20000 in
theorem nfM_goesOut {P : Px} {x1 : Int32} {M : Mm} {rr : Mm} (h : fM_goesOut x1 M = some rr) {r : Option Value × Sg} (hr : r = (none, S rr)) : RN P 2 kX12_goesOut 0 [(0, .ref 217), (1, .int x1)] [] (S M) r := by
  unfold fM_goesOut at h
  refine sb_in [(0, .aload_n 0, 1), (1, .getfield 7, 3), (4, .bipush 10, 2), (6, .aload_n 0, 1), (7, .getfield 7, 3), (10, .bipush 10, 2), (12, .iaload, 1), (13, .iconst 1, 1), (14, .isub, 1), (15, .iastore, 1), (16, .aload_n 0, 1), (17, .iload_n 1, 1), (18, .invokevirtual 136, 3), (21, .istore_n 2, 1)] 22 (by decide +kernel) ?_
  refine sb_aload_n rfl ?_
  refine ss_getR g12_7 h217 r217_1 ?_
  refine sb_bipush cB10 ?_
  refine sb_aload_n rfl ?_
  refine ss_getR g12_7 h217 r217_1 ?_
  refine sb_bipush cB10 ?_
  refine ss_ialdL 10 h218 iL10 rfl ?_
  refine sb_iconst cI1 ?_
  refine sb_isub ?_
  refine ss_iastL 10 h218 (by decide) iL10 rfl ?_
  refine sb_aload_n rfl ?_
  refine sb_iload_n rfl ?_
  refine sb_callVi 1 rfl oX12_letterAt ln12_136 vX12_letterAt (rc_own h217.1 (S_lt h217.2) (by decide)) (rnCk_of (by decide +kernel) rfl) (tfM_letterAt) ?_
  refine sb_istore_n (by decide) rfl ?_
  refine sb_end ?_
  obtain ⟨e22, hl22, h⟩ := bd h
  refine rn_sub [0, 2] rfl ?_
  refine lp_ind (P := fun s => RN P 2 kX12_goesOut 22 [(0, .ref 217), (2, .int s.1)] [] (S s.2) r) (E := fun p => RN P 2 kX12_goesOut 57 [] [] (S p) r) ?_ _ _ _ hl22 ?_
  · intro s qx h hc
    obtain ⟨x2, M⟩ := s
    replace h : fM_goesOut_b22 x2 M = some qx := h
    show RN P 2 kX12_goesOut 22 [(0, .ref 217), (2, .int x2)] [] (S M) r
    unfold fM_goesOut_b22 at h
    refine sb_in [(22, .iload_n 2, 1), (23, .aload_n 0, 1), (24, .aload_n 0, 1), (25, .getfield 7, 3), (28, .bipush 10, 2), (30, .iaload, 1), (31, .invokevirtual 136, 3), (34, .if_icmp .ge 23, 3)] 37 (by decide +kernel) ?_
    refine sb_iload_n rfl ?_
    refine sb_aload_n rfl ?_
    refine sb_aload_n rfl ?_
    refine ss_getR g12_7 h217 r217_1 ?_
    refine sb_bipush cB10 ?_
    refine ss_ialdL 10 h218 iL10 rfl ?_
    refine sb_callVi 1 rfl oX12_letterAt ln12_136 vX12_letterAt (rc_own h217.1 (S_lt h217.2) (by decide)) (rnCk_of (by decide +kernel) rfl) (tfM_letterAt) ?_
    rcases ife h with ⟨cz8, h⟩ | ⟨cz8, h⟩
    · refine sb_icmp_ge_t 57 cz8 (by decide) ?_
      cases h
      exact rn_sub [] rfl hc
    · refine sb_icmp_ge_f 57 cz8 (by decide) ?_
      refine sb_in [(37, .aload_n 0, 1), (38, .getfield 7, 3), (41, .iload_n 2, 1), (42, .aload_n 0, 1), (43, .getfield 7, 3), (46, .iload_n 2, 1), (47, .iconst 5, 1), (48, .iadd, 1), (49, .iaload, 1), (50, .iastore, 1), (51, .iinc 2 1, 3), (54, .goto (-32), 3)] 57 (by decide +kernel) ?_
      refine sb_aload_n rfl ?_
      refine ss_getR g12_7 h217 r217_1 ?_
      refine sb_iload_n rfl ?_
      refine sb_aload_n rfl ?_
      refine ss_getR g12_7 h217 r217_1 ?_
      refine sb_iload_n rfl ?_
      refine sb_iconst cI5 ?_
      refine sb_iadd ?_
      obtain ⟨hgz4, h⟩ := gd h
      refine ss_iald h218 hgz4 ?_
      obtain ⟨hgz6, h⟩ := gd h
      refine ss_iast h218 (by decide) hgz6 ?_
      refine ss_iinc cI1 rfl (by decide) rfl ?_
      refine sb_goto 22 (by decide) ?_
      cases h
      exact rn_sub [0, 2] rfl hc
  · clear hl22
    obtain ⟨Mz7, hey⟩ : ∃ z, z = e22 := ⟨_, rfl⟩
    subst hey
    show RN P 2 kX12_goesOut 57 [] [] (S Mz7) r
    refine sb_in [(57, .return_, 1)] 58 (by decide +kernel) ?_
    cases h
    subst hr
    refine sb_return ?_
    exact rfl
theorem tfM_goesOut {P : Px} {x1 : Int32} {M : Mm} {rr : Mm} (h : fM_goesOut x1 M = some rr) : EX P 2 kX12_goesOut [.ref 217, .int x1] (S M) (none, S rr) := ex_of oX12_goesOut (Nat.le_of_ble_eq_true rfl) (nfM_goesOut  h rfl)
set_option maxRecDepth 20000 in
theorem nfM_looks {P : Px} {x1 : Int32} {x2 : Int32} {M : Mm} {rr : Mm} (h : fM_looks x1 x2 M = some rr) {r : Option Value × Sg} (hr : r = (none, S rr)) : RN P 2 kX12_looks 0 [(0, .ref 217), (1, .int x1), (2, .int x2)] [] (S M) r := by
  unfold fM_looks at h
  refine sb_in [(0, .aload_n 0, 1), (1, .getfield 7, 3), (4, .bipush 18, 2), (6, .iload_n 1, 1), (7, .iadd, 1), (8, .aload_n 0, 1), (9, .aload_n 0, 1), (10, .getfield 7, 3), (13, .bipush 18, 2), (15, .iload_n 1, 1), (16, .iadd, 1), (17, .iaload, 1), (18, .iload_n 2, 1), (19, .iadd, 1), (20, .bipush (-9), 2), (22, .bipush 9, 2), (24, .invokevirtual 132, 3), (27, .iastore, 1), (28, .return_, 1)] 29 (by decide +kernel) ?_
  refine sb_aload_n rfl ?_
  refine ss_getR g12_7 h217 r217_1 ?_
  refine sb_bipush cB18 ?_
  refine sb_iload_n rfl ?_
  refine sb_iadd ?_
  refine sb_aload_n rfl ?_
  refine sb_aload_n rfl ?_
  refine ss_getR g12_7 h217 r217_1 ?_
  refine sb_bipush cB18 ?_
  refine sb_iload_n rfl ?_
  refine sb_iadd ?_
  obtain ⟨hgz1, h⟩ := gd h
  refine ss_iald h218 hgz1 ?_
  refine sb_iload_n rfl ?_
  refine sb_iadd ?_
  refine sb_bipush cBm9 ?_
  refine sb_bipush cB9 ?_
  refine sb_callVi 3 rfl oX12_held ln12_132 vX12_held (rc_own h217.1 (S_lt h217.2) (by decide)) (rnCk_of (by decide +kernel) rfl) (tfM_held) ?_
  obtain ⟨hgz4, h⟩ := gd h
  refine ss_iast h218 (by decide) hgz4 ?_
  cases h
  subst hr
  refine sb_return ?_
  exact rfl
theorem tfM_looks {P : Px} {x1 : Int32} {x2 : Int32} {M : Mm} {rr : Mm} (h : fM_looks x1 x2 M = some rr) : EX P 2 kX12_looks [.ref 217, .int x1, .int x2] (S M) (none, S rr) := ex_of oX12_looks (Nat.le_of_ble_eq_true rfl) (nfM_looks  h rfl)
set_option maxRecDepth 20000 in
theorem nfM_changes {P : Px} {x1 : Int32} {x2 : Int32} {x3 : Int32} {M : Mm} {rr : Mm} (h : fM_changes x1 x2 x3 M = some rr) {r : Option Value × Sg} (hr : r = (none, S rr)) : RN P 3 kX12_changes 0 [(0, .ref 217), (1, .int x1), (2, .int x2), (3, .int x3)] [] (S M) r := by
  unfold fM_changes at h
  refine sb_in [(0, .iload_n 2, 1), (1, .ifCond .eq 13, 3)] 4 (by decide +kernel) ?_
  refine sb_iload_n rfl ?_
  obtain ⟨Mz7, hj20, h⟩ := bd h
  have hJ20 : RN P 3 kX12_changes 20 [(0, .ref 217), (1, .int x1), (2, .int x2), (3, .int x3)] [] (S Mz7) r := by
    refine sb_in [(20, .iload_n 2, 1), (21, .iconst 2, 1), (22, .if_icmp .ne 9, 3)] 25 (by decide +kernel) ?_
    refine sb_iload_n rfl ?_
    refine sb_iconst cI2 ?_
    obtain ⟨Mz10, hj31, h⟩ := bd h
    have hJ31 : RN P 3 kX12_changes 31 [(0, .ref 217), (1, .int x1), (2, .int x2), (3, .int x3)] [] (S Mz10) r := by
      refine sb_in [(31, .iload_n 2, 1), (32, .bipush 6, 2), (34, .if_icmp .ne 9, 3)] 37 (by decide +kernel) ?_
      refine sb_iload_n rfl ?_
      refine sb_bipush cB6 ?_
      obtain ⟨Mz13, hj43, h⟩ := bd h
      have hJ43 : RN P 3 kX12_changes 43 [(0, .ref 217), (2, .int x2), (3, .int x3)] [] (S Mz13) r := by
        refine sb_in [(43, .iload_n 2, 1), (44, .iconst 3, 1), (45, .if_icmp .ne 13, 3)] 48 (by decide +kernel) ?_
        refine sb_iload_n rfl ?_
        refine sb_iconst cI3 ?_
        obtain ⟨Mz16, hj58, h⟩ := bd h
        have hJ58 : RN P 3 kX12_changes 58 [(0, .ref 217), (2, .int x2), (3, .int x3)] [] (S Mz16) r := by
          refine sb_in [(58, .iload_n 2, 1), (59, .iconst 4, 1), (60, .if_icmp .ne 22, 3)] 63 (by decide +kernel) ?_
          refine sb_iload_n rfl ?_
          refine sb_iconst cI4 ?_
          rcases ife h with ⟨cz19, h⟩ | ⟨cz19, h⟩
          · refine sb_icmp_ne_f 82 cz19 (by decide) ?_
            refine sb_in [(63, .aload_n 0, 1), (64, .getfield 7, 3), (67, .iconst 5, 1), (68, .aload_n 0, 1), (69, .iconst 0, 1), (70, .aload_n 0, 1), (71, .getfield 7, 3), (74, .iconst 5, 1), (75, .iaload, 1), (76, .iload_n 3, 1), (77, .isub, 1), (78, .invokevirtual 332, 3), (81, .iastore, 1)] 82 (by decide +kernel) ?_
            refine sb_aload_n rfl ?_
            refine ss_getR g12_7 h217 r217_1 ?_
            refine sb_iconst cI5 ?_
            refine sb_aload_n rfl ?_
            refine sb_iconst cI0 ?_
            refine sb_aload_n rfl ?_
            refine ss_getR g12_7 h217 r217_1 ?_
            refine sb_iconst cI5 ?_
            refine ss_ialdL 5 h218 iL5 rfl ?_
            refine sb_iload_n rfl ?_
            refine sb_isub ?_
            refine sb_callVi 2 rfl oX12_greater ln12_332 vX12_greater (rc_own h217.1 (S_lt h217.2) (by decide)) (rnCk_of (by decide +kernel) rfl) (tfM_greater) ?_
            refine ss_iastL 5 h218 (by decide) iL5 rfl ?_
            refine sb_end ?_
            refine sb_in [(82, .return_, 1)] 83 (by decide +kernel) ?_
            cases h
            subst hr
            refine sb_return ?_
            exact rfl
          · refine sb_icmp_ne_t 82 cz19 (by decide) ?_
            refine sb_in [(82, .return_, 1)] 83 (by decide +kernel) ?_
            cases h
            subst hr
            refine sb_return ?_
            exact rfl
        clear h
        have h := hj58
        clear hj58
        rcases ife h with ⟨cz20, h⟩ | ⟨cz20, h⟩
        · refine sb_icmp_ne_f 58 cz20 (by decide) ?_
          refine sb_in [(48, .aload_n 0, 1), (49, .aload_n 0, 1), (50, .invokevirtual 312, 3), (53, .iload_n 3, 1), (54, .isub, 1), (55, .invokevirtual 154, 3)] 58 (by decide +kernel) ?_
          refine sb_aload_n rfl ?_
          refine sb_aload_n rfl ?_
          refine sb_callVi 0 rfl oX12_health ln12_312 vX12_health (rc_own h217.1 (S_lt h217.2) (by decide)) (rnCk_of (by decide +kernel) rfl) (tfM_health) ?_
          refine sb_iload_n rfl ?_
          refine sb_isub ?_
          refine sb_callVv 1 rfl oX12_hasHealth ln12_154 vX12_hasHealth (rc_own h217.1 (S_lt h217.2) (by decide)) (rnCk_of (by decide +kernel) rfl) (tfM_hasHealth) ?_
          refine sb_end ?_
          cases h
          exact rn_sub [0, 2, 3] rfl hJ58
        · refine sb_icmp_ne_t 58 cz20 (by decide) ?_
          cases h
          exact rn_sub [0, 2, 3] rfl hJ58
      clear h
      have h := hj43
      clear hj43
      rcases ife h with ⟨cz21, h⟩ | ⟨cz21, h⟩
      · refine sb_icmp_ne_f 43 cz21 (by decide) ?_
        refine sb_in [(37, .aload_n 0, 1), (38, .iload_n 1, 1), (39, .iconst 2, 1), (40, .invokevirtual 329, 3)] 43 (by decide +kernel) ?_
        refine sb_aload_n rfl ?_
        refine sb_iload_n rfl ?_
        refine sb_iconst cI2 ?_
        obtain ⟨Mz12, hez11, h⟩ := bd h
        refine sb_callVv 2 rfl oX12_looks ln12_329 vX12_looks (rc_own h217.1 (S_lt h217.2) (by decide)) (rnCk_of (by decide +kernel) rfl) (tfM_looks hez11) ?_
        refine sb_end ?_
        cases h
        exact rn_sub [0, 2, 3] rfl hJ43
      · refine sb_icmp_ne_t 43 cz21 (by decide) ?_
        cases h
        exact rn_sub [0, 2, 3] rfl hJ43
    clear h
    have h := hj31
    clear hj31
    rcases ife h with ⟨cz22, h⟩ | ⟨cz22, h⟩
    · refine sb_icmp_ne_f 31 cz22 (by decide) ?_
      refine sb_in [(25, .aload_n 0, 1), (26, .iload_n 1, 1), (27, .iconst 1, 1), (28, .invokevirtual 329, 3)] 31 (by decide +kernel) ?_
      refine sb_aload_n rfl ?_
      refine sb_iload_n rfl ?_
      refine sb_iconst cI1 ?_
      obtain ⟨Mz9, hez8, h⟩ := bd h
      refine sb_callVv 2 rfl oX12_looks ln12_329 vX12_looks (rc_own h217.1 (S_lt h217.2) (by decide)) (rnCk_of (by decide +kernel) rfl) (tfM_looks hez8) ?_
      refine sb_end ?_
      cases h
      exact rn_sub [0, 1, 2, 3] rfl hJ31
    · refine sb_icmp_ne_t 31 cz22 (by decide) ?_
      cases h
      exact rn_sub [0, 1, 2, 3] rfl hJ31
  clear h
  have h := hj20
  clear hj20
  rcases ife h with ⟨cz23, h⟩ | ⟨cz23, h⟩
  · refine sb_if_eq_t 14 cz23 (by decide) ?_
    refine sb_in [(14, .aload_n 0, 1), (15, .iload_n 1, 1), (16, .iconst (-1), 1), (17, .invokevirtual 329, 3)] 20 (by decide +kernel) ?_
    refine sb_aload_n rfl ?_
    refine sb_iload_n rfl ?_
    refine sb_iconst cIm1 ?_
    obtain ⟨Mz2, hez1, h⟩ := bd h
    refine sb_callVv 2 rfl oX12_looks ln12_329 vX12_looks (rc_own h217.1 (S_lt h217.2) (by decide)) (rnCk_of (by decide +kernel) rfl) (tfM_looks hez1) ?_
    refine sb_end ?_
    cases h
    exact rn_sub [0, 1, 2, 3] rfl hJ20
  · refine sb_if_eq_f 14 cz23 (by decide) ?_
    refine sb_in [(4, .iload_n 2, 1), (5, .iconst 1, 1), (6, .if_icmp .eq 8, 3)] 9 (by decide +kernel) ?_
    refine sb_iload_n rfl ?_
    refine sb_iconst cI1 ?_
    rcases ife h with ⟨cz24, h⟩ | ⟨cz24, h⟩
    · refine sb_icmp_eq_t 14 cz24 (by decide) ?_
      refine sb_in [(14, .aload_n 0, 1), (15, .iload_n 1, 1), (16, .iconst (-1), 1), (17, .invokevirtual 329, 3)] 20 (by decide +kernel) ?_
      refine sb_aload_n rfl ?_
      refine sb_iload_n rfl ?_
      refine sb_iconst cIm1 ?_
      obtain ⟨Mz4, hez3, h⟩ := bd h
      refine sb_callVv 2 rfl oX12_looks ln12_329 vX12_looks (rc_own h217.1 (S_lt h217.2) (by decide)) (rnCk_of (by decide +kernel) rfl) (tfM_looks hez3) ?_
      refine sb_end ?_
      cases h
      exact rn_sub [0, 1, 2, 3] rfl hJ20
    · refine sb_icmp_eq_f 14 cz24 (by decide) ?_
      refine sb_in [(9, .iload_n 2, 1), (10, .iconst 3, 1), (11, .if_icmp .ne 9, 3)] 14 (by decide +kernel) ?_
      refine sb_iload_n rfl ?_
      refine sb_iconst cI3 ?_
      rcases ife h with ⟨cz25, h⟩ | ⟨cz25, h⟩
      · refine sb_icmp_ne_f 20 cz25 (by decide) ?_
        refine sb_in [(14, .aload_n 0, 1), (15, .iload_n 1, 1), (16, .iconst (-1), 1), (17, .invokevirtual 329, 3)] 20 (by decide +kernel) ?_
        refine sb_aload_n rfl ?_
        refine sb_iload_n rfl ?_
        refine sb_iconst cIm1 ?_
        obtain ⟨Mz6, hez5, h⟩ := bd h
        refine sb_callVv 2 rfl oX12_looks ln12_329 vX12_looks (rc_own h217.1 (S_lt h217.2) (by decide)) (rnCk_of (by decide +kernel) rfl) (tfM_looks hez5) ?_
        refine sb_end ?_
        cases h
        exact rn_sub [0, 1, 2, 3] rfl hJ20
      · refine sb_icmp_ne_t 20 cz25 (by decide) ?_
        cases h
        exact rn_sub [0, 1, 2, 3] rfl hJ20
theorem tfM_changes {P : Px} {x1 : Int32} {x2 : Int32} {x3 : Int32} {M : Mm} {rr : Mm} (h : fM_changes x1 x2 x3 M = some rr) : EX P 3 kX12_changes [.ref 217, .int x1, .int x2, .int x3] (S M) (none, S rr) := ex_of oX12_changes (Nat.le_of_ble_eq_true rfl) (nfM_changes  h rfl)
set_option maxRecDepth 20000 in
theorem nfM_isGiven {P : Px} {x1 : Int32} {x2 : Int32} {x3 : Int32} {x4 : Int32} {M : Mm} {rr : Mm} (h : fM_isGiven x1 x2 x3 x4 M = some rr) {r : Option Value × Sg} (hr : r = (none, S rr)) : RN P 4 kX12_isGiven 0 [(0, .ref 217), (1, .int x1), (2, .int x2), (3, .int x3), (4, .int x4)] [] (S M) r := by
  unfold fM_isGiven at h
  refine sb_in [(0, .aload_n 0, 1), (1, .getfield 7, 3), (4, .bipush 11, 2), (6, .iload_n 2, 1), (7, .iadd, 1), (8, .aload_n 0, 1), (9, .getfield 7, 3), (12, .bipush 11, 2), (14, .iload_n 2, 1), (15, .iadd, 1), (16, .iaload, 1), (17, .iload 4, 2), (19, .iadd, 1), (20, .iastore, 1), (21, .iload_n 2, 1), (22, .iconst 1, 1), (23, .if_icmp .ne 24, 3)] 26 (by decide +kernel) ?_
  refine sb_aload_n rfl ?_
  refine ss_getR g12_7 h217 r217_1 ?_
  refine sb_bipush cB11 ?_
  refine sb_iload_n rfl ?_
  refine sb_iadd ?_
  refine sb_aload_n rfl ?_
  refine ss_getR g12_7 h217 r217_1 ?_
  refine sb_bipush cB11 ?_
  refine sb_iload_n rfl ?_
  refine sb_iadd ?_
  obtain ⟨hgz1, h⟩ := gd h
  refine ss_iald h218 hgz1 ?_
  refine sb_iload rfl ?_
  refine sb_iadd ?_
  obtain ⟨hgz3, h⟩ := gd h
  refine ss_iast h218 (by decide) hgz3 ?_
  refine sb_iload_n rfl ?_
  refine sb_iconst cI1 ?_
  obtain ⟨Mz7, hj47, h⟩ := bd h
  have hJ47 : RN P 4 kX12_isGiven 47 [(0, .ref 217), (1, .int x1), (2, .int x2), (3, .int x3), (4, .int x4)] [] (S Mz7) r := by
    refine sb_in [(47, .aload_n 0, 1), (48, .iload_n 1, 1), (49, .iload_n 2, 1), (50, .iload 4, 2), (52, .invokevirtual 335, 3), (55, .iload_n 2, 1), (56, .ifCond .ne 35, 3)] 59 (by decide +kernel) ?_
    refine sb_aload_n rfl ?_
    refine sb_iload_n rfl ?_
    refine sb_iload_n rfl ?_
    refine sb_iload rfl ?_
    obtain ⟨Mz9, hez8, h⟩ := bd h
    refine sb_callVv 3 rfl oX12_changes ln12_335 vX12_changes (rc_own h217.1 (S_lt h217.2) (by decide)) (rnCk_of (by decide +kernel) rfl) (tfM_changes hez8) ?_
    refine sb_iload_n rfl ?_
    obtain ⟨Mz13, hj91, h⟩ := bd h
    have hJ91 : RN P 4 kX12_isGiven 91 [(0, .ref 217), (1, .int x1)] [] (S Mz13) r := by
      refine sb_in [(91, .aload_n 0, 1), (92, .getfield 7, 3), (95, .bipush 42, 2), (97, .iload_n 1, 1), (98, .iadd, 1), (99, .aload_n 0, 1), (100, .getfield 7, 3), (103, .bipush 42, 2), (105, .iload_n 1, 1), (106, .iadd, 1), (107, .iaload, 1), (108, .iconst 1, 1), (109, .iadd, 1), (110, .iastore, 1), (111, .return_, 1)] 112 (by decide +kernel) ?_
      refine sb_aload_n rfl ?_
      refine ss_getR g12_7 h217 r217_1 ?_
      refine sb_bipush cB42 ?_
      refine sb_iload_n rfl ?_
      refine sb_iadd ?_
      refine sb_aload_n rfl ?_
      refine ss_getR g12_7 h217 r217_1 ?_
      refine sb_bipush cB42 ?_
      refine sb_iload_n rfl ?_
      refine sb_iadd ?_
      obtain ⟨hgz14, h⟩ := gd h
      refine ss_iald h218 hgz14 ?_
      refine sb_iconst cI1 ?_
      refine sb_iadd ?_
      obtain ⟨hgz16, h⟩ := gd h
      refine ss_iast h218 (by decide) hgz16 ?_
      cases h
      subst hr
      refine sb_return ?_
      exact rfl
    clear h
    have h := hj91
    clear hj91
    rcases ife h with ⟨cz17, h⟩ | ⟨cz17, h⟩
    · refine sb_if_ne_f 91 cz17 (by decide) ?_
      refine sb_in [(59, .iload_n 3, 1), (60, .bipush 50, 2), (62, .if_icmp .lt 29, 3)] 65 (by decide +kernel) ?_
      refine sb_iload_n rfl ?_
      refine sb_bipush cB50 ?_
      rcases ife h with ⟨cz18, h⟩ | ⟨cz18, h⟩
      · refine sb_icmp_lt_t 91 cz18 (by decide) ?_
        cases h
        exact rn_sub [0, 1] rfl hJ91
      · refine sb_icmp_lt_f 91 cz18 (by decide) ?_
        refine sb_in [(65, .aload_n 0, 1), (66, .getfield 7, 3), (69, .bipush 6, 2), (71, .aload_n 0, 1), (72, .getfield 7, 3), (75, .bipush 6, 2), (77, .iaload, 1), (78, .iconst 1, 1), (79, .iadd, 1), (80, .iastore, 1), (81, .aload_n 0, 1), (82, .aload_n 0, 1), (83, .invokevirtual 312, 3), (86, .iconst 5, 1), (87, .iadd, 1), (88, .invokevirtual 154, 3)] 91 (by decide +kernel) ?_
        refine sb_aload_n rfl ?_
        refine ss_getR g12_7 h217 r217_1 ?_
        refine sb_bipush cB6 ?_
        refine sb_aload_n rfl ?_
        refine ss_getR g12_7 h217 r217_1 ?_
        refine sb_bipush cB6 ?_
        refine ss_ialdL 6 h218 iL6 rfl ?_
        refine sb_iconst cI1 ?_
        refine sb_iadd ?_
        refine ss_iastL 6 h218 (by decide) iL6 rfl ?_
        refine sb_aload_n rfl ?_
        refine sb_aload_n rfl ?_
        refine sb_callVi 0 rfl oX12_health ln12_312 vX12_health (rc_own h217.1 (S_lt h217.2) (by decide)) (rnCk_of (by decide +kernel) rfl) (tfM_health) ?_
        refine sb_iconst cI5 ?_
        refine sb_iadd ?_
        refine sb_callVv 1 rfl oX12_hasHealth ln12_154 vX12_hasHealth (rc_own h217.1 (S_lt h217.2) (by decide)) (rnCk_of (by decide +kernel) rfl) (tfM_hasHealth) ?_
        refine sb_end ?_
        cases h
        exact rn_sub [0, 1] rfl hJ91
    · refine sb_if_ne_t 91 cz17 (by decide) ?_
      cases h
      exact rn_sub [0, 1] rfl hJ91
  clear h
  have h := hj47
  clear hj47
  rcases ife h with ⟨cz19, h⟩ | ⟨cz19, h⟩
  · refine sb_icmp_ne_f 47 cz19 (by decide) ?_
    refine sb_in [(26, .aload_n 0, 1), (27, .getfield 7, 3), (30, .bipush 30, 2), (32, .iload_n 1, 1), (33, .iadd, 1), (34, .aload_n 0, 1), (35, .getfield 7, 3), (38, .bipush 30, 2), (40, .iload_n 1, 1), (41, .iadd, 1), (42, .iaload, 1), (43, .iload 4, 2), (45, .isub, 1), (46, .iastore, 1)] 47 (by decide +kernel) ?_
    refine sb_aload_n rfl ?_
    refine ss_getR g12_7 h217 r217_1 ?_
    refine sb_bipush cB30 ?_
    refine sb_iload_n rfl ?_
    refine sb_iadd ?_
    refine sb_aload_n rfl ?_
    refine ss_getR g12_7 h217 r217_1 ?_
    refine sb_bipush cB30 ?_
    refine sb_iload_n rfl ?_
    refine sb_iadd ?_
    obtain ⟨hgz4, h⟩ := gd h
    refine ss_iald h218 hgz4 ?_
    refine sb_iload rfl ?_
    refine sb_isub ?_
    obtain ⟨hgz6, h⟩ := gd h
    refine ss_iast h218 (by decide) hgz6 ?_
    refine sb_end ?_
    cases h
    exact rn_sub [0, 1, 2, 3, 4] rfl hJ47
  · refine sb_icmp_ne_t 47 cz19 (by decide) ?_
    cases h
    exact rn_sub [0, 1, 2, 3, 4] rfl hJ47
theorem tfM_isGiven {P : Px} {x1 : Int32} {x2 : Int32} {x3 : Int32} {x4 : Int32} {M : Mm} {rr : Mm} (h : fM_isGiven x1 x2 x3 x4 M = some rr) : EX P 4 kX12_isGiven [.ref 217, .int x1, .int x2, .int x3, .int x4] (S M) (none, S rr) := ex_of oX12_isGiven (Nat.le_of_ble_eq_true rfl) (nfM_isGiven  h rfl)
set_option maxRecDepth 20000 in
theorem nfM_isOpen {P : Px} {x1 : Int32} {M : Mm} {rr : (Int32 × Mm)} (h : fM_isOpen x1 M = some rr) {r : Option Value × Sg} (hr : r = (some (.int rr.1), S rr.2)) : RN P 2 kX12_isOpen 0 [(0, .ref 217), (1, .int x1)] [] (S M) r := by
  unfold fM_isOpen at h
  refine sb_in [(0, .aload_n 0, 1), (1, .getfield 123, 3), (4, .ifCond .eq 20, 3)] 7 (by decide +kernel) ?_
  refine sb_aload_n rfl ?_
  refine ss_getI g12_123 h217 ?_
  rcases ife h with ⟨cz3, h⟩ | ⟨cz3, h⟩
  · refine sb_if_eq_t 24 cz3 (by decide) ?_
    refine sb_in [(24, .aload_n 0, 1), (25, .sipush 1000, 3), (28, .invokevirtual 338, 3), (31, .iload_n 1, 1), (32, .if_icmp .ge 7, 3)] 35 (by decide +kernel) ?_
    refine sb_aload_n rfl ?_
    refine sb_sipush cS1000 ?_
    obtain ⟨qz2, hez1, h⟩ := bd h
    refine sb_callVi 1 rfl oX12_draw ln12_338 vX12_draw (rc_own h217.1 (S_lt h217.2) (by decide)) (rnCk_of (by decide +kernel) rfl) (tfM_draw hez1) ?_
    refine sb_iload_n rfl ?_
    rcases ife h with ⟨cz4, h⟩ | ⟨cz4, h⟩
    · refine sb_icmp_ge_t 39 cz4 (by decide) ?_
      refine sb_in [(39, .iconst 0, 1)] 40 (by decide +kernel) ?_
      refine sb_iconst cI0 ?_
      refine sb_end ?_
      refine sb_in [(40, .ireturn, 1)] 41 (by decide +kernel) ?_
      cases h
      subst hr
      refine sb_ireturn ?_
      exact ⟨.boolean, rfl, by decide⟩
    · refine sb_icmp_ge_f 39 cz4 (by decide) ?_
      refine sb_in [(35, .iconst 1, 1), (36, .goto 4, 3)] 39 (by decide +kernel) ?_
      refine sb_iconst cI1 ?_
      refine sb_goto 40 (by decide) ?_
      refine sb_in [(40, .ireturn, 1)] 41 (by decide +kernel) ?_
      cases h
      subst hr
      refine sb_ireturn ?_
      exact ⟨.boolean, rfl, by decide⟩
  · refine sb_if_eq_f 24 cz3 (by decide) ?_
    refine sb_in [(7, .iconst 2, 1), (8, .iload_n 1, 1), (9, .imul, 1), (10, .sipush 1000, 3), (13, .if_icmp .lt 7, 3)] 16 (by decide +kernel) ?_
    refine sb_iconst cI2 ?_
    refine sb_iload_n rfl ?_
    refine sb_imul ?_
    refine sb_sipush cS1000 ?_
    rcases ife h with ⟨cz5, h⟩ | ⟨cz5, h⟩
    · refine sb_icmp_lt_t 20 cz5 (by decide) ?_
      refine sb_in [(20, .iconst 0, 1), (21, .goto 19, 3)] 24 (by decide +kernel) ?_
      refine sb_iconst cI0 ?_
      refine sb_goto 40 (by decide) ?_
      refine sb_in [(40, .ireturn, 1)] 41 (by decide +kernel) ?_
      cases h
      subst hr
      refine sb_ireturn ?_
      exact ⟨.boolean, rfl, by decide⟩
    · refine sb_icmp_lt_f 20 cz5 (by decide) ?_
      refine sb_in [(16, .iconst 1, 1), (17, .goto 23, 3)] 20 (by decide +kernel) ?_
      refine sb_iconst cI1 ?_
      refine sb_goto 40 (by decide) ?_
      refine sb_in [(40, .ireturn, 1)] 41 (by decide +kernel) ?_
      cases h
      subst hr
      refine sb_ireturn ?_
      exact ⟨.boolean, rfl, by decide⟩
theorem tfM_isOpen {P : Px} {x1 : Int32} {M : Mm} {rr : (Int32 × Mm)} (h : fM_isOpen x1 M = some rr) : EX P 2 kX12_isOpen [.ref 217, .int x1] (S M) (some (.int rr.1), S rr.2) := ex_of oX12_isOpen (Nat.le_of_ble_eq_true rfl) (nfM_isOpen  h rfl)
set_option maxRecDepth 20000 in
theorem nfM_brings {P : Px} {x1 : Int32} {M : Mm} {rr : (Int32 × Mm)} (h : fM_brings x1 M = some rr) {r : Option Value × Sg} (hr : r = (some (.int rr.1), S rr.2)) : RN P 6 kX12_brings 0 [(0, .ref 217), (1, .int x1)] [] (S M) r := by
  unfold fM_brings at h
  refine sb_in [(0, .aload_n 0, 1), (1, .iload_n 1, 1), (2, .invokevirtual 136, 3), (5, .istore_n 2, 1), (6, .aload_n 0, 1), (7, .getfield 7, 3), (10, .iload_n 2, 1), (11, .iaload, 1), (12, .istore_n 3, 1), (13, .aload_n 0, 1), (14, .getfield 7, 3), (17, .iload_n 2, 1), (18, .iconst 1, 1), (19, .iadd, 1), (20, .iaload, 1), (21, .istore 4, 2), (23, .aload_n 0, 1), (24, .getfield 7, 3), (27, .iload_n 2, 1), (28, .iconst 2, 1), (29, .iadd, 1), (30, .iaload, 1), (31, .istore 5, 2), (33, .aload_n 0, 1), (34, .getfield 7, 3), (37, .iload_n 2, 1), (38, .iconst 3, 1), (39, .iadd, 1), (40, .iaload, 1), (41, .istore 6, 2), (43, .aload_n 0, 1), (44, .getfield 7, 3), (47, .iload_n 2, 1), (48, .iconst 4, 1), (49, .iadd, 1), (50, .iaload, 1), (51, .istore 7, 2), (53, .aload_n 0, 1), (54, .iload_n 1, 1), (55, .invokevirtual 341, 3), (58, .iconst (-1), 1), (59, .istore 8, 2), (61, .aload_n 0, 1), (62, .aload_n 0, 1), (63, .invokevirtual 344, 3), (66, .invokevirtual 347, 3), (69, .ifCond .eq 69, 3)] 72 (by decide +kernel) ?_
  refine sb_aload_n rfl ?_
  refine sb_iload_n rfl ?_
  refine sb_callVi 1 rfl oX12_letterAt ln12_136 vX12_letterAt (rc_own h217.1 (S_lt h217.2) (by decide)) (rnCk_of (by decide +kernel) rfl) (tfM_letterAt) ?_
  refine sb_istore_n (by decide) rfl ?_
  refine sb_aload_n rfl ?_
  refine ss_getR g12_7 h217 r217_1 ?_
  refine sb_iload_n rfl ?_
  obtain ⟨hgz2, h⟩ := gd h
  refine ss_iald h218 hgz2 ?_
  refine sb_istore_n (by decide) rfl ?_
  refine sb_aload_n rfl ?_
  refine ss_getR g12_7 h217 r217_1 ?_
  refine sb_iload_n rfl ?_
  refine sb_iconst cI1 ?_
  refine sb_iadd ?_
  obtain ⟨hgz4, h⟩ := gd h
  refine ss_iald h218 hgz4 ?_
  refine sb_istore (by decide) rfl ?_
  refine sb_aload_n rfl ?_
  refine ss_getR g12_7 h217 r217_1 ?_
  refine sb_iload_n rfl ?_
  refine sb_iconst cI2 ?_
  refine sb_iadd ?_
  obtain ⟨hgz6, h⟩ := gd h
  refine ss_iald h218 hgz6 ?_
  refine sb_istore (by decide) rfl ?_
  refine sb_aload_n rfl ?_
  refine ss_getR g12_7 h217 r217_1 ?_
  refine sb_iload_n rfl ?_
  refine sb_iconst cI3 ?_
  refine sb_iadd ?_
  obtain ⟨hgz8, h⟩ := gd h
  refine ss_iald h218 hgz8 ?_
  refine sb_istore (by decide) rfl ?_
  refine sb_aload_n rfl ?_
  refine ss_getR g12_7 h217 r217_1 ?_
  refine sb_iload_n rfl ?_
  refine sb_iconst cI4 ?_
  refine sb_iadd ?_
  obtain ⟨hgz10, h⟩ := gd h
  refine ss_iald h218 hgz10 ?_
  refine sb_istore (by decide) rfl ?_
  refine sb_aload_n rfl ?_
  refine sb_iload_n rfl ?_
  obtain ⟨Mz13, hez12, h⟩ := bd h
  refine sb_callVv 1 rfl oX12_asksOf ln12_341 vX12_asksOf (rc_own h217.1 (S_lt h217.2) (by decide)) (rnCk_of (by decide +kernel) rfl) (tfM_asksOf hez12) ?_
  refine sb_iconst cIm1 ?_
  refine sb_istore (by decide) rfl ?_
  refine sb_aload_n rfl ?_
  refine sb_aload_n rfl ?_
  obtain ⟨qz15, hez14, h⟩ := bd h
  refine sb_callVi 0 rfl oX12_opensNow ln12_344 vX12_opensNow (rc_own h217.1 (S_lt h217.2) (by decide)) (rnCk_of (by decide +kernel) rfl) (tfM_opensNow hez14) ?_
  obtain ⟨qz17, hez16, h⟩ := bd h
  refine sb_callVi 1 rfl oX12_isOpen ln12_347 vX12_isOpen (rc_own h217.1 (S_lt h217.2) (by decide)) (rnCk_of (by decide +kernel) rfl) (tfM_isOpen hez16) ?_
  obtain ⟨⟨yz36, Mz37⟩, hj146, h⟩ := bd h
  have hJ146 : RN P 6 kX12_brings 146 [(0, .ref 217), (4, .int ((M 218 (jix ((fM_letterAt x1) + 1))))), (5, .int ((M 218 (jix ((fM_letterAt x1) + 2))))), (6, .int ((M 218 (jix ((fM_letterAt x1) + 3))))), (7, .int ((M 218 (jix ((fM_letterAt x1) + 4))))), (8, .int yz36)] [] (S Mz37) r := by
    refine sb_in [(146, .aload_n 0, 1), (147, .iload 4, 2), (149, .iload 5, 2), (151, .iload 6, 2), (153, .iload 7, 2), (155, .invokevirtual 321, 3), (158, .aload_n 0, 1), (159, .getfield 7, 3), (162, .iconst 3, 1), (163, .aload_n 0, 1), (164, .bipush 99, 2), (166, .aload_n 0, 1), (167, .getfield 7, 3), (170, .iconst 3, 1), (171, .iaload, 1), (172, .aload_n 0, 1), (173, .invokevirtual 362, 3), (176, .iadd, 1), (177, .invokevirtual 353, 3), (180, .iastore, 1), (181, .iload 8, 2), (183, .ireturn, 1)] 184 (by decide +kernel) ?_
    refine sb_aload_n rfl ?_
    refine sb_iload rfl ?_
    refine sb_iload rfl ?_
    refine sb_iload rfl ?_
    refine sb_iload rfl ?_
    obtain ⟨Mz39, hez38, h⟩ := bd h
    refine sb_callVv 4 rfl oX12_asks ln12_321 vX12_asks (rc_own h217.1 (S_lt h217.2) (by decide)) (rnCk_of (by decide +kernel) rfl) (tfM_asks hez38) ?_
    refine sb_aload_n rfl ?_
    refine ss_getR g12_7 h217 r217_1 ?_
    refine sb_iconst cI3 ?_
    refine sb_aload_n rfl ?_
    refine sb_bipush cB99 ?_
    refine sb_aload_n rfl ?_
    refine ss_getR g12_7 h217 r217_1 ?_
    refine sb_iconst cI3 ?_
    refine ss_ialdL 3 h218 iL3 rfl ?_
    refine sb_aload_n rfl ?_
    obtain ⟨qz41, hez40, h⟩ := bd h
    refine sb_callVi 0 rfl oX12_tiresNow ln12_362 vX12_tiresNow (rc_own h217.1 (S_lt h217.2) (by decide)) (rnCk_of (by decide +kernel) rfl) (tfM_tiresNow hez40) ?_
    refine sb_iadd ?_
    refine sb_callVi 2 rfl oX12_lesser ln12_353 vX12_lesser (rc_own h217.1 (S_lt h217.2) (by decide)) (rnCk_of (by decide +kernel) rfl) (tfM_lesser) ?_
    refine ss_iastL 3 h218 (by decide) iL3 rfl ?_
    refine sb_iload rfl ?_
    cases h
    subst hr
    refine sb_ireturn ?_
    exact ⟨.int, rfl, rfl⟩
  clear h
  have h := hj146
  clear hj146
  rcases ife h with ⟨cz44, h⟩ | ⟨cz44, h⟩
  · refine sb_if_eq_t 138 cz44 (by decide) ?_
    refine sb_in [(138, .aload_n 0, 1), (139, .iconst 2, 1), (140, .iload_n 3, 1), (141, .iload 4, 2), (143, .invokevirtual 325, 3)] 146 (by decide +kernel) ?_
    refine sb_aload_n rfl ?_
    refine sb_iconst cI2 ?_
    refine sb_iload_n rfl ?_
    refine sb_iload rfl ?_
    obtain ⟨Mz19, hez18, h⟩ := bd h
    refine sb_callVv 3 rfl oX12_notes ln12_325 vX12_notes (rc_own h217.1 (S_lt h217.2) (by decide)) (rnCk_of (by decide +kernel) rfl) (tfM_notes hez18) ?_
    refine sb_end ?_
    cases h
    exact rn_sub [0, 4, 5, 6, 7, 8] rfl hJ146
  · refine sb_if_eq_f 138 cz44 (by decide) ?_
    refine sb_in [(72, .aload_n 0, 1), (73, .iload_n 1, 1), (74, .invokevirtual 341, 3), (77, .iload 5, 2), (79, .iconst 1, 1), (80, .if_icmp .ne 24, 3)] 83 (by decide +kernel) ?_
    refine sb_aload_n rfl ?_
    refine sb_iload_n rfl ?_
    obtain ⟨Mz21, hez20, h⟩ := bd h
    refine sb_callVv 1 rfl oX12_asksOf ln12_341 vX12_asksOf (rc_own h217.1 (S_lt h217.2) (by decide)) (rnCk_of (by decide +kernel) rfl) (tfM_asksOf hez20) ?_
    refine sb_iload rfl ?_
    refine sb_iconst cI1 ?_
    obtain ⟨⟨yz28, Mz29⟩, hj108, h⟩ := bd h
    have hJ108 : RN P 6 kX12_brings 108 [(0, .ref 217), (1, .int x1), (3, .int ((M 218 (jix (fM_letterAt x1))))), (4, .int ((M 218 (jix ((fM_letterAt x1) + 1))))), (5, .int ((M 218 (jix ((fM_letterAt x1) + 2))))), (6, .int ((M 218 (jix ((fM_letterAt x1) + 3))))), (7, .int ((M 218 (jix ((fM_letterAt x1) + 4)))))] [.int yz28] (S Mz29) r := by
      refine sb_in [(108, .istore 8, 2), (110, .aload_n 0, 1), (111, .iload 4, 2), (113, .iload 5, 2), (115, .iload 6, 2), (117, .iload 8, 2), (119, .invokevirtual 356, 3), (122, .aload_n 0, 1), (123, .iload_n 1, 1), (124, .invokevirtual 359, 3), (127, .aload_n 0, 1), (128, .iconst 1, 1), (129, .iload_n 3, 1), (130, .iload 8, 2), (132, .invokevirtual 325, 3), (135, .goto 11, 3)] 138 (by decide +kernel) ?_
      refine sb_istore (by decide) rfl ?_
      refine sb_aload_n rfl ?_
      refine sb_iload rfl ?_
      refine sb_iload rfl ?_
      refine sb_iload rfl ?_
      refine sb_iload rfl ?_
      obtain ⟨Mz31, hez30, h⟩ := bd h
      refine sb_callVv 4 rfl oX12_isGiven ln12_356 vX12_isGiven (rc_own h217.1 (S_lt h217.2) (by decide)) (rnCk_of (by decide +kernel) rfl) (tfM_isGiven hez30) ?_
      refine sb_aload_n rfl ?_
      refine sb_iload_n rfl ?_
      obtain ⟨Mz33, hez32, h⟩ := bd h
      refine sb_callVv 1 rfl oX12_goesOut ln12_359 vX12_goesOut (rc_own h217.1 (S_lt h217.2) (by decide)) (rnCk_of (by decide +kernel) rfl) (tfM_goesOut hez32) ?_
      refine sb_aload_n rfl ?_
      refine sb_iconst cI1 ?_
      refine sb_iload_n rfl ?_
      refine sb_iload rfl ?_
      obtain ⟨Mz35, hez34, h⟩ := bd h
      refine sb_callVv 3 rfl oX12_notes ln12_325 vX12_notes (rc_own h217.1 (S_lt h217.2) (by decide)) (rnCk_of (by decide +kernel) rfl) (tfM_notes hez34) ?_
      refine sb_goto 146 (by decide) ?_
      cases h
      exact rn_sub [0, 4, 5, 6, 7, 8] rfl hJ146
    clear h
    have h := hj108
    clear hj108
    rcases ife h with ⟨cz45, h⟩ | ⟨cz45, h⟩
    · refine sb_icmp_ne_f 104 cz45 (by decide) ?_
      refine sb_in [(83, .aload_n 0, 1), (84, .aload_n 0, 1), (85, .invokevirtual 350, 3), (88, .aload_n 0, 1), (89, .getfield 7, 3), (92, .bipush 30, 2), (94, .iload 4, 2), (96, .iadd, 1), (97, .iaload, 1), (98, .invokevirtual 353, 3), (101, .goto 7, 3)] 104 (by decide +kernel) ?_
      refine sb_aload_n rfl ?_
      refine sb_aload_n rfl ?_
      obtain ⟨qz25, hez24, h⟩ := bd h
      refine sb_callVi 0 rfl oX12_givesNow ln12_350 vX12_givesNow (rc_own h217.1 (S_lt h217.2) (by decide)) (rnCk_of (by decide +kernel) rfl) (tfM_givesNow hez24) ?_
      refine sb_aload_n rfl ?_
      refine ss_getR g12_7 h217 r217_1 ?_
      refine sb_bipush cB30 ?_
      refine sb_iload rfl ?_
      refine sb_iadd ?_
      obtain ⟨hgz26, h⟩ := gd h
      refine ss_iald h218 hgz26 ?_
      refine sb_callVi 2 rfl oX12_lesser ln12_353 vX12_lesser (rc_own h217.1 (S_lt h217.2) (by decide)) (rnCk_of (by decide +kernel) rfl) (tfM_lesser) ?_
      refine sb_goto 108 (by decide) ?_
      cases h
      exact rn_sub [0, 1, 3, 4, 5, 6, 7] rfl hJ108
    · refine sb_icmp_ne_t 104 cz45 (by decide) ?_
      refine sb_in [(104, .aload_n 0, 1), (105, .invokevirtual 350, 3)] 108 (by decide +kernel) ?_
      refine sb_aload_n rfl ?_
      obtain ⟨qz23, hez22, h⟩ := bd h
      refine sb_callVi 0 rfl oX12_givesNow ln12_350 vX12_givesNow (rc_own h217.1 (S_lt h217.2) (by decide)) (rnCk_of (by decide +kernel) rfl) (tfM_givesNow hez22) ?_
      refine sb_end ?_
      cases h
      exact rn_sub [0, 1, 3, 4, 5, 6, 7] rfl hJ108
theorem tfM_brings {P : Px} {x1 : Int32} {M : Mm} {rr : (Int32 × Mm)} (h : fM_brings x1 M = some rr) : EX P 6 kX12_brings [.ref 217, .int x1] (S M) (some (.int rr.1), S rr.2) := ex_of oX12_brings (Nat.le_of_ble_eq_true rfl) (nfM_brings  h rfl)
end RnT
