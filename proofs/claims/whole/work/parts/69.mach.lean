section RnT
set_option maxRecDepth 20000 in
theorem nfM_game {P : Px} {x1 : Int32} {M : Mm} {rr : (Int32 × Mm)} (h : fM_game x1 M = some rr) {r : Option Value × Sg} (hr : r = (some (.int rr.1), S rr.2)) : RN P 4 kX12_game 0 [(0, .ref 217), (1, .int x1)] [] (S M) r := by
  unfold fM_game at h
  refine sb_in [(0, .aload_n 0, 1), (1, .iconst 0, 1), (2, .putfield 116, 3), (5, .aload_n 0, 1), (6, .iload_n 1, 1), (7, .iconst 0, 1), (8, .iconst 1, 1), (9, .invokevirtual 143, 3), (12, .ifCond .ne 5, 3)] 15 (by decide +kernel) ?_
  refine sb_aload_n rfl ?_
  refine sb_iconst cI0 ?_
  refine ss_putI p12_116 h217 (by decide) ?_
  refine sb_aload_n rfl ?_
  refine sb_iload_n rfl ?_
  refine sb_iconst cI0 ?_
  refine sb_iconst cI1 ?_
  refine sb_callVi 3 rfl oX12_isIn ln12_143 vX12_isIn (rc_own h217.1 (S_lt h217.2) (by decide)) (rnCk_of (by decide +kernel) rfl) (tfM_isIn) ?_
  rcases ife h with ⟨cz14, h⟩ | ⟨cz14, h⟩
  · refine sb_if_ne_f 17 cz14 (by decide) ?_
    refine sb_in [(15, .iconst (-1), 1), (16, .ireturn, 1)] 17 (by decide +kernel) ?_
    refine sb_iconst cIm1 ?_
    cases h
    subst hr
    refine sb_ireturn ?_
    exact ⟨.int, rfl, rfl⟩
  · refine sb_if_ne_t 17 cz14 (by decide) ?_
    refine sb_in [(17, .iconst 0, 1), (18, .istore_n 2, 1), (19, .iconst 0, 1), (20, .istore_n 3, 1)] 21 (by decide +kernel) ?_
    refine sb_iconst cI0 ?_
    refine sb_istore_n (by decide) rfl ?_
    refine sb_iconst cI0 ?_
    refine sb_istore_n (by decide) rfl ?_
    refine sb_end ?_
    obtain ⟨e21, hl21, h⟩ := bd h
    refine rn_sub [0, 1, 2, 3] rfl ?_
    refine lp_ind (P := fun s => RN P 4 kX12_game 21 [(0, .ref 217), (1, .int x1), (2, .int s.1), (3, .int s.2)] [] (S (mput M 217 0 0)) r) (E := fun p => RN P 4 kX12_game 45 [(0, .ref 217), (1, .int x1), (2, .int p)] [] (S (mput M 217 0 0)) r) ?_ _ _ _ hl21 ?_
    · intro s qx h hc
      obtain ⟨x2, x3⟩ := s
      replace h : fM_game_b21 x1 (mput M 217 0 0) x2 x3 = some qx := h
      show RN P 4 kX12_game 21 [(0, .ref 217), (1, .int x1), (2, .int x2), (3, .int x3)] [] (S (mput M 217 0 0)) r
      generalize (mput M 217 0 0) = M at h hc ⊢
      unfold fM_game_b21 at h
      refine sb_in [(21, .iload_n 3, 1), (22, .aload_n 0, 1), (23, .getfield 129, 3), (26, .if_icmp .ge 19, 3)] 29 (by decide +kernel) ?_
      refine sb_iload_n rfl ?_
      refine sb_aload_n rfl ?_
      refine ss_getI g12_129 h217 ?_
      rcases ife h with ⟨cz15, h⟩ | ⟨cz15, h⟩
      · refine sb_icmp_ge_t 45 cz15 (by decide) ?_
        cases h
        exact rn_sub [0, 1, 2] rfl hc
      · refine sb_icmp_ge_f 45 cz15 (by decide) ?_
        refine sb_in [(29, .iload_n 2, 1), (30, .aload_n 0, 1), (31, .iload_n 3, 1), (32, .invokevirtual 396, 3), (35, .iconst 3, 1), (36, .irem, 1), (37, .ixor, 1), (38, .istore_n 2, 1), (39, .iinc 3 1, 3), (42, .goto (-21), 3)] 45 (by decide +kernel) ?_
        refine sb_iload_n rfl ?_
        refine sb_aload_n rfl ?_
        refine sb_iload_n rfl ?_
        obtain ⟨qz4, hez3, h⟩ := bd h
        refine sb_callVi 1 rfl oX12_lettersFor ln12_396 vX12_lettersFor (rc_own h217.1 (S_lt h217.2) (by decide)) (rnCk_of (by decide +kernel) rfl) (tfM_lettersFor hez3) ?_
        refine sb_iconst cI3 ?_
        refine sb_irem (by decide) ?_
        refine sb_ixor ?_
        refine sb_istore_n (by decide) rfl ?_
        refine ss_iinc cI1 rfl (by decide) rfl ?_
        refine sb_goto 21 (by decide) ?_
        cases h
        exact rn_sub [0, 1, 2, 3] rfl hc
    · clear hl21
      obtain ⟨yz6, hey⟩ : ∃ z, z = e21 := ⟨_, rfl⟩
      subst hey
      show RN P 4 kX12_game 45 [(0, .ref 217), (1, .int x1), (2, .int yz6)] [] (S (mput M 217 0 0)) r
      refine sb_in [(45, .iconst 0, 1), (46, .istore_n 3, 1)] 47 (by decide +kernel) ?_
      refine sb_iconst cI0 ?_
      refine sb_istore_n (by decide) rfl ?_
      refine sb_end ?_
      obtain ⟨e47, hl47, h⟩ := bd h
      refine rn_sub [0, 1, 2, 3] rfl ?_
      refine lp_ind (P := fun s => RN P 4 kX12_game 47 [(0, .ref 217), (1, .int x1), (2, .int yz6), (3, .int s)] [] (S (mput M 217 0 0)) r) (E := fun e => match e with | Sum.inl p => RN P 4 kX12_game 97 [(1, .int x1), (3, .int p.1), (6, .int p.2)] [] (S (mput M 217 0 0)) r | Sum.inr p => RN P 4 kX12_game 120 [] [] (S (mput M 217 0 0)) r) ?_ _ _ _ hl47 ?_
      · intro x3 qx h hc
        replace h : fM_game_b47 x1 yz6 (mput M 217 0 0) x3 = some qx := h
        show RN P 4 kX12_game 47 [(0, .ref 217), (1, .int x1), (2, .int yz6), (3, .int x3)] [] (S (mput M 217 0 0)) r
        generalize yz6 = x2 at h hc ⊢
        generalize (mput M 217 0 0) = M at h hc ⊢
        unfold fM_game_b47 at h
        refine sb_in [(47, .iload_n 3, 1), (48, .aload_n 0, 1), (49, .getfield 129, 3), (52, .if_icmp .ge 68, 3)] 55 (by decide +kernel) ?_
        refine sb_iload_n rfl ?_
        refine sb_aload_n rfl ?_
        refine ss_getI g12_129 h217 ?_
        rcases ife h with ⟨cz16, h⟩ | ⟨cz16, h⟩
        · refine sb_icmp_ge_t 120 cz16 (by decide) ?_
          cases h
          exact rn_sub [] rfl hc
        · refine sb_icmp_ge_f 120 cz16 (by decide) ?_
          refine sb_in [(55, .aload_n 0, 1), (56, .iload_n 3, 1), (57, .invokevirtual 396, 3), (60, .istore 4, 2), (62, .iload_n 2, 1), (63, .iload 4, 2), (65, .iconst 3, 1), (66, .irem, 1), (67, .ixor, 1), (68, .istore 5, 2), (70, .iconst 1, 1), (71, .istore 6, 2)] 73 (by decide +kernel) ?_
          refine sb_aload_n rfl ?_
          refine sb_iload_n rfl ?_
          obtain ⟨qz8, hez7, h⟩ := bd h
          refine sb_callVi 1 rfl oX12_lettersFor ln12_396 vX12_lettersFor (rc_own h217.1 (S_lt h217.2) (by decide)) (rnCk_of (by decide +kernel) rfl) (tfM_lettersFor hez7) ?_
          refine sb_istore (by decide) rfl ?_
          refine sb_iload_n rfl ?_
          refine sb_iload rfl ?_
          refine sb_iconst cI3 ?_
          refine sb_irem (by decide) ?_
          refine sb_ixor ?_
          refine sb_istore (by decide) rfl ?_
          refine sb_iconst cI1 ?_
          refine sb_istore (by decide) rfl ?_
          refine sb_end ?_
          obtain ⟨e73, hl73, h⟩ := bd h
          refine rn_sub [0, 1, 2, 3, 4, 5, 6] rfl ?_
          refine lp_ind (P := fun s => RN P 4 kX12_game 73 [(0, .ref 217), (1, .int x1), (2, .int x2), (3, .int x3), (4, .int qz8), (5, .int ((x2 ^^^ (jrem qz8 3)))), (6, .int s)] [] (S M) r) (E := fun e => match e with | Sum.inl p => RN P 4 kX12_game 97 [(1, .int x1), (3, .int x3), (6, .int p)] [] (S M) r | Sum.inr p => RN P 4 kX12_game 114 [(0, .ref 217), (1, .int x1), (2, .int x2), (3, .int x3)] [] (S M) r) ?_ _ _ _ hl73 ?_
          · intro x6 qx h hc
            replace h : fM_game_b73 x1 x2 x3 qz8 ((x2 ^^^ (jrem qz8 3))) M x6 = some qx := h
            show RN P 4 kX12_game 73 [(0, .ref 217), (1, .int x1), (2, .int x2), (3, .int x3), (4, .int qz8), (5, .int ((x2 ^^^ (jrem qz8 3)))), (6, .int x6)] [] (S M) r
            generalize ((x2 ^^^ (jrem qz8 3))) = x5 at h hc ⊢
            generalize qz8 = x4 at h hc ⊢
            unfold fM_game_b73 at h
            refine sb_in [(73, .iload 6, 2), (75, .aload_n 0, 1), (76, .iload 4, 2), (78, .iconst 2, 1), (79, .invokevirtual 353, 3), (82, .if_icmp .gt 32, 3)] 85 (by decide +kernel) ?_
            refine sb_iload rfl ?_
            refine sb_aload_n rfl ?_
            refine sb_iload rfl ?_
            refine sb_iconst cI2 ?_
            refine sb_callVi 2 rfl oX12_lesser ln12_353 vX12_lesser (rc_own h217.1 (S_lt h217.2) (by decide)) (rnCk_of (by decide +kernel) rfl) (tfM_lesser) ?_
            rcases ife h with ⟨cz17, h⟩ | ⟨cz17, h⟩
            · refine sb_icmp_gt_t 114 cz17 (by decide) ?_
              cases h
              exact rn_sub [0, 1, 2, 3] rfl hc
            · refine sb_icmp_gt_f 114 cz17 (by decide) ?_
              refine sb_in [(85, .iload 4, 2), (87, .iload 6, 2), (89, .isub, 1), (90, .iconst 3, 1), (91, .irem, 1), (92, .iload 5, 2), (94, .if_icmp .ne 14, 3)] 97 (by decide +kernel) ?_
              refine sb_iload rfl ?_
              refine sb_iload rfl ?_
              refine sb_isub ?_
              refine sb_iconst cI3 ?_
              refine sb_irem (by decide) ?_
              refine sb_iload rfl ?_
              rcases ife h with ⟨cz18, h⟩ | ⟨cz18, h⟩
              · refine sb_icmp_ne_f 108 cz18 (by decide) ?_
                cases h
                exact rn_sub [1, 3, 6] rfl hc
              · refine sb_icmp_ne_t 108 cz18 (by decide) ?_
                refine sb_in [(108, .iinc 6 1, 3), (111, .goto (-38), 3)] 114 (by decide +kernel) ?_
                refine ss_iinc cI1 rfl (by decide) rfl ?_
                refine sb_goto 73 (by decide) ?_
                cases h
                exact rn_sub [0, 1, 2, 3, 4, 5, 6] rfl hc
          · clear hl73
            rcases e73 with e73 | e73
            · skip
              obtain ⟨yz11, hey⟩ : ∃ z, z = e73 := ⟨_, rfl⟩
              subst hey
              show RN P 4 kX12_game 97 [(1, .int x1), (3, .int x3), (6, .int yz11)] [] (S M) r
              cases h
              exact rn_sub [1, 3, 6] rfl hc
            · skip
              show RN P 4 kX12_game 114 [(0, .ref 217), (1, .int x1), (2, .int x2), (3, .int x3)] [] (S M) r
              refine sb_in [(114, .iinc 3 1, 3), (117, .goto (-70), 3)] 120 (by decide +kernel) ?_
              refine ss_iinc cI1 rfl (by decide) rfl ?_
              refine sb_goto 47 (by decide) ?_
              cases h
              exact rn_sub [0, 1, 2, 3] rfl hc
      · clear hl47
        rcases e47 with e47 | e47
        · skip
          obtain ⟨yz12, yz13⟩ := e47
          show RN P 4 kX12_game 97 [(1, .int x1), (3, .int yz12), (6, .int yz13)] [] (S (mput M 217 0 0)) r
          refine sb_in [(97, .iload_n 1, 1), (98, .ifCond .ne 7, 3)] 101 (by decide +kernel) ?_
          refine sb_iload_n rfl ?_
          rcases ife h with ⟨cz19, h⟩ | ⟨cz19, h⟩
          · refine sb_if_ne_f 105 cz19 (by decide) ?_
            refine sb_in [(101, .iload_n 3, 1), (102, .goto 5, 3)] 105 (by decide +kernel) ?_
            refine sb_iload_n rfl ?_
            refine sb_goto 107 (by decide) ?_
            refine sb_in [(107, .ireturn, 1)] 108 (by decide +kernel) ?_
            cases h
            subst hr
            refine sb_ireturn ?_
            exact ⟨.int, rfl, rfl⟩
          · refine sb_if_ne_t 105 cz19 (by decide) ?_
            refine sb_in [(105, .iload 6, 2)] 107 (by decide +kernel) ?_
            refine sb_iload rfl ?_
            refine sb_end ?_
            refine sb_in [(107, .ireturn, 1)] 108 (by decide +kernel) ?_
            cases h
            subst hr
            refine sb_ireturn ?_
            exact ⟨.int, rfl, rfl⟩
        · skip
          show RN P 4 kX12_game 120 [] [] (S (mput M 217 0 0)) r
          refine sb_in [(120, .iconst (-1), 1), (121, .ireturn, 1)] 122 (by decide +kernel) ?_
          refine sb_iconst cIm1 ?_
          cases h
          subst hr
          refine sb_ireturn ?_
          exact ⟨.int, rfl, rfl⟩
theorem tfM_game {P : Px} {x1 : Int32} {M : Mm} {rr : (Int32 × Mm)} (h : fM_game x1 M = some rr) : EX P 4 kX12_game [.ref 217, .int x1] (S M) (some (.int rr.1), S rr.2) := ex_of oX12_game (Nat.le_of_ble_eq_true rfl) (nfM_game  h rfl)
set_option maxRecDepth 20000 in
theorem nfM_keeps {P : Px} {x1 : Int32} {M : Mm} {rr : (Int32 × Mm)} (h : fM_keeps x1 M = some rr) {r : Option Value × Sg} (hr : r = (some (.int rr.1), S rr.2)) : RN P 1 kX12_keeps 0 [(0, .ref 217), (1, .int x1)] [] (S M) r := by
  unfold fM_keeps at h
  refine sb_in [(0, .aload_n 0, 1), (1, .aload_n 0, 1), (2, .getfield 476, 3), (5, .iconst 1, 1), (6, .iadd, 1), (7, .putfield 476, 3), (10, .aload_n 0, 1), (11, .getfield 479, 3), (14, .ifCond .ne 15, 3)] 17 (by decide +kernel) ?_
  refine sb_aload_n rfl ?_
  refine sb_aload_n rfl ?_
  refine ss_getI g12_476 h217 ?_
  refine sb_iconst cI1 ?_
  refine sb_iadd ?_
  refine ss_putI p12_476 h217 (by decide) ?_
  refine sb_aload_n rfl ?_
  refine ss_getI g12_479 h217 ?_
  rcases ife h with ⟨cz5, h⟩ | ⟨cz5, h⟩
  · refine sb_if_ne_f 29 cz5 (by decide) ?_
    refine sb_in [(17, .aload_n 0, 1), (18, .getfield 113, 3), (21, .aload_n 0, 1), (22, .getfield 476, 3), (25, .iconst 1, 1), (26, .isub, 1), (27, .iaload, 1), (28, .ireturn, 1)] 29 (by decide +kernel) ?_
    refine sb_aload_n rfl ?_
    refine ss_getR g12_113 h217 r217_63 ?_
    refine sb_aload_n rfl ?_
    refine ss_getI g12_476 h217 ?_
    refine sb_iconst cI1 ?_
    refine sb_isub ?_
    obtain ⟨hgz4, h⟩ := gd h
    refine ss_iald h251 hgz4 ?_
    cases h
    subst hr
    refine sb_ireturn ?_
    exact ⟨.int, rfl, rfl⟩
  · refine sb_if_ne_t 29 cz5 (by decide) ?_
    refine sb_in [(29, .aload_n 0, 1), (30, .getfield 113, 3), (33, .aload_n 0, 1), (34, .getfield 476, 3), (37, .iconst 1, 1), (38, .isub, 1), (39, .iload_n 1, 1), (40, .iastore, 1), (41, .iload_n 1, 1), (42, .ireturn, 1)] 43 (by decide +kernel) ?_
    refine sb_aload_n rfl ?_
    refine ss_getR g12_113 h217 r217_63 ?_
    refine sb_aload_n rfl ?_
    refine ss_getI g12_476 h217 ?_
    refine sb_iconst cI1 ?_
    refine sb_isub ?_
    refine sb_iload_n rfl ?_
    obtain ⟨hgz3, h⟩ := gd h
    refine ss_iast h251 (by decide) hgz3 ?_
    refine sb_iload_n rfl ?_
    cases h
    subst hr
    refine sb_ireturn ?_
    exact ⟨.int, rfl, rfl⟩
theorem tfM_keeps {P : Px} {x1 : Int32} {M : Mm} {rr : (Int32 × Mm)} (h : fM_keeps x1 M = some rr) : EX P 1 kX12_keeps [.ref 217, .int x1] (S M) (some (.int rr.1), S rr.2) := ex_of oX12_keeps (Nat.le_of_ble_eq_true rfl) (nfM_keeps  h rfl)
set_option maxRecDepth 20000 in
theorem nfM_keepsLaw {P : Px} {M : Mm} {rr : Mm} (h : fM_keepsLaw M = some rr) {r : Option Value × Sg} (hr : r = (none, S rr)) : RN P 2 kX12_keepsLaw 0 [(0, .ref 217)] [] (S M) r := by
  unfold fM_keepsLaw at h
  refine sb_in [(0, .aload_n 0, 1), (1, .getfield 31, 3), (4, .iconst 0, 1), (5, .aload_n 0, 1), (6, .aload_n 0, 1), (7, .getfield 31, 3), (10, .iconst 0, 1), (11, .iaload, 1), (12, .invokevirtual 482, 3), (15, .iastore, 1), (16, .iconst 0, 1), (17, .istore_n 1, 1)] 18 (by decide +kernel) ?_
  refine sb_aload_n rfl ?_
  refine ss_getR g12_31 h217 r217_16 ?_
  refine sb_iconst cI0 ?_
  refine sb_aload_n rfl ?_
  refine sb_aload_n rfl ?_
  refine ss_getR g12_31 h217 r217_16 ?_
  refine sb_iconst cI0 ?_
  refine ss_ialdL 0 h225 iL0 rfl ?_
  obtain ⟨qz2, hez1, h⟩ := bd h
  refine sb_callVi 1 rfl oX12_keeps ln12_482 vX12_keeps (rc_own h217.1 (S_lt h217.2) (by decide)) (rnCk_of (by decide +kernel) rfl) (tfM_keeps hez1) ?_
  refine ss_iastL 0 h225 (by decide) iL0 rfl ?_
  refine sb_iconst cI0 ?_
  refine sb_istore_n (by decide) rfl ?_
  refine sb_end ?_
  obtain ⟨e18, hl18, h⟩ := bd h
  refine rn_sub [0, 1] rfl ?_
  refine lp_ind (P := fun s => RN P 2 kX12_keepsLaw 18 [(0, .ref 217), (1, .int s.1)] [] (S s.2) r) (E := fun p => RN P 2 kX12_keepsLaw 94 [(0, .ref 217)] [] (S p) r) ?_ _ _ _ hl18 ?_
  · intro s qx h hc
    obtain ⟨x1, M⟩ := s
    replace h : fM_keepsLaw_b18 x1 M = some qx := h
    show RN P 2 kX12_keepsLaw 18 [(0, .ref 217), (1, .int x1)] [] (S M) r
    unfold fM_keepsLaw_b18 at h
    refine sb_in [(18, .iload_n 1, 1), (19, .bipush 16, 2), (21, .if_icmp .ge 73, 3)] 24 (by decide +kernel) ?_
    refine sb_iload_n rfl ?_
    refine sb_bipush cB16 ?_
    rcases ife h with ⟨cz36, h⟩ | ⟨cz36, h⟩
    · refine sb_icmp_ge_t 94 cz36 (by decide) ?_
      cases h
      exact rn_sub [0] rfl hc
    · refine sb_icmp_ge_f 94 cz36 (by decide) ?_
      refine sb_in [(24, .aload_n 0, 1), (25, .getfield 34, 3), (28, .iload_n 1, 1), (29, .aload_n 0, 1), (30, .aload_n 0, 1), (31, .getfield 34, 3), (34, .iload_n 1, 1), (35, .iaload, 1), (36, .invokevirtual 482, 3), (39, .iastore, 1), (40, .aload_n 0, 1), (41, .getfield 37, 3), (44, .iload_n 1, 1), (45, .aload_n 0, 1), (46, .aload_n 0, 1), (47, .getfield 37, 3), (50, .iload_n 1, 1), (51, .iaload, 1), (52, .invokevirtual 482, 3), (55, .iastore, 1), (56, .aload_n 0, 1), (57, .getfield 40, 3), (60, .iload_n 1, 1), (61, .aload_n 0, 1), (62, .aload_n 0, 1), (63, .getfield 40, 3), (66, .iload_n 1, 1), (67, .iaload, 1), (68, .invokevirtual 482, 3), (71, .iastore, 1), (72, .aload_n 0, 1), (73, .getfield 43, 3), (76, .iload_n 1, 1), (77, .aload_n 0, 1), (78, .aload_n 0, 1), (79, .getfield 43, 3), (82, .iload_n 1, 1), (83, .iaload, 1), (84, .invokevirtual 482, 3), (87, .iastore, 1), (88, .iinc 1 1, 3), (91, .goto (-73), 3)] 94 (by decide +kernel) ?_
      refine sb_aload_n rfl ?_
      refine ss_getR g12_34 h217 r217_17 ?_
      refine sb_iload_n rfl ?_
      refine sb_aload_n rfl ?_
      refine sb_aload_n rfl ?_
      refine ss_getR g12_34 h217 r217_17 ?_
      refine sb_iload_n rfl ?_
      obtain ⟨hgz4, h⟩ := gd h
      refine ss_iald h226 hgz4 ?_
      obtain ⟨qz6, hez5, h⟩ := bd h
      refine sb_callVi 1 rfl oX12_keeps ln12_482 vX12_keeps (rc_own h217.1 (S_lt h217.2) (by decide)) (rnCk_of (by decide +kernel) rfl) (tfM_keeps hez5) ?_
      obtain ⟨hgz8, h⟩ := gd h
      refine ss_iast h226 (by decide) hgz8 ?_
      refine sb_aload_n rfl ?_
      refine ss_getR g12_37 h217 r217_18 ?_
      refine sb_iload_n rfl ?_
      refine sb_aload_n rfl ?_
      refine sb_aload_n rfl ?_
      refine ss_getR g12_37 h217 r217_18 ?_
      refine sb_iload_n rfl ?_
      obtain ⟨hgz9, h⟩ := gd h
      refine ss_iald h227 hgz9 ?_
      obtain ⟨qz11, hez10, h⟩ := bd h
      refine sb_callVi 1 rfl oX12_keeps ln12_482 vX12_keeps (rc_own h217.1 (S_lt h217.2) (by decide)) (rnCk_of (by decide +kernel) rfl) (tfM_keeps hez10) ?_
      obtain ⟨hgz13, h⟩ := gd h
      refine ss_iast h227 (by decide) hgz13 ?_
      refine sb_aload_n rfl ?_
      refine ss_getR g12_40 h217 r217_19 ?_
      refine sb_iload_n rfl ?_
      refine sb_aload_n rfl ?_
      refine sb_aload_n rfl ?_
      refine ss_getR g12_40 h217 r217_19 ?_
      refine sb_iload_n rfl ?_
      obtain ⟨hgz14, h⟩ := gd h
      refine ss_iald h228 hgz14 ?_
      obtain ⟨qz16, hez15, h⟩ := bd h
      refine sb_callVi 1 rfl oX12_keeps ln12_482 vX12_keeps (rc_own h217.1 (S_lt h217.2) (by decide)) (rnCk_of (by decide +kernel) rfl) (tfM_keeps hez15) ?_
      obtain ⟨hgz18, h⟩ := gd h
      refine ss_iast h228 (by decide) hgz18 ?_
      refine sb_aload_n rfl ?_
      refine ss_getR g12_43 h217 r217_20 ?_
      refine sb_iload_n rfl ?_
      refine sb_aload_n rfl ?_
      refine sb_aload_n rfl ?_
      refine ss_getR g12_43 h217 r217_20 ?_
      refine sb_iload_n rfl ?_
      obtain ⟨hgz19, h⟩ := gd h
      refine ss_iald h229 hgz19 ?_
      obtain ⟨qz21, hez20, h⟩ := bd h
      refine sb_callVi 1 rfl oX12_keeps ln12_482 vX12_keeps (rc_own h217.1 (S_lt h217.2) (by decide)) (rnCk_of (by decide +kernel) rfl) (tfM_keeps hez20) ?_
      obtain ⟨hgz23, h⟩ := gd h
      refine ss_iast h229 (by decide) hgz23 ?_
      refine ss_iinc cI1 rfl (by decide) rfl ?_
      refine sb_goto 18 (by decide) ?_
      cases h
      exact rn_sub [0, 1] rfl hc
  · clear hl18
    obtain ⟨Mz24, hey⟩ : ∃ z, z = e18 := ⟨_, rfl⟩
    subst hey
    show RN P 2 kX12_keepsLaw 94 [(0, .ref 217)] [] (S Mz24) r
    refine sb_in [(94, .iconst 0, 1), (95, .istore_n 1, 1)] 96 (by decide +kernel) ?_
    refine sb_iconst cI0 ?_
    refine sb_istore_n (by decide) rfl ?_
    refine sb_end ?_
    obtain ⟨e96, hl96, h⟩ := bd h
    refine rn_sub [0, 1] rfl ?_
    refine lp_ind (P := fun s => RN P 2 kX12_keepsLaw 96 [(0, .ref 217), (1, .int s.1)] [] (S s.2) r) (E := fun p => RN P 2 kX12_keepsLaw 141 [] [] (S p) r) ?_ _ _ _ hl96 ?_
    · intro s qx h hc
      obtain ⟨x1, M⟩ := s
      replace h : fM_keepsLaw_b96 x1 M = some qx := h
      show RN P 2 kX12_keepsLaw 96 [(0, .ref 217), (1, .int x1)] [] (S M) r
      unfold fM_keepsLaw_b96 at h
      refine sb_in [(96, .iload_n 1, 1), (97, .sipush 400, 3), (100, .if_icmp .ge 41, 3)] 103 (by decide +kernel) ?_
      refine sb_iload_n rfl ?_
      refine sb_sipush cS400 ?_
      rcases ife h with ⟨cz37, h⟩ | ⟨cz37, h⟩
      · refine sb_icmp_ge_t 141 cz37 (by decide) ?_
        cases h
        exact rn_sub [] rfl hc
      · refine sb_icmp_ge_f 141 cz37 (by decide) ?_
        refine sb_in [(103, .aload_n 0, 1), (104, .getfield 46, 3), (107, .iload_n 1, 1), (108, .aload_n 0, 1), (109, .aload_n 0, 1), (110, .getfield 46, 3), (113, .iload_n 1, 1), (114, .iaload, 1), (115, .invokevirtual 482, 3), (118, .iastore, 1), (119, .aload_n 0, 1), (120, .getfield 49, 3), (123, .iload_n 1, 1), (124, .aload_n 0, 1), (125, .aload_n 0, 1), (126, .getfield 49, 3), (129, .iload_n 1, 1), (130, .iaload, 1), (131, .invokevirtual 482, 3), (134, .iastore, 1), (135, .iinc 1 1, 3), (138, .goto (-42), 3)] 141 (by decide +kernel) ?_
        refine sb_aload_n rfl ?_
        refine ss_getR g12_46 h217 r217_21 ?_
        refine sb_iload_n rfl ?_
        refine sb_aload_n rfl ?_
        refine sb_aload_n rfl ?_
        refine ss_getR g12_46 h217 r217_21 ?_
        refine sb_iload_n rfl ?_
        obtain ⟨hgz25, h⟩ := gd h
        refine ss_iald h230 hgz25 ?_
        obtain ⟨qz27, hez26, h⟩ := bd h
        refine sb_callVi 1 rfl oX12_keeps ln12_482 vX12_keeps (rc_own h217.1 (S_lt h217.2) (by decide)) (rnCk_of (by decide +kernel) rfl) (tfM_keeps hez26) ?_
        obtain ⟨hgz29, h⟩ := gd h
        refine ss_iast h230 (by decide) hgz29 ?_
        refine sb_aload_n rfl ?_
        refine ss_getR g12_49 h217 r217_22 ?_
        refine sb_iload_n rfl ?_
        refine sb_aload_n rfl ?_
        refine sb_aload_n rfl ?_
        refine ss_getR g12_49 h217 r217_22 ?_
        refine sb_iload_n rfl ?_
        obtain ⟨hgz30, h⟩ := gd h
        refine ss_iald h231 hgz30 ?_
        obtain ⟨qz32, hez31, h⟩ := bd h
        refine sb_callVi 1 rfl oX12_keeps ln12_482 vX12_keeps (rc_own h217.1 (S_lt h217.2) (by decide)) (rnCk_of (by decide +kernel) rfl) (tfM_keeps hez31) ?_
        obtain ⟨hgz34, h⟩ := gd h
        refine ss_iast h231 (by decide) hgz34 ?_
        refine ss_iinc cI1 rfl (by decide) rfl ?_
        refine sb_goto 96 (by decide) ?_
        cases h
        exact rn_sub [0, 1] rfl hc
    · clear hl96
      obtain ⟨Mz35, hey⟩ : ∃ z, z = e96 := ⟨_, rfl⟩
      subst hey
      show RN P 2 kX12_keepsLaw 141 [] [] (S Mz35) r
      refine sb_in [(141, .return_, 1)] 142 (by decide +kernel) ?_
      cases h
      subst hr
      refine sb_return ?_
      exact rfl
theorem tfM_keepsLaw {P : Px} {M : Mm} {rr : Mm} (h : fM_keepsLaw M = some rr) : EX P 2 kX12_keepsLaw [.ref 217] (S M) (none, S rr) := ex_of oX12_keepsLaw (Nat.le_of_ble_eq_true rfl) (nfM_keepsLaw  h rfl)
set_option maxRecDepth 20000 in
theorem nfM_keepsMany {P : Px} {M : Mm} {rr : Mm} (h : fM_keepsMany M = some rr) {r : Option Value × Sg} (hr : r = (none, S rr)) : RN P 2 kX12_keepsMany 0 [(0, .ref 217)] [] (S M) r := by
  unfold fM_keepsMany at h
  refine sb_in [(0, .aload_n 0, 1), (1, .aload_n 0, 1), (2, .aload_n 0, 1), (3, .getfield 129, 3), (6, .invokevirtual 482, 3), (9, .putfield 129, 3), (12, .aload_n 0, 1), (13, .aload_n 0, 1), (14, .aload_n 0, 1), (15, .getfield 288, 3), (18, .invokevirtual 482, 3), (21, .putfield 288, 3), (24, .aload_n 0, 1), (25, .aload_n 0, 1), (26, .aload_n 0, 1), (27, .getfield 291, 3), (30, .invokevirtual 482, 3), (33, .putfield 291, 3), (36, .aload_n 0, 1), (37, .aload_n 0, 1), (38, .aload_n 0, 1), (39, .getfield 285, 3), (42, .invokevirtual 482, 3), (45, .putfield 285, 3), (48, .aload_n 0, 1), (49, .aload_n 0, 1), (50, .aload_n 0, 1), (51, .getfield 421, 3), (54, .invokevirtual 482, 3), (57, .putfield 421, 3), (60, .aload_n 0, 1), (61, .aload_n 0, 1), (62, .aload_n 0, 1), (63, .getfield 436, 3), (66, .invokevirtual 482, 3), (69, .putfield 436, 3), (72, .aload_n 0, 1), (73, .aload_n 0, 1), (74, .aload_n 0, 1), (75, .getfield 448, 3), (78, .invokevirtual 482, 3), (81, .putfield 448, 3), (84, .aload_n 0, 1), (85, .aload_n 0, 1), (86, .aload_n 0, 1), (87, .getfield 454, 3), (90, .invokevirtual 482, 3), (93, .putfield 454, 3), (96, .aload_n 0, 1), (97, .aload_n 0, 1), (98, .aload_n 0, 1), (99, .getfield 463, 3), (102, .invokevirtual 482, 3), (105, .putfield 463, 3), (108, .return_, 1)] 109 (by decide +kernel) ?_
  refine sb_aload_n rfl ?_
  refine sb_aload_n rfl ?_
  refine sb_aload_n rfl ?_
  refine ss_getI g12_129 h217 ?_
  obtain ⟨qz2, hez1, h⟩ := bd h
  refine sb_callVi 1 rfl oX12_keeps ln12_482 vX12_keeps (rc_own h217.1 (S_lt h217.2) (by decide)) (rnCk_of (by decide +kernel) rfl) (tfM_keeps hez1) ?_
  refine ss_putI p12_129 h217 (by decide) ?_
  refine sb_aload_n rfl ?_
  refine sb_aload_n rfl ?_
  refine sb_aload_n rfl ?_
  refine ss_getI g12_288 h217 ?_
  obtain ⟨qz5, hez4, h⟩ := bd h
  refine sb_callVi 1 rfl oX12_keeps ln12_482 vX12_keeps (rc_own h217.1 (S_lt h217.2) (by decide)) (rnCk_of (by decide +kernel) rfl) (tfM_keeps hez4) ?_
  refine ss_putI p12_288 h217 (by decide) ?_
  refine sb_aload_n rfl ?_
  refine sb_aload_n rfl ?_
  refine sb_aload_n rfl ?_
  refine ss_getI g12_291 h217 ?_
  obtain ⟨qz8, hez7, h⟩ := bd h
  refine sb_callVi 1 rfl oX12_keeps ln12_482 vX12_keeps (rc_own h217.1 (S_lt h217.2) (by decide)) (rnCk_of (by decide +kernel) rfl) (tfM_keeps hez7) ?_
  refine ss_putI p12_291 h217 (by decide) ?_
  refine sb_aload_n rfl ?_
  refine sb_aload_n rfl ?_
  refine sb_aload_n rfl ?_
  refine ss_getI g12_285 h217 ?_
  obtain ⟨qz11, hez10, h⟩ := bd h
  refine sb_callVi 1 rfl oX12_keeps ln12_482 vX12_keeps (rc_own h217.1 (S_lt h217.2) (by decide)) (rnCk_of (by decide +kernel) rfl) (tfM_keeps hez10) ?_
  refine ss_putI p12_285 h217 (by decide) ?_
  refine sb_aload_n rfl ?_
  refine sb_aload_n rfl ?_
  refine sb_aload_n rfl ?_
  refine ss_getI g12_421 h217 ?_
  obtain ⟨qz14, hez13, h⟩ := bd h
  refine sb_callVi 1 rfl oX12_keeps ln12_482 vX12_keeps (rc_own h217.1 (S_lt h217.2) (by decide)) (rnCk_of (by decide +kernel) rfl) (tfM_keeps hez13) ?_
  refine ss_putI p12_421 h217 (by decide) ?_
  refine sb_aload_n rfl ?_
  refine sb_aload_n rfl ?_
  refine sb_aload_n rfl ?_
  refine ss_getI g12_436 h217 ?_
  obtain ⟨qz17, hez16, h⟩ := bd h
  refine sb_callVi 1 rfl oX12_keeps ln12_482 vX12_keeps (rc_own h217.1 (S_lt h217.2) (by decide)) (rnCk_of (by decide +kernel) rfl) (tfM_keeps hez16) ?_
  refine ss_putI p12_436 h217 (by decide) ?_
  refine sb_aload_n rfl ?_
  refine sb_aload_n rfl ?_
  refine sb_aload_n rfl ?_
  refine ss_getI g12_448 h217 ?_
  obtain ⟨qz20, hez19, h⟩ := bd h
  refine sb_callVi 1 rfl oX12_keeps ln12_482 vX12_keeps (rc_own h217.1 (S_lt h217.2) (by decide)) (rnCk_of (by decide +kernel) rfl) (tfM_keeps hez19) ?_
  refine ss_putI p12_448 h217 (by decide) ?_
  refine sb_aload_n rfl ?_
  refine sb_aload_n rfl ?_
  refine sb_aload_n rfl ?_
  refine ss_getI g12_454 h217 ?_
  obtain ⟨qz23, hez22, h⟩ := bd h
  refine sb_callVi 1 rfl oX12_keeps ln12_482 vX12_keeps (rc_own h217.1 (S_lt h217.2) (by decide)) (rnCk_of (by decide +kernel) rfl) (tfM_keeps hez22) ?_
  refine ss_putI p12_454 h217 (by decide) ?_
  refine sb_aload_n rfl ?_
  refine sb_aload_n rfl ?_
  refine sb_aload_n rfl ?_
  refine ss_getI g12_463 h217 ?_
  obtain ⟨qz26, hez25, h⟩ := bd h
  refine sb_callVi 1 rfl oX12_keeps ln12_482 vX12_keeps (rc_own h217.1 (S_lt h217.2) (by decide)) (rnCk_of (by decide +kernel) rfl) (tfM_keeps hez25) ?_
  refine ss_putI p12_463 h217 (by decide) ?_
  cases h
  subst hr
  refine sb_return ?_
  exact rfl
theorem tfM_keepsMany {P : Px} {M : Mm} {rr : Mm} (h : fM_keepsMany M = some rr) : EX P 2 kX12_keepsMany [.ref 217] (S M) (none, S rr) := ex_of oX12_keepsMany (Nat.le_of_ble_eq_true rfl) (nfM_keepsMany  h rfl)
set_option maxRecDepth 20000 in
theorem nfM_keepsTold {P : Px} {M : Mm} {rr : Mm} (h : fM_keepsTold M = some rr) {r : Option Value × Sg} (hr : r = (none, S rr)) : RN P 2 kX12_keepsTold 0 [(0, .ref 217)] [] (S M) r := by
  unfold fM_keepsTold at h
  refine sb_in [(0, .iconst 0, 1), (1, .istore_n 1, 1)] 2 (by decide +kernel) ?_
  refine sb_iconst cI0 ?_
  refine sb_istore_n (by decide) rfl ?_
  refine sb_end ?_
  obtain ⟨e2, hl2, h⟩ := bd h
  refine rn_sub [0, 1] rfl ?_
  refine lp_ind (P := fun s => RN P 2 kX12_keepsTold 2 [(0, .ref 217), (1, .int s.1)] [] (S s.2) r) (E := fun p => RN P 2 kX12_keepsTold 46 [(0, .ref 217)] [] (S p) r) ?_ _ _ _ hl2 ?_
  · intro s qx h hc
    obtain ⟨x1, M⟩ := s
    replace h : fM_keepsTold_b2 x1 M = some qx := h
    show RN P 2 kX12_keepsTold 2 [(0, .ref 217), (1, .int x1)] [] (S M) r
    unfold fM_keepsTold_b2 at h
    refine sb_in [(2, .iload_n 1, 1), (3, .bipush 12, 2), (5, .if_icmp .ge 41, 3)] 8 (by decide +kernel) ?_
    refine sb_iload_n rfl ?_
    refine sb_bipush cB12 ?_
    rcases ife h with ⟨cz63, h⟩ | ⟨cz63, h⟩
    · refine sb_icmp_ge_t 46 cz63 (by decide) ?_
      cases h
      exact rn_sub [0] rfl hc
    · refine sb_icmp_ge_f 46 cz63 (by decide) ?_
      refine sb_in [(8, .aload_n 0, 1), (9, .getfield 19, 3), (12, .iload_n 1, 1), (13, .aload_n 0, 1), (14, .aload_n 0, 1), (15, .getfield 19, 3), (18, .iload_n 1, 1), (19, .iaload, 1), (20, .invokevirtual 482, 3), (23, .iastore, 1), (24, .aload_n 0, 1), (25, .getfield 92, 3), (28, .iload_n 1, 1), (29, .aload_n 0, 1), (30, .aload_n 0, 1), (31, .getfield 92, 3), (34, .iload_n 1, 1), (35, .iaload, 1), (36, .invokevirtual 482, 3), (39, .iastore, 1), (40, .iinc 1 1, 3), (43, .goto (-41), 3)] 46 (by decide +kernel) ?_
      refine sb_aload_n rfl ?_
      refine ss_getR g12_19 h217 r217_7 ?_
      refine sb_iload_n rfl ?_
      refine sb_aload_n rfl ?_
      refine sb_aload_n rfl ?_
      refine ss_getR g12_19 h217 r217_7 ?_
      refine sb_iload_n rfl ?_
      obtain ⟨hgz1, h⟩ := gd h
      refine ss_iald h221 hgz1 ?_
      obtain ⟨qz3, hez2, h⟩ := bd h
      refine sb_callVi 1 rfl oX12_keeps ln12_482 vX12_keeps (rc_own h217.1 (S_lt h217.2) (by decide)) (rnCk_of (by decide +kernel) rfl) (tfM_keeps hez2) ?_
      obtain ⟨hgz5, h⟩ := gd h
      refine ss_iast h221 (by decide) hgz5 ?_
      refine sb_aload_n rfl ?_
      refine ss_getR g12_92 h217 r217_50 ?_
      refine sb_iload_n rfl ?_
      refine sb_aload_n rfl ?_
      refine sb_aload_n rfl ?_
      refine ss_getR g12_92 h217 r217_50 ?_
      refine sb_iload_n rfl ?_
      obtain ⟨hgz6, h⟩ := gd h
      refine ss_iald h244 hgz6 ?_
      obtain ⟨qz8, hez7, h⟩ := bd h
      refine sb_callVi 1 rfl oX12_keeps ln12_482 vX12_keeps (rc_own h217.1 (S_lt h217.2) (by decide)) (rnCk_of (by decide +kernel) rfl) (tfM_keeps hez7) ?_
      obtain ⟨hgz10, h⟩ := gd h
      refine ss_iast h244 (by decide) hgz10 ?_
      refine ss_iinc cI1 rfl (by decide) rfl ?_
      refine sb_goto 2 (by decide) ?_
      cases h
      exact rn_sub [0, 1] rfl hc
  · clear hl2
    obtain ⟨Mz11, hey⟩ : ∃ z, z = e2 := ⟨_, rfl⟩
    subst hey
    show RN P 2 kX12_keepsTold 46 [(0, .ref 217)] [] (S Mz11) r
    refine sb_in [(46, .iconst 0, 1), (47, .istore_n 1, 1)] 48 (by decide +kernel) ?_
    refine sb_iconst cI0 ?_
    refine sb_istore_n (by decide) rfl ?_
    refine sb_end ?_
    obtain ⟨e48, hl48, h⟩ := bd h
    refine rn_sub [0, 1] rfl ?_
    refine lp_ind (P := fun s => RN P 2 kX12_keepsTold 48 [(0, .ref 217), (1, .int s.1)] [] (S s.2) r) (E := fun p => RN P 2 kX12_keepsTold 124 [(0, .ref 217)] [] (S p) r) ?_ _ _ _ hl48 ?_
    · intro s qx h hc
      obtain ⟨x1, M⟩ := s
      replace h : fM_keepsTold_b48 x1 M = some qx := h
      show RN P 2 kX12_keepsTold 48 [(0, .ref 217), (1, .int x1)] [] (S M) r
      unfold fM_keepsTold_b48 at h
      refine sb_in [(48, .iload_n 1, 1), (49, .bipush 8, 2), (51, .if_icmp .ge 73, 3)] 54 (by decide +kernel) ?_
      refine sb_iload_n rfl ?_
      refine sb_bipush cB8 ?_
      rcases ife h with ⟨cz64, h⟩ | ⟨cz64, h⟩
      · refine sb_icmp_ge_t 124 cz64 (by decide) ?_
        cases h
        exact rn_sub [0] rfl hc
      · refine sb_icmp_ge_f 124 cz64 (by decide) ?_
        refine sb_in [(54, .aload_n 0, 1), (55, .getfield 83, 3), (58, .iload_n 1, 1), (59, .aload_n 0, 1), (60, .aload_n 0, 1), (61, .getfield 83, 3), (64, .iload_n 1, 1), (65, .iaload, 1), (66, .invokevirtual 482, 3), (69, .iastore, 1), (70, .aload_n 0, 1), (71, .getfield 101, 3), (74, .iload_n 1, 1), (75, .aload_n 0, 1), (76, .aload_n 0, 1), (77, .getfield 101, 3), (80, .iload_n 1, 1), (81, .iaload, 1), (82, .invokevirtual 482, 3), (85, .iastore, 1), (86, .aload_n 0, 1), (87, .getfield 107, 3), (90, .iload_n 1, 1), (91, .aload_n 0, 1), (92, .aload_n 0, 1), (93, .getfield 107, 3), (96, .iload_n 1, 1), (97, .iaload, 1), (98, .invokevirtual 482, 3), (101, .iastore, 1), (102, .aload_n 0, 1), (103, .getfield 110, 3), (106, .iload_n 1, 1), (107, .aload_n 0, 1), (108, .aload_n 0, 1), (109, .getfield 110, 3), (112, .iload_n 1, 1), (113, .iaload, 1), (114, .invokevirtual 482, 3), (117, .iastore, 1), (118, .iinc 1 1, 3), (121, .goto (-73), 3)] 124 (by decide +kernel) ?_
        refine sb_aload_n rfl ?_
        refine ss_getR g12_83 h217 r217_46 ?_
        refine sb_iload_n rfl ?_
        refine sb_aload_n rfl ?_
        refine sb_aload_n rfl ?_
        refine ss_getR g12_83 h217 r217_46 ?_
        refine sb_iload_n rfl ?_
        obtain ⟨hgz12, h⟩ := gd h
        refine ss_iald h241 hgz12 ?_
        obtain ⟨qz14, hez13, h⟩ := bd h
        refine sb_callVi 1 rfl oX12_keeps ln12_482 vX12_keeps (rc_own h217.1 (S_lt h217.2) (by decide)) (rnCk_of (by decide +kernel) rfl) (tfM_keeps hez13) ?_
        obtain ⟨hgz16, h⟩ := gd h
        refine ss_iast h241 (by decide) hgz16 ?_
        refine sb_aload_n rfl ?_
        refine ss_getR g12_101 h217 r217_54 ?_
        refine sb_iload_n rfl ?_
        refine sb_aload_n rfl ?_
        refine sb_aload_n rfl ?_
        refine ss_getR g12_101 h217 r217_54 ?_
        refine sb_iload_n rfl ?_
        obtain ⟨hgz17, h⟩ := gd h
        refine ss_iald h247 hgz17 ?_
        obtain ⟨qz19, hez18, h⟩ := bd h
        refine sb_callVi 1 rfl oX12_keeps ln12_482 vX12_keeps (rc_own h217.1 (S_lt h217.2) (by decide)) (rnCk_of (by decide +kernel) rfl) (tfM_keeps hez18) ?_
        obtain ⟨hgz21, h⟩ := gd h
        refine ss_iast h247 (by decide) hgz21 ?_
        refine sb_aload_n rfl ?_
        refine ss_getR g12_107 h217 r217_58 ?_
        refine sb_iload_n rfl ?_
        refine sb_aload_n rfl ?_
        refine sb_aload_n rfl ?_
        refine ss_getR g12_107 h217 r217_58 ?_
        refine sb_iload_n rfl ?_
        obtain ⟨hgz22, h⟩ := gd h
        refine ss_iald h249 hgz22 ?_
        obtain ⟨qz24, hez23, h⟩ := bd h
        refine sb_callVi 1 rfl oX12_keeps ln12_482 vX12_keeps (rc_own h217.1 (S_lt h217.2) (by decide)) (rnCk_of (by decide +kernel) rfl) (tfM_keeps hez23) ?_
        obtain ⟨hgz26, h⟩ := gd h
        refine ss_iast h249 (by decide) hgz26 ?_
        refine sb_aload_n rfl ?_
        refine ss_getR g12_110 h217 r217_59 ?_
        refine sb_iload_n rfl ?_
        refine sb_aload_n rfl ?_
        refine sb_aload_n rfl ?_
        refine ss_getR g12_110 h217 r217_59 ?_
        refine sb_iload_n rfl ?_
        obtain ⟨hgz27, h⟩ := gd h
        refine ss_iald h250 hgz27 ?_
        obtain ⟨qz29, hez28, h⟩ := bd h
        refine sb_callVi 1 rfl oX12_keeps ln12_482 vX12_keeps (rc_own h217.1 (S_lt h217.2) (by decide)) (rnCk_of (by decide +kernel) rfl) (tfM_keeps hez28) ?_
        obtain ⟨hgz31, h⟩ := gd h
        refine ss_iast h250 (by decide) hgz31 ?_
        refine ss_iinc cI1 rfl (by decide) rfl ?_
        refine sb_goto 48 (by decide) ?_
        cases h
        exact rn_sub [0, 1] rfl hc
    · clear hl48
      obtain ⟨Mz32, hey⟩ : ∃ z, z = e48 := ⟨_, rfl⟩
      subst hey
      show RN P 2 kX12_keepsTold 124 [(0, .ref 217)] [] (S Mz32) r
      refine sb_in [(124, .iconst 0, 1), (125, .istore_n 1, 1)] 126 (by decide +kernel) ?_
      refine sb_iconst cI0 ?_
      refine sb_istore_n (by decide) rfl ?_
      refine sb_end ?_
      obtain ⟨e126, hl126, h⟩ := bd h
      refine rn_sub [0, 1] rfl ?_
      refine lp_ind (P := fun s => RN P 2 kX12_keepsTold 126 [(0, .ref 217), (1, .int s.1)] [] (S s.2) r) (E := fun p => RN P 2 kX12_keepsTold 154 [(0, .ref 217)] [] (S p) r) ?_ _ _ _ hl126 ?_
      · intro s qx h hc
        obtain ⟨x1, M⟩ := s
        replace h : fM_keepsTold_b126 x1 M = some qx := h
        show RN P 2 kX12_keepsTold 126 [(0, .ref 217), (1, .int x1)] [] (S M) r
        unfold fM_keepsTold_b126 at h
        refine sb_in [(126, .iload_n 1, 1), (127, .bipush 26, 2), (129, .if_icmp .ge 25, 3)] 132 (by decide +kernel) ?_
        refine sb_iload_n rfl ?_
        refine sb_bipush cB26 ?_
        rcases ife h with ⟨cz65, h⟩ | ⟨cz65, h⟩
        · refine sb_icmp_ge_t 154 cz65 (by decide) ?_
          cases h
          exact rn_sub [0] rfl hc
        · refine sb_icmp_ge_f 154 cz65 (by decide) ?_
          refine sb_in [(132, .aload_n 0, 1), (133, .getfield 98, 3), (136, .iload_n 1, 1), (137, .aload_n 0, 1), (138, .aload_n 0, 1), (139, .getfield 98, 3), (142, .iload_n 1, 1), (143, .iaload, 1), (144, .invokevirtual 482, 3), (147, .iastore, 1), (148, .iinc 1 1, 3), (151, .goto (-25), 3)] 154 (by decide +kernel) ?_
          refine sb_aload_n rfl ?_
          refine ss_getR g12_98 h217 r217_52 ?_
          refine sb_iload_n rfl ?_
          refine sb_aload_n rfl ?_
          refine sb_aload_n rfl ?_
          refine ss_getR g12_98 h217 r217_52 ?_
          refine sb_iload_n rfl ?_
          obtain ⟨hgz33, h⟩ := gd h
          refine ss_iald h246 hgz33 ?_
          obtain ⟨qz35, hez34, h⟩ := bd h
          refine sb_callVi 1 rfl oX12_keeps ln12_482 vX12_keeps (rc_own h217.1 (S_lt h217.2) (by decide)) (rnCk_of (by decide +kernel) rfl) (tfM_keeps hez34) ?_
          obtain ⟨hgz37, h⟩ := gd h
          refine ss_iast h246 (by decide) hgz37 ?_
          refine ss_iinc cI1 rfl (by decide) rfl ?_
          refine sb_goto 126 (by decide) ?_
          cases h
          exact rn_sub [0, 1] rfl hc
      · clear hl126
        obtain ⟨Mz38, hey⟩ : ∃ z, z = e126 := ⟨_, rfl⟩
        subst hey
        show RN P 2 kX12_keepsTold 154 [(0, .ref 217)] [] (S Mz38) r
        refine sb_in [(154, .iconst 0, 1), (155, .istore_n 1, 1)] 156 (by decide +kernel) ?_
        refine sb_iconst cI0 ?_
        refine sb_istore_n (by decide) rfl ?_
        refine sb_end ?_
        obtain ⟨e156, hl156, h⟩ := bd h
        refine rn_sub [0, 1] rfl ?_
        refine lp_ind (P := fun s => RN P 2 kX12_keepsTold 156 [(0, .ref 217), (1, .int s.1)] [] (S s.2) r) (E := fun p => RN P 2 kX12_keepsTold 184 [(0, .ref 217)] [] (S p) r) ?_ _ _ _ hl156 ?_
        · intro s qx h hc
          obtain ⟨x1, M⟩ := s
          replace h : fM_keepsTold_b156 x1 M = some qx := h
          show RN P 2 kX12_keepsTold 156 [(0, .ref 217), (1, .int x1)] [] (S M) r
          unfold fM_keepsTold_b156 at h
          refine sb_in [(156, .iload_n 1, 1), (157, .bipush 49, 2), (159, .if_icmp .ge 25, 3)] 162 (by decide +kernel) ?_
          refine sb_iload_n rfl ?_
          refine sb_bipush cB49 ?_
          rcases ife h with ⟨cz66, h⟩ | ⟨cz66, h⟩
          · refine sb_icmp_ge_t 184 cz66 (by decide) ?_
            cases h
            exact rn_sub [0] rfl hc
          · refine sb_icmp_ge_f 184 cz66 (by decide) ?_
            refine sb_in [(162, .aload_n 0, 1), (163, .getfield 104, 3), (166, .iload_n 1, 1), (167, .aload_n 0, 1), (168, .aload_n 0, 1), (169, .getfield 104, 3), (172, .iload_n 1, 1), (173, .iaload, 1), (174, .invokevirtual 482, 3), (177, .iastore, 1), (178, .iinc 1 1, 3), (181, .goto (-25), 3)] 184 (by decide +kernel) ?_
            refine sb_aload_n rfl ?_
            refine ss_getR g12_104 h217 r217_56 ?_
            refine sb_iload_n rfl ?_
            refine sb_aload_n rfl ?_
            refine sb_aload_n rfl ?_
            refine ss_getR g12_104 h217 r217_56 ?_
            refine sb_iload_n rfl ?_
            obtain ⟨hgz39, h⟩ := gd h
            refine ss_iald h248 hgz39 ?_
            obtain ⟨qz41, hez40, h⟩ := bd h
            refine sb_callVi 1 rfl oX12_keeps ln12_482 vX12_keeps (rc_own h217.1 (S_lt h217.2) (by decide)) (rnCk_of (by decide +kernel) rfl) (tfM_keeps hez40) ?_
            obtain ⟨hgz43, h⟩ := gd h
            refine ss_iast h248 (by decide) hgz43 ?_
            refine ss_iinc cI1 rfl (by decide) rfl ?_
            refine sb_goto 156 (by decide) ?_
            cases h
            exact rn_sub [0, 1] rfl hc
        · clear hl156
          obtain ⟨Mz44, hey⟩ : ∃ z, z = e156 := ⟨_, rfl⟩
          subst hey
          show RN P 2 kX12_keepsTold 184 [(0, .ref 217)] [] (S Mz44) r
          refine sb_in [(184, .iconst 0, 1), (185, .istore_n 1, 1)] 186 (by decide +kernel) ?_
          refine sb_iconst cI0 ?_
          refine sb_istore_n (by decide) rfl ?_
          refine sb_end ?_
          obtain ⟨e186, hl186, h⟩ := bd h
          refine rn_sub [0, 1] rfl ?_
          refine lp_ind (P := fun s => RN P 2 kX12_keepsTold 186 [(0, .ref 217), (1, .int s.1)] [] (S s.2) r) (E := fun p => RN P 2 kX12_keepsTold 214 [(0, .ref 217)] [] (S p) r) ?_ _ _ _ hl186 ?_
          · intro s qx h hc
            obtain ⟨x1, M⟩ := s
            replace h : fM_keepsTold_b186 x1 M = some qx := h
            show RN P 2 kX12_keepsTold 186 [(0, .ref 217), (1, .int x1)] [] (S M) r
            unfold fM_keepsTold_b186 at h
            refine sb_in [(186, .iload_n 1, 1), (187, .bipush 64, 2), (189, .if_icmp .ge 25, 3)] 192 (by decide +kernel) ?_
            refine sb_iload_n rfl ?_
            refine sb_bipush cB64 ?_
            rcases ife h with ⟨cz67, h⟩ | ⟨cz67, h⟩
            · refine sb_icmp_ge_t 214 cz67 (by decide) ?_
              cases h
              exact rn_sub [0] rfl hc
            · refine sb_icmp_ge_f 214 cz67 (by decide) ?_
              refine sb_in [(192, .aload_n 0, 1), (193, .getfield 59, 3), (196, .iload_n 1, 1), (197, .aload_n 0, 1), (198, .aload_n 0, 1), (199, .getfield 59, 3), (202, .iload_n 1, 1), (203, .iaload, 1), (204, .invokevirtual 482, 3), (207, .iastore, 1), (208, .iinc 1 1, 3), (211, .goto (-25), 3)] 214 (by decide +kernel) ?_
              refine sb_aload_n rfl ?_
              refine ss_getR g12_59 h217 r217_33 ?_
              refine sb_iload_n rfl ?_
              refine sb_aload_n rfl ?_
              refine sb_aload_n rfl ?_
              refine ss_getR g12_59 h217 r217_33 ?_
              refine sb_iload_n rfl ?_
              obtain ⟨hgz45, h⟩ := gd h
              refine ss_iald h233 hgz45 ?_
              obtain ⟨qz47, hez46, h⟩ := bd h
              refine sb_callVi 1 rfl oX12_keeps ln12_482 vX12_keeps (rc_own h217.1 (S_lt h217.2) (by decide)) (rnCk_of (by decide +kernel) rfl) (tfM_keeps hez46) ?_
              obtain ⟨hgz49, h⟩ := gd h
              refine ss_iast h233 (by decide) hgz49 ?_
              refine ss_iinc cI1 rfl (by decide) rfl ?_
              refine sb_goto 186 (by decide) ?_
              cases h
              exact rn_sub [0, 1] rfl hc
          · clear hl186
            obtain ⟨Mz50, hey⟩ : ∃ z, z = e186 := ⟨_, rfl⟩
            subst hey
            show RN P 2 kX12_keepsTold 214 [(0, .ref 217)] [] (S Mz50) r
            refine sb_in [(214, .iconst 0, 1), (215, .istore_n 1, 1)] 216 (by decide +kernel) ?_
            refine sb_iconst cI0 ?_
            refine sb_istore_n (by decide) rfl ?_
            refine sb_end ?_
            obtain ⟨e216, hl216, h⟩ := bd h
            refine rn_sub [0, 1] rfl ?_
            refine lp_ind (P := fun s => RN P 2 kX12_keepsTold 216 [(0, .ref 217), (1, .int s.1)] [] (S s.2) r) (E := fun p => RN P 2 kX12_keepsTold 244 [(0, .ref 217)] [] (S p) r) ?_ _ _ _ hl216 ?_
            · intro s qx h hc
              obtain ⟨x1, M⟩ := s
              replace h : fM_keepsTold_b216 x1 M = some qx := h
              show RN P 2 kX12_keepsTold 216 [(0, .ref 217), (1, .int x1)] [] (S M) r
              unfold fM_keepsTold_b216 at h
              refine sb_in [(216, .iload_n 1, 1), (217, .bipush 16, 2), (219, .if_icmp .ge 25, 3)] 222 (by decide +kernel) ?_
              refine sb_iload_n rfl ?_
              refine sb_bipush cB16 ?_
              rcases ife h with ⟨cz68, h⟩ | ⟨cz68, h⟩
              · refine sb_icmp_ge_t 244 cz68 (by decide) ?_
                cases h
                exact rn_sub [0] rfl hc
              · refine sb_icmp_ge_f 244 cz68 (by decide) ?_
                refine sb_in [(222, .aload_n 0, 1), (223, .getfield 62, 3), (226, .iload_n 1, 1), (227, .aload_n 0, 1), (228, .aload_n 0, 1), (229, .getfield 62, 3), (232, .iload_n 1, 1), (233, .iaload, 1), (234, .invokevirtual 482, 3), (237, .iastore, 1), (238, .iinc 1 1, 3), (241, .goto (-25), 3)] 244 (by decide +kernel) ?_
                refine sb_aload_n rfl ?_
                refine ss_getR g12_62 h217 r217_35 ?_
                refine sb_iload_n rfl ?_
                refine sb_aload_n rfl ?_
                refine sb_aload_n rfl ?_
                refine ss_getR g12_62 h217 r217_35 ?_
                refine sb_iload_n rfl ?_
                obtain ⟨hgz51, h⟩ := gd h
                refine ss_iald h234 hgz51 ?_
                obtain ⟨qz53, hez52, h⟩ := bd h
                refine sb_callVi 1 rfl oX12_keeps ln12_482 vX12_keeps (rc_own h217.1 (S_lt h217.2) (by decide)) (rnCk_of (by decide +kernel) rfl) (tfM_keeps hez52) ?_
                obtain ⟨hgz55, h⟩ := gd h
                refine ss_iast h234 (by decide) hgz55 ?_
                refine ss_iinc cI1 rfl (by decide) rfl ?_
                refine sb_goto 216 (by decide) ?_
                cases h
                exact rn_sub [0, 1] rfl hc
            · clear hl216
              obtain ⟨Mz56, hey⟩ : ∃ z, z = e216 := ⟨_, rfl⟩
              subst hey
              show RN P 2 kX12_keepsTold 244 [(0, .ref 217)] [] (S Mz56) r
              refine sb_in [(244, .iconst 0, 1), (245, .istore_n 1, 1)] 246 (by decide +kernel) ?_
              refine sb_iconst cI0 ?_
              refine sb_istore_n (by decide) rfl ?_
              refine sb_end ?_
              obtain ⟨e246, hl246, h⟩ := bd h
              refine rn_sub [0, 1] rfl ?_
              refine lp_ind (P := fun s => RN P 2 kX12_keepsTold 246 [(0, .ref 217), (1, .int s.1)] [] (S s.2) r) (E := fun p => RN P 2 kX12_keepsTold 275 [] [] (S p) r) ?_ _ _ _ hl246 ?_
              · intro s qx h hc
                obtain ⟨x1, M⟩ := s
                replace h : fM_keepsTold_b246 x1 M = some qx := h
                show RN P 2 kX12_keepsTold 246 [(0, .ref 217), (1, .int x1)] [] (S M) r
                unfold fM_keepsTold_b246 at h
                refine sb_in [(246, .iload_n 1, 1), (247, .sipush 144, 3), (250, .if_icmp .ge 25, 3)] 253 (by decide +kernel) ?_
                refine sb_iload_n rfl ?_
                refine sb_sipush cS144 ?_
                rcases ife h with ⟨cz69, h⟩ | ⟨cz69, h⟩
                · refine sb_icmp_ge_t 275 cz69 (by decide) ?_
                  cases h
                  exact rn_sub [] rfl hc
                · refine sb_icmp_ge_f 275 cz69 (by decide) ?_
                  refine sb_in [(253, .aload_n 0, 1), (254, .getfield 65, 3), (257, .iload_n 1, 1), (258, .aload_n 0, 1), (259, .aload_n 0, 1), (260, .getfield 65, 3), (263, .iload_n 1, 1), (264, .iaload, 1), (265, .invokevirtual 482, 3), (268, .iastore, 1), (269, .iinc 1 1, 3), (272, .goto (-26), 3)] 275 (by decide +kernel) ?_
                  refine sb_aload_n rfl ?_
                  refine ss_getR g12_65 h217 r217_37 ?_
                  refine sb_iload_n rfl ?_
                  refine sb_aload_n rfl ?_
                  refine sb_aload_n rfl ?_
                  refine ss_getR g12_65 h217 r217_37 ?_
                  refine sb_iload_n rfl ?_
                  obtain ⟨hgz57, h⟩ := gd h
                  refine ss_iald h235 hgz57 ?_
                  obtain ⟨qz59, hez58, h⟩ := bd h
                  refine sb_callVi 1 rfl oX12_keeps ln12_482 vX12_keeps (rc_own h217.1 (S_lt h217.2) (by decide)) (rnCk_of (by decide +kernel) rfl) (tfM_keeps hez58) ?_
                  obtain ⟨hgz61, h⟩ := gd h
                  refine ss_iast h235 (by decide) hgz61 ?_
                  refine ss_iinc cI1 rfl (by decide) rfl ?_
                  refine sb_goto 246 (by decide) ?_
                  cases h
                  exact rn_sub [0, 1] rfl hc
              · clear hl246
                obtain ⟨Mz62, hey⟩ : ∃ z, z = e246 := ⟨_, rfl⟩
                subst hey
                show RN P 2 kX12_keepsTold 275 [] [] (S Mz62) r
                refine sb_in [(275, .return_, 1)] 276 (by decide +kernel) ?_
                cases h
                subst hr
                refine sb_return ?_
                exact rfl
theorem tfM_keepsTold {P : Px} {M : Mm} {rr : Mm} (h : fM_keepsTold M = some rr) : EX P 2 kX12_keepsTold [.ref 217] (S M) (none, S rr) := ex_of oX12_keepsTold (Nat.le_of_ble_eq_true rfl) (nfM_keepsTold  h rfl)
set_option maxRecDepth 20000 in
theorem nfM_image {P : Px} {x1 : Int32} {M : Mm} {rr : (Int32 × Mm)} (h : fM_image x1 M = some rr) {r : Option Value × Sg} (hr : r = (some (.int rr.1), S rr.2)) : RN P 3 kX12_image 0 [(0, .ref 217), (1, .int x1)] [] (S M) r := by
  unfold fM_image at h
  refine sb_in [(0, .aload_n 0, 1), (1, .iconst 0, 1), (2, .putfield 116, 3), (5, .iload_n 1, 1), (6, .ifCond .ne 12, 3)] 9 (by decide +kernel) ?_
  refine sb_aload_n rfl ?_
  refine sb_iconst cI0 ?_
  refine ss_putI p12_116 h217 (by decide) ?_
  refine sb_iload_n rfl ?_
  have hJ18 : ∀ (z1 : Int32) (M : Mm), fM_image_j18 z1 M = some rr → RN P 3 kX12_image 18 [(0, .ref 217), (1, .int z1)] [] (S M) r := by
    intro z1 M h
    unfold fM_image_j18 at h
    refine sb_in [(18, .aload_n 0, 1), (19, .iload_n 1, 1), (20, .putfield 479, 3), (23, .aload_n 0, 1), (24, .iconst 1, 1), (25, .putfield 485, 3), (28, .aload_n 0, 1), (29, .iconst 0, 1), (30, .putfield 476, 3), (33, .iconst 0, 1), (34, .istore_n 2, 1)] 35 (by decide +kernel) ?_
    refine sb_aload_n rfl ?_
    refine sb_iload_n rfl ?_
    obtain ⟨hgz2, h⟩ := gd h
    refine ss_putZ p12_479 h217 (by decide) hgz2 ?_
    refine sb_aload_n rfl ?_
    refine sb_iconst cI1 ?_
    refine ss_putZ p12_485 h217 (by decide) (Or.inr rfl) ?_
    refine sb_aload_n rfl ?_
    refine sb_iconst cI0 ?_
    refine ss_putI p12_476 h217 (by decide) ?_
    refine sb_iconst cI0 ?_
    refine sb_istore_n (by decide) rfl ?_
    refine sb_end ?_
    obtain ⟨e35, hl35, h⟩ := bd h
    refine rn_sub [0, 1, 2] rfl ?_
    refine lp_ind (P := fun s => RN P 3 kX12_image 35 [(0, .ref 217), (1, .int z1), (2, .int s.1)] [] (S s.2) r) (E := fun p => RN P 3 kX12_image 64 [(0, .ref 217), (1, .int z1)] [] (S p) r) ?_ _ _ _ hl35 ?_
    · intro s qx h hc
      obtain ⟨x2, M⟩ := s
      replace h : fM_image_b35 z1 x2 M = some qx := h
      show RN P 3 kX12_image 35 [(0, .ref 217), (1, .int z1), (2, .int x2)] [] (S M) r
      generalize z1 = x1 at h hc ⊢
      unfold fM_image_b35 at h
      refine sb_in [(35, .iload_n 2, 1), (36, .sipush 174, 3), (39, .if_icmp .ge 25, 3)] 42 (by decide +kernel) ?_
      refine sb_iload_n rfl ?_
      refine sb_sipush cS174 ?_
      rcases ife h with ⟨cz25, h⟩ | ⟨cz25, h⟩
      · refine sb_icmp_ge_t 64 cz25 (by decide) ?_
        cases h
        exact rn_sub [0, 1] rfl hc
      · refine sb_icmp_ge_f 64 cz25 (by decide) ?_
        refine sb_in [(42, .aload_n 0, 1), (43, .getfield 7, 3), (46, .iload_n 2, 1), (47, .aload_n 0, 1), (48, .aload_n 0, 1), (49, .getfield 7, 3), (52, .iload_n 2, 1), (53, .iaload, 1), (54, .invokevirtual 482, 3), (57, .iastore, 1), (58, .iinc 2 1, 3), (61, .goto (-26), 3)] 64 (by decide +kernel) ?_
        refine sb_aload_n rfl ?_
        refine ss_getR g12_7 h217 r217_1 ?_
        refine sb_iload_n rfl ?_
        refine sb_aload_n rfl ?_
        refine sb_aload_n rfl ?_
        refine ss_getR g12_7 h217 r217_1 ?_
        refine sb_iload_n rfl ?_
        obtain ⟨hgz6, h⟩ := gd h
        refine ss_iald h218 hgz6 ?_
        obtain ⟨qz8, hez7, h⟩ := bd h
        refine sb_callVi 1 rfl oX12_keeps ln12_482 vX12_keeps (rc_own h217.1 (S_lt h217.2) (by decide)) (rnCk_of (by decide +kernel) rfl) (tfM_keeps hez7) ?_
        obtain ⟨hgz10, h⟩ := gd h
        refine ss_iast h218 (by decide) hgz10 ?_
        refine ss_iinc cI1 rfl (by decide) rfl ?_
        refine sb_goto 35 (by decide) ?_
        cases h
        exact rn_sub [0, 1, 2] rfl hc
    · clear hl35
      obtain ⟨Mz11, hey⟩ : ∃ z, z = e35 := ⟨_, rfl⟩
      subst hey
      show RN P 3 kX12_image 64 [(0, .ref 217), (1, .int z1)] [] (S Mz11) r
      refine sb_in [(64, .aload_n 0, 1), (65, .invokevirtual 488, 3), (68, .aload_n 0, 1), (69, .invokevirtual 491, 3), (72, .iconst 0, 1), (73, .istore_n 2, 1)] 74 (by decide +kernel) ?_
      refine sb_aload_n rfl ?_
      obtain ⟨Mz13, hez12, h⟩ := bd h
      refine sb_callVv 0 rfl oX12_keepsMany ln12_488 vX12_keepsMany (rc_own h217.1 (S_lt h217.2) (by decide)) (rnCk_of (by decide +kernel) rfl) (tfM_keepsMany hez12) ?_
      refine sb_aload_n rfl ?_
      obtain ⟨Mz15, hez14, h⟩ := bd h
      refine sb_callVv 0 rfl oX12_keepsTold ln12_491 vX12_keepsTold (rc_own h217.1 (S_lt h217.2) (by decide)) (rnCk_of (by decide +kernel) rfl) (tfM_keepsTold hez14) ?_
      refine sb_iconst cI0 ?_
      refine sb_istore_n (by decide) rfl ?_
      refine sb_end ?_
      obtain ⟨e74, hl74, h⟩ := bd h
      refine rn_sub [0, 1, 2] rfl ?_
      refine lp_ind (P := fun s => RN P 3 kX12_image 74 [(0, .ref 217), (1, .int z1), (2, .int s.1)] [] (S s.2) r) (E := fun p => RN P 3 kX12_image 103 [(0, .ref 217), (1, .int z1)] [] (S p) r) ?_ _ _ _ hl74 ?_
      · intro s qx h hc
        obtain ⟨x2, M⟩ := s
        replace h : fM_image_b74 z1 x2 M = some qx := h
        show RN P 3 kX12_image 74 [(0, .ref 217), (1, .int z1), (2, .int x2)] [] (S M) r
        generalize z1 = x1 at h hc ⊢
        unfold fM_image_b74 at h
        refine sb_in [(74, .iload_n 2, 1), (75, .sipush 600, 3), (78, .if_icmp .ge 25, 3)] 81 (by decide +kernel) ?_
        refine sb_iload_n rfl ?_
        refine sb_sipush cS600 ?_
        rcases ife h with ⟨cz26, h⟩ | ⟨cz26, h⟩
        · refine sb_icmp_ge_t 103 cz26 (by decide) ?_
          cases h
          exact rn_sub [0, 1] rfl hc
        · refine sb_icmp_ge_f 103 cz26 (by decide) ?_
          refine sb_in [(81, .aload_n 0, 1), (82, .getfield 22, 3), (85, .iload_n 2, 1), (86, .aload_n 0, 1), (87, .aload_n 0, 1), (88, .getfield 22, 3), (91, .iload_n 2, 1), (92, .iaload, 1), (93, .invokevirtual 482, 3), (96, .iastore, 1), (97, .iinc 2 1, 3), (100, .goto (-26), 3)] 103 (by decide +kernel) ?_
          refine sb_aload_n rfl ?_
          refine ss_getR g12_22 h217 r217_8 ?_
          refine sb_iload_n rfl ?_
          refine sb_aload_n rfl ?_
          refine sb_aload_n rfl ?_
          refine ss_getR g12_22 h217 r217_8 ?_
          refine sb_iload_n rfl ?_
          obtain ⟨hgz16, h⟩ := gd h
          refine ss_iald h222 hgz16 ?_
          obtain ⟨qz18, hez17, h⟩ := bd h
          refine sb_callVi 1 rfl oX12_keeps ln12_482 vX12_keeps (rc_own h217.1 (S_lt h217.2) (by decide)) (rnCk_of (by decide +kernel) rfl) (tfM_keeps hez17) ?_
          obtain ⟨hgz20, h⟩ := gd h
          refine ss_iast h222 (by decide) hgz20 ?_
          refine ss_iinc cI1 rfl (by decide) rfl ?_
          refine sb_goto 74 (by decide) ?_
          cases h
          exact rn_sub [0, 1, 2] rfl hc
      · clear hl74
        obtain ⟨Mz21, hey⟩ : ∃ z, z = e74 := ⟨_, rfl⟩
        subst hey
        show RN P 3 kX12_image 103 [(0, .ref 217), (1, .int z1)] [] (S Mz21) r
        refine sb_in [(103, .aload_n 0, 1), (104, .invokevirtual 494, 3), (107, .iload_n 1, 1), (108, .ifCond .ne 8, 3)] 111 (by decide +kernel) ?_
        refine sb_aload_n rfl ?_
        obtain ⟨Mz23, hez22, h⟩ := bd h
        refine sb_callVv 0 rfl oX12_keepsLaw ln12_494 vX12_keepsLaw (rc_own h217.1 (S_lt h217.2) (by decide)) (rnCk_of (by decide +kernel) rfl) (tfM_keepsLaw hez22) ?_
        refine sb_iload_n rfl ?_
        rcases ife h with ⟨cz27, h⟩ | ⟨cz27, h⟩
        · refine sb_if_ne_f 116 cz27 (by decide) ?_
          refine sb_in [(111, .aload_n 0, 1), (112, .iconst 0, 1), (113, .putfield 120, 3)] 116 (by decide +kernel) ?_
          refine sb_aload_n rfl ?_
          refine sb_iconst cI0 ?_
          refine ss_putI p12_120 h217 (by decide) ?_
          refine sb_end ?_
          refine sb_in [(116, .iconst 1, 1), (117, .ireturn, 1)] 118 (by decide +kernel) ?_
          refine sb_iconst cI1 ?_
          cases h
          subst hr
          refine sb_ireturn ?_
          exact ⟨.boolean, rfl, by decide⟩
        · refine sb_if_ne_t 116 cz27 (by decide) ?_
          refine sb_in [(116, .iconst 1, 1), (117, .ireturn, 1)] 118 (by decide +kernel) ?_
          refine sb_iconst cI1 ?_
          cases h
          subst hr
          refine sb_ireturn ?_
          exact ⟨.boolean, rfl, by decide⟩
  rcases ife h with ⟨cz28, h⟩ | ⟨cz28, h⟩
  · refine sb_if_ne_f 18 cz28 (by decide) ?_
    refine sb_in [(9, .aload_n 0, 1), (10, .getfield 485, 3), (13, .ifCond .ne 5, 3)] 16 (by decide +kernel) ?_
    refine sb_aload_n rfl ?_
    refine ss_getI g12_485 h217 ?_
    rcases ife h with ⟨cz29, h⟩ | ⟨cz29, h⟩
    · refine sb_if_ne_f 18 cz29 (by decide) ?_
      refine sb_in [(16, .iconst 0, 1), (17, .ireturn, 1)] 18 (by decide +kernel) ?_
      refine sb_iconst cI0 ?_
      cases h
      subst hr
      refine sb_ireturn ?_
      exact ⟨.boolean, rfl, by decide⟩
    · refine sb_if_ne_t 18 cz29 (by decide) ?_
      exact rn_sub [0, 1] rfl (hJ18 _ _ h)
  · refine sb_if_ne_t 18 cz28 (by decide) ?_
    exact rn_sub [0, 1] rfl (hJ18 _ _ h)
theorem tfM_image {P : Px} {x1 : Int32} {M : Mm} {rr : (Int32 × Mm)} (h : fM_image x1 M = some rr) : EX P 3 kX12_image [.ref 217, .int x1] (S M) (some (.int rr.1), S rr.2) := ex_of oX12_image (Nat.le_of_ble_eq_true rfl) (nfM_image  h rfl)
set_option maxRecDepth 20000 in
theorem nfM_look {P : Px} {x1 : Int32} {M : Mm} {rr : (Int32 × Mm)} (h : fM_look x1 M = rr) {r : Option Value × Sg} (hr : r = (some (.int rr.1), S rr.2)) : RN P 2 kX12_look 0 [(0, .ref 217), (1, .int x1)] [] (S M) r := by
  unfold fM_look at h
  refine sb_in [(0, .aload_n 0, 1), (1, .iconst 0, 1), (2, .putfield 116, 3), (5, .iload_n 1, 1), (6, .ifCond .ne 8, 3)] 9 (by decide +kernel) ?_
  refine sb_aload_n rfl ?_
  refine sb_iconst cI0 ?_
  refine ss_putI p12_116 h217 (by decide) ?_
  refine sb_iload_n rfl ?_
  rcases ife h with ⟨cz3, h⟩ | ⟨cz3, h⟩
  · refine sb_if_ne_f 14 cz3 (by decide) ?_
    refine sb_in [(9, .aload_n 0, 1), (10, .getfield 129, 3), (13, .ireturn, 1)] 14 (by decide +kernel) ?_
    refine sb_aload_n rfl ?_
    refine ss_getI g12_129 h217 ?_
    subst h
    subst hr
    refine sb_ireturn ?_
    exact ⟨.int, rfl, rfl⟩
  · refine sb_if_ne_t 14 cz3 (by decide) ?_
    refine sb_in [(14, .iload_n 1, 1), (15, .iconst 1, 1), (16, .if_icmp .ne 11, 3)] 19 (by decide +kernel) ?_
    refine sb_iload_n rfl ?_
    refine sb_iconst cI1 ?_
    rcases ife h with ⟨cz4, h⟩ | ⟨cz4, h⟩
    · refine sb_icmp_ne_f 27 cz4 (by decide) ?_
      refine sb_in [(19, .aload_n 0, 1), (20, .getfield 7, 3), (23, .bipush 10, 2), (25, .iaload, 1), (26, .ireturn, 1)] 27 (by decide +kernel) ?_
      refine sb_aload_n rfl ?_
      refine ss_getR g12_7 h217 r217_1 ?_
      refine sb_bipush cB10 ?_
      refine ss_ialdL 10 h218 iL10 rfl ?_
      subst h
      subst hr
      refine sb_ireturn ?_
      exact ⟨.int, rfl, rfl⟩
    · refine sb_icmp_ne_t 27 cz4 (by decide) ?_
      refine sb_in [(27, .iload_n 1, 1), (28, .iconst 2, 1), (29, .if_icmp .ne 8, 3)] 32 (by decide +kernel) ?_
      refine sb_iload_n rfl ?_
      refine sb_iconst cI2 ?_
      rcases ife h with ⟨cz5, h⟩ | ⟨cz5, h⟩
      · refine sb_icmp_ne_f 37 cz5 (by decide) ?_
        refine sb_in [(32, .aload_n 0, 1), (33, .invokevirtual 312, 3), (36, .ireturn, 1)] 37 (by decide +kernel) ?_
        refine sb_aload_n rfl ?_
        refine sb_callVi 0 rfl oX12_health ln12_312 vX12_health (rc_own h217.1 (S_lt h217.2) (by decide)) (rnCk_of (by decide +kernel) rfl) (tfM_health) ?_
        subst h
        subst hr
        refine sb_ireturn ?_
        exact ⟨.int, rfl, rfl⟩
      · refine sb_icmp_ne_t 37 cz5 (by decide) ?_
        refine sb_in [(37, .iload_n 1, 1), (38, .iconst 3, 1), (39, .if_icmp .ne 10, 3)] 42 (by decide +kernel) ?_
        refine sb_iload_n rfl ?_
        refine sb_iconst cI3 ?_
        rcases ife h with ⟨cz6, h⟩ | ⟨cz6, h⟩
        · refine sb_icmp_ne_f 49 cz6 (by decide) ?_
          refine sb_in [(42, .aload_n 0, 1), (43, .getfield 7, 3), (46, .iconst 5, 1), (47, .iaload, 1), (48, .ireturn, 1)] 49 (by decide +kernel) ?_
          refine sb_aload_n rfl ?_
          refine ss_getR g12_7 h217 r217_1 ?_
          refine sb_iconst cI5 ?_
          refine ss_ialdL 5 h218 iL5 rfl ?_
          subst h
          subst hr
          refine sb_ireturn ?_
          exact ⟨.int, rfl, rfl⟩
        · refine sb_icmp_ne_t 49 cz6 (by decide) ?_
          refine sb_in [(49, .iload_n 1, 1), (50, .iconst 4, 1), (51, .if_icmp .ne 11, 3)] 54 (by decide +kernel) ?_
          refine sb_iload_n rfl ?_
          refine sb_iconst cI4 ?_
          rcases ife h with ⟨cz7, h⟩ | ⟨cz7, h⟩
          · refine sb_icmp_ne_f 62 cz7 (by decide) ?_
            refine sb_in [(54, .aload_n 0, 1), (55, .getfield 7, 3), (58, .bipush 6, 2), (60, .iaload, 1), (61, .ireturn, 1)] 62 (by decide +kernel) ?_
            refine sb_aload_n rfl ?_
            refine ss_getR g12_7 h217 r217_1 ?_
            refine sb_bipush cB6 ?_
            refine ss_ialdL 6 h218 iL6 rfl ?_
            subst h
            subst hr
            refine sb_ireturn ?_
            exact ⟨.int, rfl, rfl⟩
          · refine sb_icmp_ne_t 62 cz7 (by decide) ?_
            refine sb_in [(62, .iload_n 1, 1), (63, .iconst 5, 1), (64, .if_icmp .ne 11, 3)] 67 (by decide +kernel) ?_
            refine sb_iload_n rfl ?_
            refine sb_iconst cI5 ?_
            rcases ife h with ⟨cz8, h⟩ | ⟨cz8, h⟩
            · refine sb_icmp_ne_f 75 cz8 (by decide) ?_
              refine sb_in [(67, .aload_n 0, 1), (68, .getfield 7, 3), (71, .bipush 7, 2), (73, .iaload, 1), (74, .ireturn, 1)] 75 (by decide +kernel) ?_
              refine sb_aload_n rfl ?_
              refine ss_getR g12_7 h217 r217_1 ?_
              refine sb_bipush cB7 ?_
              refine ss_ialdL 7 h218 iL7 rfl ?_
              subst h
              subst hr
              refine sb_ireturn ?_
              exact ⟨.int, rfl, rfl⟩
            · refine sb_icmp_ne_t 75 cz8 (by decide) ?_
              refine sb_in [(75, .iload_n 1, 1), (76, .bipush 6, 2), (78, .if_icmp .ne 10, 3)] 81 (by decide +kernel) ?_
              refine sb_iload_n rfl ?_
              refine sb_bipush cB6 ?_
              rcases ife h with ⟨cz9, h⟩ | ⟨cz9, h⟩
              · refine sb_icmp_ne_f 88 cz9 (by decide) ?_
                refine sb_in [(81, .aload_n 0, 1), (82, .getfield 7, 3), (85, .iconst 3, 1), (86, .iaload, 1), (87, .ireturn, 1)] 88 (by decide +kernel) ?_
                refine sb_aload_n rfl ?_
                refine ss_getR g12_7 h217 r217_1 ?_
                refine sb_iconst cI3 ?_
                refine ss_ialdL 3 h218 iL3 rfl ?_
                subst h
                subst hr
                refine sb_ireturn ?_
                exact ⟨.int, rfl, rfl⟩
              · refine sb_icmp_ne_t 88 cz9 (by decide) ?_
                refine sb_in [(88, .iload_n 1, 1), (89, .bipush 7, 2), (91, .if_icmp .ne 11, 3)] 94 (by decide +kernel) ?_
                refine sb_iload_n rfl ?_
                refine sb_bipush cB7 ?_
                rcases ife h with ⟨cz10, h⟩ | ⟨cz10, h⟩
                · refine sb_icmp_ne_f 102 cz10 (by decide) ?_
                  refine sb_in [(94, .aload_n 0, 1), (95, .getfield 7, 3), (98, .bipush 8, 2), (100, .iaload, 1), (101, .ireturn, 1)] 102 (by decide +kernel) ?_
                  refine sb_aload_n rfl ?_
                  refine ss_getR g12_7 h217 r217_1 ?_
                  refine sb_bipush cB8 ?_
                  refine ss_ialdL 8 h218 iL8 rfl ?_
                  subst h
                  subst hr
                  refine sb_ireturn ?_
                  exact ⟨.int, rfl, rfl⟩
                · refine sb_icmp_ne_t 102 cz10 (by decide) ?_
                  refine sb_in [(102, .iload_n 1, 1), (103, .bipush 8, 2), (105, .if_icmp .ne 10, 3)] 108 (by decide +kernel) ?_
                  refine sb_iload_n rfl ?_
                  refine sb_bipush cB8 ?_
                  rcases ife h with ⟨cz11, h⟩ | ⟨cz11, h⟩
                  · refine sb_icmp_ne_f 115 cz11 (by decide) ?_
                    refine sb_in [(108, .aload_n 0, 1), (109, .getfield 7, 3), (112, .iconst 0, 1), (113, .iaload, 1), (114, .ireturn, 1)] 115 (by decide +kernel) ?_
                    refine sb_aload_n rfl ?_
                    refine ss_getR g12_7 h217 r217_1 ?_
                    refine sb_iconst cI0 ?_
                    refine ss_ialdL 0 h218 iL0 rfl ?_
                    subst h
                    subst hr
                    refine sb_ireturn ?_
                    exact ⟨.int, rfl, rfl⟩
                  · refine sb_icmp_ne_t 115 cz11 (by decide) ?_
                    refine sb_in [(115, .iload_n 1, 1), (116, .bipush 9, 2), (118, .if_icmp .ne 10, 3)] 121 (by decide +kernel) ?_
                    refine sb_iload_n rfl ?_
                    refine sb_bipush cB9 ?_
                    rcases ife h with ⟨cz12, h⟩ | ⟨cz12, h⟩
                    · refine sb_icmp_ne_f 128 cz12 (by decide) ?_
                      refine sb_in [(121, .aload_n 0, 1), (122, .getfield 7, 3), (125, .iconst 2, 1), (126, .iaload, 1), (127, .ireturn, 1)] 128 (by decide +kernel) ?_
                      refine sb_aload_n rfl ?_
                      refine ss_getR g12_7 h217 r217_1 ?_
                      refine sb_iconst cI2 ?_
                      refine ss_ialdL 2 h218 iL2 rfl ?_
                      subst h
                      subst hr
                      refine sb_ireturn ?_
                      exact ⟨.int, rfl, rfl⟩
                    · refine sb_icmp_ne_t 128 cz12 (by decide) ?_
                      refine sb_in [(128, .iload_n 1, 1), (129, .bipush 10, 2), (131, .if_icmp .ne 10, 3)] 134 (by decide +kernel) ?_
                      refine sb_iload_n rfl ?_
                      refine sb_bipush cB10 ?_
                      rcases ife h with ⟨cz13, h⟩ | ⟨cz13, h⟩
                      · refine sb_icmp_ne_f 141 cz13 (by decide) ?_
                        refine sb_in [(134, .aload_n 0, 1), (135, .getfield 7, 3), (138, .iconst 1, 1), (139, .iaload, 1), (140, .ireturn, 1)] 141 (by decide +kernel) ?_
                        refine sb_aload_n rfl ?_
                        refine ss_getR g12_7 h217 r217_1 ?_
                        refine sb_iconst cI1 ?_
                        refine ss_ialdL 1 h218 iL1 rfl ?_
                        subst h
                        subst hr
                        refine sb_ireturn ?_
                        exact ⟨.int, rfl, rfl⟩
                      · refine sb_icmp_ne_t 141 cz13 (by decide) ?_
                        refine sb_in [(141, .iload_n 1, 1), (142, .bipush 11, 2), (144, .if_icmp .ne 10, 3)] 147 (by decide +kernel) ?_
                        refine sb_iload_n rfl ?_
                        refine sb_bipush cB11 ?_
                        rcases ife h with ⟨cz14, h⟩ | ⟨cz14, h⟩
                        · refine sb_icmp_ne_f 154 cz14 (by decide) ?_
                          refine sb_in [(147, .aload_n 0, 1), (148, .getfield 31, 3), (151, .iconst 0, 1), (152, .iaload, 1), (153, .ireturn, 1)] 154 (by decide +kernel) ?_
                          refine sb_aload_n rfl ?_
                          refine ss_getR g12_31 h217 r217_16 ?_
                          refine sb_iconst cI0 ?_
                          refine ss_ialdL 0 h225 iL0 rfl ?_
                          subst h
                          subst hr
                          refine sb_ireturn ?_
                          exact ⟨.int, rfl, rfl⟩
                        · refine sb_icmp_ne_t 154 cz14 (by decide) ?_
                          refine sb_in [(154, .iload_n 1, 1), (155, .bipush 12, 2), (157, .if_icmp .ne 8, 3)] 160 (by decide +kernel) ?_
                          refine sb_iload_n rfl ?_
                          refine sb_bipush cB12 ?_
                          rcases ife h with ⟨cz15, h⟩ | ⟨cz15, h⟩
                          · refine sb_icmp_ne_f 165 cz15 (by decide) ?_
                            refine sb_in [(160, .aload_n 0, 1), (161, .getfield 288, 3), (164, .ireturn, 1)] 165 (by decide +kernel) ?_
                            refine sb_aload_n rfl ?_
                            refine ss_getI g12_288 h217 ?_
                            subst h
                            subst hr
                            refine sb_ireturn ?_
                            exact ⟨.int, rfl, rfl⟩
                          · refine sb_icmp_ne_t 165 cz15 (by decide) ?_
                            refine sb_in [(165, .iload_n 1, 1), (166, .bipush 13, 2), (168, .if_icmp .ne 8, 3)] 171 (by decide +kernel) ?_
                            refine sb_iload_n rfl ?_
                            refine sb_bipush cB13 ?_
                            rcases ife h with ⟨cz16, h⟩ | ⟨cz16, h⟩
                            · refine sb_icmp_ne_f 176 cz16 (by decide) ?_
                              refine sb_in [(171, .aload_n 0, 1), (172, .getfield 291, 3), (175, .ireturn, 1)] 176 (by decide +kernel) ?_
                              refine sb_aload_n rfl ?_
                              refine ss_getI g12_291 h217 ?_
                              subst h
                              subst hr
                              refine sb_ireturn ?_
                              exact ⟨.int, rfl, rfl⟩
                            · refine sb_icmp_ne_t 176 cz16 (by decide) ?_
                              refine sb_in [(176, .iload_n 1, 1), (177, .bipush 14, 2), (179, .if_icmp .ne 8, 3)] 182 (by decide +kernel) ?_
                              refine sb_iload_n rfl ?_
                              refine sb_bipush cB14 ?_
                              rcases ife h with ⟨cz17, h⟩ | ⟨cz17, h⟩
                              · refine sb_icmp_ne_f 187 cz17 (by decide) ?_
                                refine sb_in [(182, .aload_n 0, 1), (183, .getfield 285, 3), (186, .ireturn, 1)] 187 (by decide +kernel) ?_
                                refine sb_aload_n rfl ?_
                                refine ss_getI g12_285 h217 ?_
                                subst h
                                subst hr
                                refine sb_ireturn ?_
                                exact ⟨.int, rfl, rfl⟩
                              · refine sb_icmp_ne_t 187 cz17 (by decide) ?_
                                refine sb_in [(187, .iload_n 1, 1), (188, .bipush 15, 2), (190, .if_icmp .ne 10, 3)] 193 (by decide +kernel) ?_
                                refine sb_iload_n rfl ?_
                                refine sb_bipush cB15 ?_
                                rcases ife h with ⟨cz18, h⟩ | ⟨cz18, h⟩
                                · refine sb_icmp_ne_f 200 cz18 (by decide) ?_
                                  refine sb_in [(193, .aload_n 0, 1), (194, .getfield 120, 3), (197, .goto 4, 3)] 200 (by decide +kernel) ?_
                                  refine sb_aload_n rfl ?_
                                  refine ss_getI g12_120 h217 ?_
                                  refine sb_goto 201 (by decide) ?_
                                  refine sb_in [(201, .ireturn, 1)] 202 (by decide +kernel) ?_
                                  subst h
                                  subst hr
                                  refine sb_ireturn ?_
                                  exact ⟨.int, rfl, rfl⟩
                                · refine sb_icmp_ne_t 200 cz18 (by decide) ?_
                                  refine sb_in [(200, .iconst (-1), 1)] 201 (by decide +kernel) ?_
                                  refine sb_iconst cIm1 ?_
                                  refine sb_end ?_
                                  refine sb_in [(201, .ireturn, 1)] 202 (by decide +kernel) ?_
                                  subst h
                                  subst hr
                                  refine sb_ireturn ?_
                                  exact ⟨.int, rfl, rfl⟩
theorem tfM_look {P : Px} {x1 : Int32} {M : Mm} : EX P 2 kX12_look [.ref 217, .int x1] (S M) (some (.int (fM_look x1 M).1), S (fM_look x1 M).2) := ex_of oX12_look (Nat.le_of_ble_eq_true rfl) (nfM_look  rfl rfl)
set_option maxRecDepth 20000 in
set_option maxHeartbeats 8000000 in
theorem nfZ_law {L : Nat} {xs : Nat → Int32} {M : Mm} {rr : (Int32 × Mm)} (h : fZ_law L xs M = some rr) {r : Option Value × Sg} (hr : r = (some (.int rr.1), S rr.2)) : RN ((L, xs) : Px) 13 kL_law 16 [(0, .ref 1002), (1, .ref 0), (2, .ref 217)] [] (S M) r := by
  unfold fZ_law at h
  refine sb_in [(16, .iconst 0, 1), (17, .istore_n 3, 1)] 18 (by decide +kernel) ?_
  refine sb_iconst cI0 ?_
  refine sb_istore_n (by decide) rfl ?_
  refine sb_end ?_
  obtain ⟨e18, hl18, h⟩ := bd h
  refine rn_sub [0, 1, 2, 3] rfl ?_
  refine lp_ind (P := fun s => RN ((L, xs) : Px) 13 kL_law 18 [(0, .ref 1002), (1, .ref 0), (2, .ref 217), (3, .int s.1)] [] (S s.2) r) (E := fun e => match e with | Sum.inl p => RN ((L, xs) : Px) 13 kL_law 213 [] [] (S p) r | Sum.inr (Sum.inl p) => RN ((L, xs) : Px) 13 kL_law 256 [] [] (S p) r | Sum.inr (Sum.inr (Sum.inl p)) => RN ((L, xs) : Px) 13 kL_law 299 [] [] (S p) r | Sum.inr (Sum.inr (Sum.inr (Sum.inl p))) => RN ((L, xs) : Px) 13 kL_law 342 [] [] (S p) r | Sum.inr (Sum.inr (Sum.inr (Sum.inr (Sum.inl p)))) => RN ((L, xs) : Px) 13 kL_law 365 [] [] (S p) r | Sum.inr (Sum.inr (Sum.inr (Sum.inr (Sum.inr (Sum.inl p))))) => RN ((L, xs) : Px) 13 kL_law 388 [] [] (S p) r | Sum.inr (Sum.inr (Sum.inr (Sum.inr (Sum.inr (Sum.inr (Sum.inl p)))))) => RN ((L, xs) : Px) 13 kL_law 411 [] [] (S p) r | Sum.inr (Sum.inr (Sum.inr (Sum.inr (Sum.inr (Sum.inr (Sum.inr (Sum.inl p))))))) => RN ((L, xs) : Px) 13 kL_law 474 [] [] (S p) r | Sum.inr (Sum.inr (Sum.inr (Sum.inr (Sum.inr (Sum.inr (Sum.inr (Sum.inr (Sum.inl p)))))))) => RN ((L, xs) : Px) 13 kL_law 497 [] [] (S p) r | Sum.inr (Sum.inr (Sum.inr (Sum.inr (Sum.inr (Sum.inr (Sum.inr (Sum.inr (Sum.inr (Sum.inl p))))))))) => RN ((L, xs) : Px) 13 kL_law 520 [] [] (S p) r | Sum.inr (Sum.inr (Sum.inr (Sum.inr (Sum.inr (Sum.inr (Sum.inr (Sum.inr (Sum.inr (Sum.inr (Sum.inl p)))))))))) => RN ((L, xs) : Px) 13 kL_law 543 [] [] (S p) r | Sum.inr (Sum.inr (Sum.inr (Sum.inr (Sum.inr (Sum.inr (Sum.inr (Sum.inr (Sum.inr (Sum.inr (Sum.inr (Sum.inl p))))))))))) => RN ((L, xs) : Px) 13 kL_law 576 [] [] (S p) r | Sum.inr (Sum.inr (Sum.inr (Sum.inr (Sum.inr (Sum.inr (Sum.inr (Sum.inr (Sum.inr (Sum.inr (Sum.inr (Sum.inr (Sum.inl p)))))))))))) => RN ((L, xs) : Px) 13 kL_law 609 [] [] (S p) r | Sum.inr (Sum.inr (Sum.inr (Sum.inr (Sum.inr (Sum.inr (Sum.inr (Sum.inr (Sum.inr (Sum.inr (Sum.inr (Sum.inr (Sum.inr (Sum.inl p))))))))))))) => RN ((L, xs) : Px) 13 kL_law 632 [] [] (S p) r | Sum.inr (Sum.inr (Sum.inr (Sum.inr (Sum.inr (Sum.inr (Sum.inr (Sum.inr (Sum.inr (Sum.inr (Sum.inr (Sum.inr (Sum.inr (Sum.inr (Sum.inl p)))))))))))))) => RN ((L, xs) : Px) 13 kL_law 665 [] [] (S p) r | Sum.inr (Sum.inr (Sum.inr (Sum.inr (Sum.inr (Sum.inr (Sum.inr (Sum.inr (Sum.inr (Sum.inr (Sum.inr (Sum.inr (Sum.inr (Sum.inr (Sum.inr (Sum.inl p))))))))))))))) => RN ((L, xs) : Px) 13 kL_law 698 [] [] (S p) r | Sum.inr (Sum.inr (Sum.inr (Sum.inr (Sum.inr (Sum.inr (Sum.inr (Sum.inr (Sum.inr (Sum.inr (Sum.inr (Sum.inr (Sum.inr (Sum.inr (Sum.inr (Sum.inr (Sum.inl p)))))))))))))))) => RN ((L, xs) : Px) 13 kL_law 731 [] [] (S p) r | Sum.inr (Sum.inr (Sum.inr (Sum.inr (Sum.inr (Sum.inr (Sum.inr (Sum.inr (Sum.inr (Sum.inr (Sum.inr (Sum.inr (Sum.inr (Sum.inr (Sum.inr (Sum.inr (Sum.inr (Sum.inl p))))))))))))))))) => RN ((L, xs) : Px) 13 kL_law 754 [] [] (S p) r | Sum.inr (Sum.inr (Sum.inr (Sum.inr (Sum.inr (Sum.inr (Sum.inr (Sum.inr (Sum.inr (Sum.inr (Sum.inr (Sum.inr (Sum.inr (Sum.inr (Sum.inr (Sum.inr (Sum.inr (Sum.inr (Sum.inl p)))))))))))))))))) => RN ((L, xs) : Px) 13 kL_law 787 [] [] (S p) r | Sum.inr (Sum.inr (Sum.inr (Sum.inr (Sum.inr (Sum.inr (Sum.inr (Sum.inr (Sum.inr (Sum.inr (Sum.inr (Sum.inr (Sum.inr (Sum.inr (Sum.inr (Sum.inr (Sum.inr (Sum.inr (Sum.inr (Sum.inl p))))))))))))))))))) => RN ((L, xs) : Px) 13 kL_law 820 [] [] (S p) r | Sum.inr (Sum.inr (Sum.inr (Sum.inr (Sum.inr (Sum.inr (Sum.inr (Sum.inr (Sum.inr (Sum.inr (Sum.inr (Sum.inr (Sum.inr (Sum.inr (Sum.inr (Sum.inr (Sum.inr (Sum.inr (Sum.inr (Sum.inr (Sum.inl p)))))))))))))))))))) => RN ((L, xs) : Px) 13 kL_law 863 [] [] (S p) r | Sum.inr (Sum.inr (Sum.inr (Sum.inr (Sum.inr (Sum.inr (Sum.inr (Sum.inr (Sum.inr (Sum.inr (Sum.inr (Sum.inr (Sum.inr (Sum.inr (Sum.inr (Sum.inr (Sum.inr (Sum.inr (Sum.inr (Sum.inr (Sum.inr (Sum.inl p))))))))))))))))))))) => RN ((L, xs) : Px) 13 kL_law 886 [] [] (S p) r | Sum.inr (Sum.inr (Sum.inr (Sum.inr (Sum.inr (Sum.inr (Sum.inr (Sum.inr (Sum.inr (Sum.inr (Sum.inr (Sum.inr (Sum.inr (Sum.inr (Sum.inr (Sum.inr (Sum.inr (Sum.inr (Sum.inr (Sum.inr (Sum.inr (Sum.inr (Sum.inl p)))))))))))))))))))))) => RN ((L, xs) : Px) 13 kL_law 939 [] [] (S p) r | Sum.inr (Sum.inr (Sum.inr (Sum.inr (Sum.inr (Sum.inr (Sum.inr (Sum.inr (Sum.inr (Sum.inr (Sum.inr (Sum.inr (Sum.inr (Sum.inr (Sum.inr (Sum.inr (Sum.inr (Sum.inr (Sum.inr (Sum.inr (Sum.inr (Sum.inr (Sum.inr (Sum.inl p))))))))))))))))))))))) => RN ((L, xs) : Px) 13 kL_law 972 [] [] (S p) r | Sum.inr (Sum.inr (Sum.inr (Sum.inr (Sum.inr (Sum.inr (Sum.inr (Sum.inr (Sum.inr (Sum.inr (Sum.inr (Sum.inr (Sum.inr (Sum.inr (Sum.inr (Sum.inr (Sum.inr (Sum.inr (Sum.inr (Sum.inr (Sum.inr (Sum.inr (Sum.inr (Sum.inr (Sum.inl p)))))))))))))))))))))))) => RN ((L, xs) : Px) 13 kL_law 995 [] [] (S p) r | Sum.inr (Sum.inr (Sum.inr (Sum.inr (Sum.inr (Sum.inr (Sum.inr (Sum.inr (Sum.inr (Sum.inr (Sum.inr (Sum.inr (Sum.inr (Sum.inr (Sum.inr (Sum.inr (Sum.inr (Sum.inr (Sum.inr (Sum.inr (Sum.inr (Sum.inr (Sum.inr (Sum.inr (Sum.inr (Sum.inl p))))))))))))))))))))))))) => RN ((L, xs) : Px) 13 kL_law 1018 [] [] (S p) r | Sum.inr (Sum.inr (Sum.inr (Sum.inr (Sum.inr (Sum.inr (Sum.inr (Sum.inr (Sum.inr (Sum.inr (Sum.inr (Sum.inr (Sum.inr (Sum.inr (Sum.inr (Sum.inr (Sum.inr (Sum.inr (Sum.inr (Sum.inr (Sum.inr (Sum.inr (Sum.inr (Sum.inr (Sum.inr (Sum.inr (Sum.inl p)))))))))))))))))))))))))) => RN ((L, xs) : Px) 13 kL_law 1051 [] [] (S p) r | Sum.inr (Sum.inr (Sum.inr (Sum.inr (Sum.inr (Sum.inr (Sum.inr (Sum.inr (Sum.inr (Sum.inr (Sum.inr (Sum.inr (Sum.inr (Sum.inr (Sum.inr (Sum.inr (Sum.inr (Sum.inr (Sum.inr (Sum.inr (Sum.inr (Sum.inr (Sum.inr (Sum.inr (Sum.inr (Sum.inr (Sum.inr (Sum.inl p))))))))))))))))))))))))))) => RN ((L, xs) : Px) 13 kL_law 1084 [] [] (S p) r | Sum.inr (Sum.inr (Sum.inr (Sum.inr (Sum.inr (Sum.inr (Sum.inr (Sum.inr (Sum.inr (Sum.inr (Sum.inr (Sum.inr (Sum.inr (Sum.inr (Sum.inr (Sum.inr (Sum.inr (Sum.inr (Sum.inr (Sum.inr (Sum.inr (Sum.inr (Sum.inr (Sum.inr (Sum.inr (Sum.inr (Sum.inr (Sum.inr (Sum.inl p)))))))))))))))))))))))))))) => RN ((L, xs) : Px) 13 kL_law 1107 [] [] (S p) r | Sum.inr (Sum.inr (Sum.inr (Sum.inr (Sum.inr (Sum.inr (Sum.inr (Sum.inr (Sum.inr (Sum.inr (Sum.inr (Sum.inr (Sum.inr (Sum.inr (Sum.inr (Sum.inr (Sum.inr (Sum.inr (Sum.inr (Sum.inr (Sum.inr (Sum.inr (Sum.inr (Sum.inr (Sum.inr (Sum.inr (Sum.inr (Sum.inr (Sum.inr (Sum.inl p))))))))))))))))))))))))))))) => RN ((L, xs) : Px) 13 kL_law 1140 [] [] (S p) r | Sum.inr (Sum.inr (Sum.inr (Sum.inr (Sum.inr (Sum.inr (Sum.inr (Sum.inr (Sum.inr (Sum.inr (Sum.inr (Sum.inr (Sum.inr (Sum.inr (Sum.inr (Sum.inr (Sum.inr (Sum.inr (Sum.inr (Sum.inr (Sum.inr (Sum.inr (Sum.inr (Sum.inr (Sum.inr (Sum.inr (Sum.inr (Sum.inr (Sum.inr (Sum.inr (Sum.inl p)))))))))))))))))))))))))))))) => RN ((L, xs) : Px) 13 kL_law 1163 [] [] (S p) r | Sum.inr (Sum.inr (Sum.inr (Sum.inr (Sum.inr (Sum.inr (Sum.inr (Sum.inr (Sum.inr (Sum.inr (Sum.inr (Sum.inr (Sum.inr (Sum.inr (Sum.inr (Sum.inr (Sum.inr (Sum.inr (Sum.inr (Sum.inr (Sum.inr (Sum.inr (Sum.inr (Sum.inr (Sum.inr (Sum.inr (Sum.inr (Sum.inr (Sum.inr (Sum.inr (Sum.inr (Sum.inl p))))))))))))))))))))))))))))))) => RN ((L, xs) : Px) 13 kL_law 1186 [] [] (S p) r | Sum.inr (Sum.inr (Sum.inr (Sum.inr (Sum.inr (Sum.inr (Sum.inr (Sum.inr (Sum.inr (Sum.inr (Sum.inr (Sum.inr (Sum.inr (Sum.inr (Sum.inr (Sum.inr (Sum.inr (Sum.inr (Sum.inr (Sum.inr (Sum.inr (Sum.inr (Sum.inr (Sum.inr (Sum.inr (Sum.inr (Sum.inr (Sum.inr (Sum.inr (Sum.inr (Sum.inr (Sum.inr (Sum.inl p)))))))))))))))))))))))))))))))) => RN ((L, xs) : Px) 13 kL_law 1209 [] [] (S p) r | Sum.inr (Sum.inr (Sum.inr (Sum.inr (Sum.inr (Sum.inr (Sum.inr (Sum.inr (Sum.inr (Sum.inr (Sum.inr (Sum.inr (Sum.inr (Sum.inr (Sum.inr (Sum.inr (Sum.inr (Sum.inr (Sum.inr (Sum.inr (Sum.inr (Sum.inr (Sum.inr (Sum.inr (Sum.inr (Sum.inr (Sum.inr (Sum.inr (Sum.inr (Sum.inr (Sum.inr (Sum.inr (Sum.inr (Sum.inl p))))))))))))))))))))))))))))))))) => RN ((L, xs) : Px) 13 kL_law 1222 [] [] (S p) r | Sum.inr (Sum.inr (Sum.inr (Sum.inr (Sum.inr (Sum.inr (Sum.inr (Sum.inr (Sum.inr (Sum.inr (Sum.inr (Sum.inr (Sum.inr (Sum.inr (Sum.inr (Sum.inr (Sum.inr (Sum.inr (Sum.inr (Sum.inr (Sum.inr (Sum.inr (Sum.inr (Sum.inr (Sum.inr (Sum.inr (Sum.inr (Sum.inr (Sum.inr (Sum.inr (Sum.inr (Sum.inr (Sum.inr (Sum.inr (Sum.inl p)))))))))))))))))))))))))))))))))) => RN ((L, xs) : Px) 13 kL_law 1261 [] [] (S p) r | Sum.inr (Sum.inr (Sum.inr (Sum.inr (Sum.inr (Sum.inr (Sum.inr (Sum.inr (Sum.inr (Sum.inr (Sum.inr (Sum.inr (Sum.inr (Sum.inr (Sum.inr (Sum.inr (Sum.inr (Sum.inr (Sum.inr (Sum.inr (Sum.inr (Sum.inr (Sum.inr (Sum.inr (Sum.inr (Sum.inr (Sum.inr (Sum.inr (Sum.inr (Sum.inr (Sum.inr (Sum.inr (Sum.inr (Sum.inr (Sum.inr (Sum.inl p))))))))))))))))))))))))))))))))))) => RN ((L, xs) : Px) 13 kL_law 1284 [] [] (S p) r | Sum.inr (Sum.inr (Sum.inr (Sum.inr (Sum.inr (Sum.inr (Sum.inr (Sum.inr (Sum.inr (Sum.inr (Sum.inr (Sum.inr (Sum.inr (Sum.inr (Sum.inr (Sum.inr (Sum.inr (Sum.inr (Sum.inr (Sum.inr (Sum.inr (Sum.inr (Sum.inr (Sum.inr (Sum.inr (Sum.inr (Sum.inr (Sum.inr (Sum.inr (Sum.inr (Sum.inr (Sum.inr (Sum.inr (Sum.inr (Sum.inr (Sum.inr p))))))))))))))))))))))))))))))))))) => RN ((L, xs) : Px) 13 kL_law 1292 [] [] (S p) r) ?_ _ _ _ hl18 ?_
  · intro s qx h hc
    obtain ⟨x3, M⟩ := s
    replace h : fZ_law_b18 L xs x3 M = some qx := h
    show RN ((L, xs) : Px) 13 kL_law 18 [(0, .ref 1002), (1, .ref 0), (2, .ref 217), (3, .int x3)] [] (S M) r
    unfold fZ_law_b18 at h
    refine sb_in [(18, .iload_n 3, 1), (19, .aload_n 0, 1), (20, .arraylength, 1), (21, .bipush 6, 2), (23, .isub, 1), (24, .if_icmp .gt 1268, 3)] 27 (by decide +kernel) ?_
    refine sb_iload_n rfl ?_
    refine sb_aload_n rfl ?_
    refine sb_ialc 2 (by decide) ?_
    refine sb_bipush cB6 ?_
    refine sb_isub ?_
    rcases ife h with ⟨cz297, h⟩ | ⟨cz297, h⟩
    · refine sb_icmp_gt_t 1292 cz297 (by decide) ?_
      cases h
      exact rn_sub [] rfl hc
    · refine sb_icmp_gt_f 1292 cz297 (by decide) ?_
      refine sb_in [(27, .aload_n 0, 1), (28, .iload_n 3, 1), (29, .iaload, 1), (30, .bipush 63, 2), (32, .iand, 1), (33, .tableswitch 1253 0 35 #[159, 182, 225, 268, 311, 334, 357, 380, 443, 466, 489, 512, 545, 578, 601, 634, 667, 700, 723, 756, 789, 832, 855, 908, 941, 964, 987, 1020, 1053, 1076, 1109, 1132, 1155, 1178, 1191, 1230], 159)] 192 (by decide +kernel) ?_
      refine sb_aload_n rfl ?_
      refine sb_iload_n rfl ?_
      obtain ⟨hgz1, h⟩ := gd h
      refine sb_icld 2 (by decide) hgz1 ?_
      refine sb_bipush cB63 ?_
      refine sb_iand ?_
      have hJ1286 : ∀ (z3 : Int32) (M : Mm), fZ_law_j1286 L xs z3 M = some qx → RN ((L, xs) : Px) 13 kL_law 1286 [(0, .ref 1002), (1, .ref 0), (2, .ref 217), (3, .int z3)] [] (S M) r := by
        intro z3 M h
        unfold fZ_law_j1286 at h
        refine sb_in [(1286, .iinc 3 6, 3), (1289, .goto (-1271), 3)] 1292 (by decide +kernel) ?_
        refine ss_iinc cI6 rfl (by decide) rfl ?_
        refine sb_goto 18 (by decide) ?_
        cases h
        exact rn_sub [0, 1, 2, 3] rfl hc
      rcases ife h with ⟨cz298, h⟩ | ⟨cz298, h⟩
      · refine sb_tsw_in (off := 159) 0 192 cz298 (by decide +kernel) ?_
        refine sb_in [(192, .aload_n 1, 1), (193, .aload_n 0, 1), (194, .iload_n 3, 1), (195, .iconst 1, 1), (196, .iadd, 1), (197, .iaload, 1), (198, .invokevirtual 13, 3), (201, .aload_n 2, 1), (202, .aload_n 0, 1), (203, .iload_n 3, 1), (204, .iconst 1, 1), (205, .iadd, 1), (206, .iaload, 1), (207, .invokevirtual 17, 3), (210, .if_icmp .eq 1076, 3)] 213 (by decide +kernel) ?_
        refine sb_aload_n rfl ?_
        refine sb_aload_n rfl ?_
        refine sb_iload_n rfl ?_
        refine sb_iconst cI1 ?_
        refine sb_iadd ?_
        obtain ⟨hgz2, h⟩ := gd h
        refine sb_icld 2 (by decide) hgz2 ?_
        refine sb_callVi 1 rfl oX11_state ln13_13 vX11_state (rc_own h0.1 (S_lt h0.2) (by decide)) (rnCk_of (by decide +kernel) rfl) (tfK_state) ?_
        refine sb_aload_n rfl ?_
        refine sb_aload_n rfl ?_
        refine sb_iload_n rfl ?_
        refine sb_iconst cI1 ?_
        refine sb_iadd ?_
        obtain ⟨hgz4, h⟩ := gd h
        refine sb_icld 2 (by decide) hgz4 ?_
        refine sb_callVi 1 rfl oX12_state ln13_17 vX12_state (rc_own h217.1 (S_lt h217.2) (by decide)) (rnCk_of (by decide +kernel) rfl) (tfM_state) ?_
        rcases ife h with ⟨cz299, h⟩ | ⟨cz299, h⟩
        · refine sb_icmp_eq_t 1286 cz299 (by decide) ?_
          exact rn_sub [0, 1, 2, 3] rfl (hJ1286 _ _ h)
        · refine sb_icmp_eq_f 1286 cz299 (by decide) ?_
          cases h
          exact rn_sub [] rfl hc
      rcases ife h with ⟨cz300, h⟩ | ⟨cz300, h⟩
      · refine sb_tsw_in (off := 182) 1 215 cz300 (by decide +kernel) ?_
        refine sb_in [(215, .aload_n 1, 1), (216, .aload_n 0, 1), (217, .iload_n 3, 1), (218, .iconst 1, 1), (219, .iadd, 1), (220, .iaload, 1), (221, .aload_n 0, 1), (222, .iload_n 3, 1), (223, .iconst 2, 1), (224, .iadd, 1), (225, .iaload, 1), (226, .aload_n 0, 1), (227, .iload_n 3, 1), (228, .iconst 3, 1), (229, .iadd, 1), (230, .iaload, 1), (231, .invokevirtual 18, 3), (234, .aload_n 2, 1), (235, .aload_n 0, 1), (236, .iload_n 3, 1), (237, .iconst 1, 1), (238, .iadd, 1), (239, .iaload, 1), (240, .aload_n 0, 1), (241, .iload_n 3, 1), (242, .iconst 2, 1), (243, .iadd, 1), (244, .iaload, 1), (245, .aload_n 0, 1), (246, .iload_n 3, 1), (247, .iconst 3, 1), (248, .iadd, 1), (249, .iaload, 1), (250, .invokevirtual 22, 3), (253, .if_icmp .eq 1033, 3)] 256 (by decide +kernel) ?_
        refine sb_aload_n rfl ?_
        refine sb_aload_n rfl ?_
        refine sb_iload_n rfl ?_
        refine sb_iconst cI1 ?_
        refine sb_iadd ?_
        obtain ⟨hgz6, h⟩ := gd h
        refine sb_icld 2 (by decide) hgz6 ?_
        refine sb_aload_n rfl ?_
        refine sb_iload_n rfl ?_
        refine sb_iconst cI2 ?_
        refine sb_iadd ?_
        obtain ⟨hgz7, h⟩ := gd h
        refine sb_icld 2 (by decide) hgz7 ?_
        refine sb_aload_n rfl ?_
        refine sb_iload_n rfl ?_
        refine sb_iconst cI3 ?_
        refine sb_iadd ?_
        obtain ⟨hgz8, h⟩ := gd h
        refine sb_icld 2 (by decide) hgz8 ?_
        obtain ⟨qz10, hez9, h⟩ := bd h
        refine sb_callVi 3 rfl oX11_door ln13_18 vX11_door (rc_own h0.1 (S_lt h0.2) (by decide)) (rnCk_of (by decide +kernel) rfl) (tfK_door hez9) ?_
        refine sb_aload_n rfl ?_
        refine sb_aload_n rfl ?_
        refine sb_iload_n rfl ?_
        refine sb_iconst cI1 ?_
        refine sb_iadd ?_
        obtain ⟨hgz11, h⟩ := gd h
        refine sb_icld 2 (by decide) hgz11 ?_
        refine sb_aload_n rfl ?_
        refine sb_iload_n rfl ?_
        refine sb_iconst cI2 ?_
        refine sb_iadd ?_
        obtain ⟨hgz12, h⟩ := gd h
        refine sb_icld 2 (by decide) hgz12 ?_
        refine sb_aload_n rfl ?_
        refine sb_iload_n rfl ?_
        refine sb_iconst cI3 ?_
        refine sb_iadd ?_
        obtain ⟨hgz13, h⟩ := gd h
        refine sb_icld 2 (by decide) hgz13 ?_
        obtain ⟨qz15, hez14, h⟩ := bd h
        refine sb_callVi 3 rfl oX12_door ln13_22 vX12_door (rc_own h217.1 (S_lt h217.2) (by decide)) (rnCk_of (by decide +kernel) rfl) (tfM_door hez14) ?_
        rcases ife h with ⟨cz301, h⟩ | ⟨cz301, h⟩
        · refine sb_icmp_eq_t 1286 cz301 (by decide) ?_
          exact rn_sub [0, 1, 2, 3] rfl (hJ1286 _ _ h)
        · refine sb_icmp_eq_f 1286 cz301 (by decide) ?_
          cases h
          exact rn_sub [] rfl hc
      rcases ife h with ⟨cz302, h⟩ | ⟨cz302, h⟩
      · refine sb_tsw_in (off := 225) 2 258 cz302 (by decide +kernel) ?_
        refine sb_in [(258, .aload_n 1, 1), (259, .aload_n 0, 1), (260, .iload_n 3, 1), (261, .iconst 1, 1), (262, .iadd, 1), (263, .iaload, 1), (264, .aload_n 0, 1), (265, .iload_n 3, 1), (266, .iconst 2, 1), (267, .iadd, 1), (268, .iaload, 1), (269, .aload_n 0, 1), (270, .iload_n 3, 1), (271, .iconst 3, 1), (272, .iadd, 1), (273, .iaload, 1), (274, .invokevirtual 23, 3), (277, .aload_n 2, 1), (278, .aload_n 0, 1), (279, .iload_n 3, 1), (280, .iconst 1, 1), (281, .iadd, 1), (282, .iaload, 1), (283, .aload_n 0, 1), (284, .iload_n 3, 1), (285, .iconst 2, 1), (286, .iadd, 1), (287, .iaload, 1), (288, .aload_n 0, 1), (289, .iload_n 3, 1), (290, .iconst 3, 1), (291, .iadd, 1), (292, .iaload, 1), (293, .invokevirtual 27, 3), (296, .if_icmp .eq 990, 3)] 299 (by decide +kernel) ?_
        refine sb_aload_n rfl ?_
        refine sb_aload_n rfl ?_
        refine sb_iload_n rfl ?_
        refine sb_iconst cI1 ?_
        refine sb_iadd ?_
        obtain ⟨hgz16, h⟩ := gd h
        refine sb_icld 2 (by decide) hgz16 ?_
        refine sb_aload_n rfl ?_
        refine sb_iload_n rfl ?_
        refine sb_iconst cI2 ?_
        refine sb_iadd ?_
        obtain ⟨hgz17, h⟩ := gd h
        refine sb_icld 2 (by decide) hgz17 ?_
        refine sb_aload_n rfl ?_
        refine sb_iload_n rfl ?_
        refine sb_iconst cI3 ?_
        refine sb_iadd ?_
        obtain ⟨hgz18, h⟩ := gd h
        refine sb_icld 2 (by decide) hgz18 ?_
        obtain ⟨qz20, hez19, h⟩ := bd h
        refine sb_callVi 3 rfl oX11_set ln13_23 vX11_set (rc_own h0.1 (S_lt h0.2) (by decide)) (rnCk_of (by decide +kernel) rfl) (tfK_set hez19) ?_
        refine sb_aload_n rfl ?_
        refine sb_aload_n rfl ?_
        refine sb_iload_n rfl ?_
        refine sb_iconst cI1 ?_
        refine sb_iadd ?_
        obtain ⟨hgz21, h⟩ := gd h
        refine sb_icld 2 (by decide) hgz21 ?_
        refine sb_aload_n rfl ?_
        refine sb_iload_n rfl ?_
        refine sb_iconst cI2 ?_
        refine sb_iadd ?_
        obtain ⟨hgz22, h⟩ := gd h
        refine sb_icld 2 (by decide) hgz22 ?_
        refine sb_aload_n rfl ?_
        refine sb_iload_n rfl ?_
        refine sb_iconst cI3 ?_
        refine sb_iadd ?_
        obtain ⟨hgz23, h⟩ := gd h
        refine sb_icld 2 (by decide) hgz23 ?_
        obtain ⟨qz25, hez24, h⟩ := bd h
        refine sb_callVi 3 rfl oX12_set ln13_27 vX12_set (rc_own h217.1 (S_lt h217.2) (by decide)) (rnCk_of (by decide +kernel) rfl) (tfM_set hez24) ?_
        rcases ife h with ⟨cz303, h⟩ | ⟨cz303, h⟩
        · refine sb_icmp_eq_t 1286 cz303 (by decide) ?_
          exact rn_sub [0, 1, 2, 3] rfl (hJ1286 _ _ h)
        · refine sb_icmp_eq_f 1286 cz303 (by decide) ?_
          cases h
          exact rn_sub [] rfl hc
      rcases ife h with ⟨cz304, h⟩ | ⟨cz304, h⟩
      · refine sb_tsw_in (off := 268) 3 301 cz304 (by decide +kernel) ?_
        refine sb_in [(301, .aload_n 1, 1), (302, .aload_n 0, 1), (303, .iload_n 3, 1), (304, .iconst 1, 1), (305, .iadd, 1), (306, .iaload, 1), (307, .aload_n 0, 1), (308, .iload_n 3, 1), (309, .iconst 2, 1), (310, .iadd, 1), (311, .iaload, 1), (312, .aload_n 0, 1), (313, .iload_n 3, 1), (314, .iconst 3, 1), (315, .iadd, 1), (316, .iaload, 1), (317, .invokevirtual 28, 3), (320, .aload_n 2, 1), (321, .aload_n 0, 1), (322, .iload_n 3, 1), (323, .iconst 1, 1), (324, .iadd, 1), (325, .iaload, 1), (326, .aload_n 0, 1), (327, .iload_n 3, 1), (328, .iconst 2, 1), (329, .iadd, 1), (330, .iaload, 1), (331, .aload_n 0, 1), (332, .iload_n 3, 1), (333, .iconst 3, 1), (334, .iadd, 1), (335, .iaload, 1), (336, .invokevirtual 31, 3), (339, .if_icmp .eq 947, 3)] 342 (by decide +kernel) ?_
        refine sb_aload_n rfl ?_
        refine sb_aload_n rfl ?_
        refine sb_iload_n rfl ?_
        refine sb_iconst cI1 ?_
        refine sb_iadd ?_
        obtain ⟨hgz26, h⟩ := gd h
        refine sb_icld 2 (by decide) hgz26 ?_
        refine sb_aload_n rfl ?_
        refine sb_iload_n rfl ?_
        refine sb_iconst cI2 ?_
        refine sb_iadd ?_
        obtain ⟨hgz27, h⟩ := gd h
        refine sb_icld 2 (by decide) hgz27 ?_
        refine sb_aload_n rfl ?_
        refine sb_iload_n rfl ?_
        refine sb_iconst cI3 ?_
        refine sb_iadd ?_
        obtain ⟨hgz28, h⟩ := gd h
        refine sb_icld 2 (by decide) hgz28 ?_
        obtain ⟨qz30, hez29, h⟩ := bd h
        refine sb_callVi 3 rfl oX11_post ln13_28 vX11_post (rc_own h0.1 (S_lt h0.2) (by decide)) (rnCk_of (by decide +kernel) rfl) (tfK_post hez29) ?_
        refine sb_aload_n rfl ?_
        refine sb_aload_n rfl ?_
        refine sb_iload_n rfl ?_
        refine sb_iconst cI1 ?_
        refine sb_iadd ?_
        obtain ⟨hgz31, h⟩ := gd h
        refine sb_icld 2 (by decide) hgz31 ?_
        refine sb_aload_n rfl ?_
        refine sb_iload_n rfl ?_
        refine sb_iconst cI2 ?_
        refine sb_iadd ?_
        obtain ⟨hgz32, h⟩ := gd h
        refine sb_icld 2 (by decide) hgz32 ?_
        refine sb_aload_n rfl ?_
        refine sb_iload_n rfl ?_
        refine sb_iconst cI3 ?_
        refine sb_iadd ?_
        obtain ⟨hgz33, h⟩ := gd h
        refine sb_icld 2 (by decide) hgz33 ?_
        obtain ⟨qz35, hez34, h⟩ := bd h
        refine sb_callVi 3 rfl oX12_post ln13_31 vX12_post (rc_own h217.1 (S_lt h217.2) (by decide)) (rnCk_of (by decide +kernel) rfl) (tfM_post hez34) ?_
        rcases ife h with ⟨cz305, h⟩ | ⟨cz305, h⟩
        · refine sb_icmp_eq_t 1286 cz305 (by decide) ?_
          exact rn_sub [0, 1, 2, 3] rfl (hJ1286 _ _ h)
        · refine sb_icmp_eq_f 1286 cz305 (by decide) ?_
          cases h
          exact rn_sub [] rfl hc
      rcases ife h with ⟨cz306, h⟩ | ⟨cz306, h⟩
      · refine sb_tsw_in (off := 311) 4 344 cz306 (by decide +kernel) ?_
        refine sb_in [(344, .aload_n 1, 1), (345, .aload_n 0, 1), (346, .iload_n 3, 1), (347, .iconst 1, 1), (348, .iadd, 1), (349, .iaload, 1), (350, .invokevirtual 32, 3), (353, .aload_n 2, 1), (354, .aload_n 0, 1), (355, .iload_n 3, 1), (356, .iconst 1, 1), (357, .iadd, 1), (358, .iaload, 1), (359, .invokevirtual 35, 3), (362, .if_icmp .eq 924, 3)] 365 (by decide +kernel) ?_
        refine sb_aload_n rfl ?_
        refine sb_aload_n rfl ?_
        refine sb_iload_n rfl ?_
        refine sb_iconst cI1 ?_
        refine sb_iadd ?_
        obtain ⟨hgz36, h⟩ := gd h
        refine sb_icld 2 (by decide) hgz36 ?_
        obtain ⟨qz38, hez37, h⟩ := bd h
        refine sb_callVi 1 rfl oX11_bring ln13_32 vX11_bring (rc_own h0.1 (S_lt h0.2) (by decide)) (rnCk_of (by decide +kernel) rfl) (tfK_bring hez37) ?_
        refine sb_aload_n rfl ?_
        refine sb_aload_n rfl ?_
        refine sb_iload_n rfl ?_
        refine sb_iconst cI1 ?_
        refine sb_iadd ?_
        obtain ⟨hgz39, h⟩ := gd h
        refine sb_icld 2 (by decide) hgz39 ?_
        obtain ⟨qz41, hez40, h⟩ := bd h
        refine sb_callVi 1 rfl oX12_bring ln13_35 vX12_bring (rc_own h217.1 (S_lt h217.2) (by decide)) (rnCk_of (by decide +kernel) rfl) (tfM_bring hez40) ?_
        rcases ife h with ⟨cz307, h⟩ | ⟨cz307, h⟩
        · refine sb_icmp_eq_t 1286 cz307 (by decide) ?_
          exact rn_sub [0, 1, 2, 3] rfl (hJ1286 _ _ h)
        · refine sb_icmp_eq_f 1286 cz307 (by decide) ?_
          cases h
          exact rn_sub [] rfl hc
      rcases ife h with ⟨cz308, h⟩ | ⟨cz308, h⟩
      · refine sb_tsw_in (off := 334) 5 367 cz308 (by decide +kernel) ?_
        refine sb_in [(367, .aload_n 1, 1), (368, .aload_n 0, 1), (369, .iload_n 3, 1), (370, .iconst 1, 1), (371, .iadd, 1), (372, .iaload, 1), (373, .invokevirtual 36, 3), (376, .aload_n 2, 1), (377, .aload_n 0, 1), (378, .iload_n 3, 1), (379, .iconst 1, 1), (380, .iadd, 1), (381, .iaload, 1), (382, .invokevirtual 40, 3), (385, .if_icmp .eq 901, 3)] 388 (by decide +kernel) ?_
        refine sb_aload_n rfl ?_
        refine sb_aload_n rfl ?_
        refine sb_iload_n rfl ?_
        refine sb_iconst cI1 ?_
        refine sb_iadd ?_
        obtain ⟨hgz42, h⟩ := gd h
        refine sb_icld 2 (by decide) hgz42 ?_
        obtain ⟨qz44, hez43, h⟩ := bd h
        refine sb_callVi 1 rfl oX11_rain ln13_36 vX11_rain (rc_own h0.1 (S_lt h0.2) (by decide)) (rnCk_of (by decide +kernel) rfl) (tfK_rain hez43) ?_
        refine sb_aload_n rfl ?_
        refine sb_aload_n rfl ?_
        refine sb_iload_n rfl ?_
        refine sb_iconst cI1 ?_
        refine sb_iadd ?_
        obtain ⟨hgz45, h⟩ := gd h
        refine sb_icld 2 (by decide) hgz45 ?_
        obtain ⟨qz47, hez46, h⟩ := bd h
        refine sb_callVi 1 rfl oX12_rain ln13_40 vX12_rain (rc_own h217.1 (S_lt h217.2) (by decide)) (rnCk_of (by decide +kernel) rfl) (tfM_rain hez46) ?_
        rcases ife h with ⟨cz309, h⟩ | ⟨cz309, h⟩
        · refine sb_icmp_eq_t 1286 cz309 (by decide) ?_
          exact rn_sub [0, 1, 2, 3] rfl (hJ1286 _ _ h)
        · refine sb_icmp_eq_f 1286 cz309 (by decide) ?_
          cases h
          exact rn_sub [] rfl hc
      rcases ife h with ⟨cz310, h⟩ | ⟨cz310, h⟩
      · refine sb_tsw_in (off := 357) 6 390 cz310 (by decide +kernel) ?_
        refine sb_in [(390, .aload_n 1, 1), (391, .aload_n 0, 1), (392, .iload_n 3, 1), (393, .iconst 1, 1), (394, .iadd, 1), (395, .iaload, 1), (396, .invokevirtual 41, 3), (399, .aload_n 2, 1), (400, .aload_n 0, 1), (401, .iload_n 3, 1), (402, .iconst 1, 1), (403, .iadd, 1), (404, .iaload, 1), (405, .invokevirtual 44, 3), (408, .if_icmp .eq 878, 3)] 411 (by decide +kernel) ?_
        refine sb_aload_n rfl ?_
        refine sb_aload_n rfl ?_
        refine sb_iload_n rfl ?_
        refine sb_iconst cI1 ?_
        refine sb_iadd ?_
        obtain ⟨hgz48, h⟩ := gd h
        refine sb_icld 2 (by decide) hgz48 ?_
        obtain ⟨qz50, hez49, h⟩ := bd h
        refine sb_callVi 1 rfl oX11_days ln13_41 vX11_days (rc_own h0.1 (S_lt h0.2) (by decide)) (rnCk_of (by decide +kernel) rfl) (tfK_days hez49) ?_
        refine sb_aload_n rfl ?_
        refine sb_aload_n rfl ?_
        refine sb_iload_n rfl ?_
        refine sb_iconst cI1 ?_
        refine sb_iadd ?_
        obtain ⟨hgz51, h⟩ := gd h
        refine sb_icld 2 (by decide) hgz51 ?_
        obtain ⟨qz53, hez52, h⟩ := bd h
        refine sb_callVi 1 rfl oX12_days ln13_44 vX12_days (rc_own h217.1 (S_lt h217.2) (by decide)) (rnCk_of (by decide +kernel) rfl) (tfM_days hez52) ?_
        rcases ife h with ⟨cz311, h⟩ | ⟨cz311, h⟩
        · refine sb_icmp_eq_t 1286 cz311 (by decide) ?_
          exact rn_sub [0, 1, 2, 3] rfl (hJ1286 _ _ h)
        · refine sb_icmp_eq_f 1286 cz311 (by decide) ?_
          cases h
          exact rn_sub [] rfl hc
      rcases ife h with ⟨cz312, h⟩ | ⟨cz312, h⟩
      · refine sb_tsw_in (off := 380) 7 413 cz312 (by decide +kernel) ?_
        refine sb_in [(413, .aload_n 1, 1), (414, .aload_n 0, 1), (415, .iload_n 3, 1), (416, .iconst 1, 1), (417, .iadd, 1), (418, .iaload, 1), (419, .aload_n 0, 1), (420, .iload_n 3, 1), (421, .iconst 2, 1), (422, .iadd, 1), (423, .iaload, 1), (424, .aload_n 0, 1), (425, .iload_n 3, 1), (426, .iconst 3, 1), (427, .iadd, 1), (428, .iaload, 1), (429, .aload_n 0, 1), (430, .iload_n 3, 1), (431, .iconst 4, 1), (432, .iadd, 1), (433, .iaload, 1), (434, .aload_n 0, 1), (435, .iload_n 3, 1), (436, .iconst 5, 1), (437, .iadd, 1), (438, .iaload, 1), (439, .invokevirtual 45, 3), (442, .aload_n 2, 1), (443, .aload_n 0, 1), (444, .iload_n 3, 1), (445, .iconst 1, 1), (446, .iadd, 1), (447, .iaload, 1), (448, .aload_n 0, 1), (449, .iload_n 3, 1), (450, .iconst 2, 1), (451, .iadd, 1), (452, .iaload, 1), (453, .aload_n 0, 1), (454, .iload_n 3, 1), (455, .iconst 3, 1), (456, .iadd, 1), (457, .iaload, 1), (458, .aload_n 0, 1), (459, .iload_n 3, 1), (460, .iconst 4, 1), (461, .iadd, 1), (462, .iaload, 1), (463, .aload_n 0, 1), (464, .iload_n 3, 1), (465, .iconst 5, 1), (466, .iadd, 1), (467, .iaload, 1), (468, .invokevirtual 49, 3), (471, .if_icmp .eq 815, 3)] 474 (by decide +kernel) ?_
        refine sb_aload_n rfl ?_
        refine sb_aload_n rfl ?_
        refine sb_iload_n rfl ?_
        refine sb_iconst cI1 ?_
        refine sb_iadd ?_
        obtain ⟨hgz54, h⟩ := gd h
        refine sb_icld 2 (by decide) hgz54 ?_
        refine sb_aload_n rfl ?_
        refine sb_iload_n rfl ?_
        refine sb_iconst cI2 ?_
        refine sb_iadd ?_
        obtain ⟨hgz55, h⟩ := gd h
        refine sb_icld 2 (by decide) hgz55 ?_
        refine sb_aload_n rfl ?_
        refine sb_iload_n rfl ?_
        refine sb_iconst cI3 ?_
        refine sb_iadd ?_
        obtain ⟨hgz56, h⟩ := gd h
        refine sb_icld 2 (by decide) hgz56 ?_
        refine sb_aload_n rfl ?_
        refine sb_iload_n rfl ?_
        refine sb_iconst cI4 ?_
        refine sb_iadd ?_
        obtain ⟨hgz57, h⟩ := gd h
        refine sb_icld 2 (by decide) hgz57 ?_
        refine sb_aload_n rfl ?_
        refine sb_iload_n rfl ?_
        refine sb_iconst cI5 ?_
        refine sb_iadd ?_
        obtain ⟨hgz58, h⟩ := gd h
        refine sb_icld 2 (by decide) hgz58 ?_
        obtain ⟨qz60, hez59, h⟩ := bd h
        refine sb_callVi 5 rfl oX11_feed ln13_45 vX11_feed (rc_own h0.1 (S_lt h0.2) (by decide)) (rnCk_of (by decide +kernel) rfl) (tfK_feed hez59) ?_
        refine sb_aload_n rfl ?_
        refine sb_aload_n rfl ?_
        refine sb_iload_n rfl ?_
        refine sb_iconst cI1 ?_
        refine sb_iadd ?_
        obtain ⟨hgz61, h⟩ := gd h
        refine sb_icld 2 (by decide) hgz61 ?_
        refine sb_aload_n rfl ?_
        refine sb_iload_n rfl ?_
        refine sb_iconst cI2 ?_
        refine sb_iadd ?_
        obtain ⟨hgz62, h⟩ := gd h
        refine sb_icld 2 (by decide) hgz62 ?_
        refine sb_aload_n rfl ?_
        refine sb_iload_n rfl ?_
        refine sb_iconst cI3 ?_
        refine sb_iadd ?_
        obtain ⟨hgz63, h⟩ := gd h
        refine sb_icld 2 (by decide) hgz63 ?_
        refine sb_aload_n rfl ?_
        refine sb_iload_n rfl ?_
        refine sb_iconst cI4 ?_
        refine sb_iadd ?_
        obtain ⟨hgz64, h⟩ := gd h
        refine sb_icld 2 (by decide) hgz64 ?_
        refine sb_aload_n rfl ?_
        refine sb_iload_n rfl ?_
        refine sb_iconst cI5 ?_
        refine sb_iadd ?_
        obtain ⟨hgz65, h⟩ := gd h
        refine sb_icld 2 (by decide) hgz65 ?_
        obtain ⟨qz67, hez66, h⟩ := bd h
        refine sb_callVi 5 rfl oX12_feed ln13_49 vX12_feed (rc_own h217.1 (S_lt h217.2) (by decide)) (rnCk_of (by decide +kernel) rfl) (tfM_feed hez66) ?_
        rcases ife h with ⟨cz313, h⟩ | ⟨cz313, h⟩
        · refine sb_icmp_eq_t 1286 cz313 (by decide) ?_
          exact rn_sub [0, 1, 2, 3] rfl (hJ1286 _ _ h)
        · refine sb_icmp_eq_f 1286 cz313 (by decide) ?_
          cases h
          exact rn_sub [] rfl hc
      rcases ife h with ⟨cz314, h⟩ | ⟨cz314, h⟩
      · refine sb_tsw_in (off := 443) 8 476 cz314 (by decide +kernel) ?_
        refine sb_in [(476, .aload_n 1, 1), (477, .aload_n 0, 1), (478, .iload_n 3, 1), (479, .iconst 1, 1), (480, .iadd, 1), (481, .iaload, 1), (482, .invokevirtual 50, 3), (485, .aload_n 2, 1), (486, .aload_n 0, 1), (487, .iload_n 3, 1), (488, .iconst 1, 1), (489, .iadd, 1), (490, .iaload, 1), (491, .invokevirtual 53, 3), (494, .if_icmp .eq 792, 3)] 497 (by decide +kernel) ?_
        refine sb_aload_n rfl ?_
        refine sb_aload_n rfl ?_
        refine sb_iload_n rfl ?_
        refine sb_iconst cI1 ?_
        refine sb_iadd ?_
        obtain ⟨hgz68, h⟩ := gd h
        refine sb_icld 2 (by decide) hgz68 ?_
        refine sb_callVi 1 rfl oX11_end ln13_50 vX11_end (rc_own h0.1 (S_lt h0.2) (by decide)) (rnCk_of (by decide +kernel) rfl) (tfK_end) ?_
        refine sb_aload_n rfl ?_
        refine sb_aload_n rfl ?_
        refine sb_iload_n rfl ?_
        refine sb_iconst cI1 ?_
        refine sb_iadd ?_
        obtain ⟨hgz70, h⟩ := gd h
        refine sb_icld 2 (by decide) hgz70 ?_
        refine sb_callVi 1 rfl oX12_end ln13_53 vX12_end (rc_own h217.1 (S_lt h217.2) (by decide)) (rnCk_of (by decide +kernel) rfl) (tfM_end) ?_
        rcases ife h with ⟨cz315, h⟩ | ⟨cz315, h⟩
        · refine sb_icmp_eq_t 1286 cz315 (by decide) ?_
          exact rn_sub [0, 1, 2, 3] rfl (hJ1286 _ _ h)
        · refine sb_icmp_eq_f 1286 cz315 (by decide) ?_
          cases h
          exact rn_sub [] rfl hc
      rcases ife h with ⟨cz316, h⟩ | ⟨cz316, h⟩
      · refine sb_tsw_in (off := 466) 9 499 cz316 (by decide +kernel) ?_
        refine sb_in [(499, .aload_n 1, 1), (500, .aload_n 0, 1), (501, .iload_n 3, 1), (502, .iconst 1, 1), (503, .iadd, 1), (504, .iaload, 1), (505, .invokevirtual 54, 3), (508, .aload_n 2, 1), (509, .aload_n 0, 1), (510, .iload_n 3, 1), (511, .iconst 1, 1), (512, .iadd, 1), (513, .iaload, 1), (514, .invokevirtual 57, 3), (517, .if_icmp .eq 769, 3)] 520 (by decide +kernel) ?_
        refine sb_aload_n rfl ?_
        refine sb_aload_n rfl ?_
        refine sb_iload_n rfl ?_
        refine sb_iconst cI1 ?_
        refine sb_iadd ?_
        obtain ⟨hgz72, h⟩ := gd h
        refine sb_icld 2 (by decide) hgz72 ?_
        obtain ⟨qz74, hez73, h⟩ := bd h
        refine sb_callVi 1 rfl oX11_text ln13_54 vX11_text (rc_own h0.1 (S_lt h0.2) (by decide)) (rnCk_of (by decide +kernel) rfl) (tfK_text hez73) ?_
        refine sb_aload_n rfl ?_
        refine sb_aload_n rfl ?_
        refine sb_iload_n rfl ?_
        refine sb_iconst cI1 ?_
        refine sb_iadd ?_
        obtain ⟨hgz75, h⟩ := gd h
        refine sb_icld 2 (by decide) hgz75 ?_
        obtain ⟨qz77, hez76, h⟩ := bd h
        refine sb_callVi 1 rfl oX12_text ln13_57 vX12_text (rc_own h217.1 (S_lt h217.2) (by decide)) (rnCk_of (by decide +kernel) rfl) (tfM_text hez76) ?_
        rcases ife h with ⟨cz317, h⟩ | ⟨cz317, h⟩
        · refine sb_icmp_eq_t 1286 cz317 (by decide) ?_
          exact rn_sub [0, 1, 2, 3] rfl (hJ1286 _ _ h)
        · refine sb_icmp_eq_f 1286 cz317 (by decide) ?_
          cases h
          exact rn_sub [] rfl hc
      rcases ife h with ⟨cz318, h⟩ | ⟨cz318, h⟩
      · refine sb_tsw_in (off := 489) 10 522 cz318 (by decide +kernel) ?_
        refine sb_in [(522, .aload_n 1, 1), (523, .aload_n 0, 1), (524, .iload_n 3, 1), (525, .iconst 1, 1), (526, .iadd, 1), (527, .iaload, 1), (528, .invokevirtual 58, 3), (531, .aload_n 2, 1), (532, .aload_n 0, 1), (533, .iload_n 3, 1), (534, .iconst 1, 1), (535, .iadd, 1), (536, .iaload, 1), (537, .invokevirtual 61, 3), (540, .if_icmp .eq 746, 3)] 543 (by decide +kernel) ?_
        refine sb_aload_n rfl ?_
        refine sb_aload_n rfl ?_
        refine sb_iload_n rfl ?_
        refine sb_iconst cI1 ?_
        refine sb_iadd ?_
        obtain ⟨hgz78, h⟩ := gd h
        refine sb_icld 2 (by decide) hgz78 ?_
        refine sb_callVi 1 rfl oX11_fault ln13_58 vX11_fault (rc_own h0.1 (S_lt h0.2) (by decide)) (rnCk_of (by decide +kernel) rfl) (tfK_fault) ?_
        refine sb_aload_n rfl ?_
        refine sb_aload_n rfl ?_
        refine sb_iload_n rfl ?_
        refine sb_iconst cI1 ?_
        refine sb_iadd ?_
        obtain ⟨hgz80, h⟩ := gd h
        refine sb_icld 2 (by decide) hgz80 ?_
        refine sb_callVi 1 rfl oX12_fault ln13_61 vX12_fault (rc_own h217.1 (S_lt h217.2) (by decide)) (rnCk_of (by decide +kernel) rfl) (tfM_fault) ?_
        rcases ife h with ⟨cz319, h⟩ | ⟨cz319, h⟩
        · refine sb_icmp_eq_t 1286 cz319 (by decide) ?_
          exact rn_sub [0, 1, 2, 3] rfl (hJ1286 _ _ h)
        · refine sb_icmp_eq_f 1286 cz319 (by decide) ?_
          cases h
          exact rn_sub [] rfl hc
      rcases ife h with ⟨cz320, h⟩ | ⟨cz320, h⟩
      · refine sb_tsw_in (off := 512) 11 545 cz320 (by decide +kernel) ?_
        refine sb_in [(545, .aload_n 1, 1), (546, .aload_n 0, 1), (547, .iload_n 3, 1), (548, .iconst 1, 1), (549, .iadd, 1), (550, .iaload, 1), (551, .aload_n 0, 1), (552, .iload_n 3, 1), (553, .iconst 2, 1), (554, .iadd, 1), (555, .iaload, 1), (556, .invokevirtual 62, 3), (559, .aload_n 2, 1), (560, .aload_n 0, 1), (561, .iload_n 3, 1), (562, .iconst 1, 1), (563, .iadd, 1), (564, .iaload, 1), (565, .aload_n 0, 1), (566, .iload_n 3, 1), (567, .iconst 2, 1), (568, .iadd, 1), (569, .iaload, 1), (570, .invokevirtual 66, 3), (573, .if_icmp .eq 713, 3)] 576 (by decide +kernel) ?_
        refine sb_aload_n rfl ?_
        refine sb_aload_n rfl ?_
        refine sb_iload_n rfl ?_
        refine sb_iconst cI1 ?_
        refine sb_iadd ?_
        obtain ⟨hgz82, h⟩ := gd h
        refine sb_icld 2 (by decide) hgz82 ?_
        refine sb_aload_n rfl ?_
        refine sb_iload_n rfl ?_
        refine sb_iconst cI2 ?_
        refine sb_iadd ?_
        obtain ⟨hgz83, h⟩ := gd h
        refine sb_icld 2 (by decide) hgz83 ?_
        obtain ⟨qz85, hez84, h⟩ := bd h
        refine sb_callVi 2 rfl oX11_of ln13_62 vX11_of (rc_own h0.1 (S_lt h0.2) (by decide)) (rnCk_of (by decide +kernel) rfl) (tfK_of hez84) ?_
        refine sb_aload_n rfl ?_
        refine sb_aload_n rfl ?_
        refine sb_iload_n rfl ?_
        refine sb_iconst cI1 ?_
        refine sb_iadd ?_
        obtain ⟨hgz86, h⟩ := gd h
        refine sb_icld 2 (by decide) hgz86 ?_
        refine sb_aload_n rfl ?_
        refine sb_iload_n rfl ?_
        refine sb_iconst cI2 ?_
        refine sb_iadd ?_
        obtain ⟨hgz87, h⟩ := gd h
        refine sb_icld 2 (by decide) hgz87 ?_
        obtain ⟨qz89, hez88, h⟩ := bd h
        refine sb_callVi 2 rfl oX12_of ln13_66 vX12_of (rc_own h217.1 (S_lt h217.2) (by decide)) (rnCk_of (by decide +kernel) rfl) (tfM_of hez88) ?_
        rcases ife h with ⟨cz321, h⟩ | ⟨cz321, h⟩
        · refine sb_icmp_eq_t 1286 cz321 (by decide) ?_
          exact rn_sub [0, 1, 2, 3] rfl (hJ1286 _ _ h)
        · refine sb_icmp_eq_f 1286 cz321 (by decide) ?_
          cases h
          exact rn_sub [] rfl hc
      rcases ife h with ⟨cz322, h⟩ | ⟨cz322, h⟩
      · refine sb_tsw_in (off := 545) 12 578 cz322 (by decide +kernel) ?_
        refine sb_in [(578, .aload_n 1, 1), (579, .aload_n 0, 1), (580, .iload_n 3, 1), (581, .iconst 1, 1), (582, .iadd, 1), (583, .iaload, 1), (584, .aload_n 0, 1), (585, .iload_n 3, 1), (586, .iconst 2, 1), (587, .iadd, 1), (588, .iaload, 1), (589, .invokevirtual 67, 3), (592, .aload_n 2, 1), (593, .aload_n 0, 1), (594, .iload_n 3, 1), (595, .iconst 1, 1), (596, .iadd, 1), (597, .iaload, 1), (598, .aload_n 0, 1), (599, .iload_n 3, 1), (600, .iconst 2, 1), (601, .iadd, 1), (602, .iaload, 1), (603, .invokevirtual 70, 3), (606, .if_icmp .eq 680, 3)] 609 (by decide +kernel) ?_
        refine sb_aload_n rfl ?_
        refine sb_aload_n rfl ?_
        refine sb_iload_n rfl ?_
        refine sb_iconst cI1 ?_
        refine sb_iadd ?_
        obtain ⟨hgz90, h⟩ := gd h
        refine sb_icld 2 (by decide) hgz90 ?_
        refine sb_aload_n rfl ?_
        refine sb_iload_n rfl ?_
        refine sb_iconst cI2 ?_
        refine sb_iadd ?_
        obtain ⟨hgz91, h⟩ := gd h
        refine sb_icld 2 (by decide) hgz91 ?_
        obtain ⟨qz93, hez92, h⟩ := bd h
        refine sb_callVi 2 rfl oX11_letter ln13_67 vX11_letter (rc_own h0.1 (S_lt h0.2) (by decide)) (rnCk_of (by decide +kernel) rfl) (tfK_letter hez92) ?_
        refine sb_aload_n rfl ?_
        refine sb_aload_n rfl ?_
        refine sb_iload_n rfl ?_
        refine sb_iconst cI1 ?_
        refine sb_iadd ?_
        obtain ⟨hgz94, h⟩ := gd h
        refine sb_icld 2 (by decide) hgz94 ?_
        refine sb_aload_n rfl ?_
        refine sb_iload_n rfl ?_
        refine sb_iconst cI2 ?_
        refine sb_iadd ?_
        obtain ⟨hgz95, h⟩ := gd h
        refine sb_icld 2 (by decide) hgz95 ?_
        obtain ⟨qz97, hez96, h⟩ := bd h
        refine sb_callVi 2 rfl oX12_letter ln13_70 vX12_letter (rc_own h217.1 (S_lt h217.2) (by decide)) (rnCk_of (by decide +kernel) rfl) (tfM_letter hez96) ?_
        rcases ife h with ⟨cz323, h⟩ | ⟨cz323, h⟩
        · refine sb_icmp_eq_t 1286 cz323 (by decide) ?_
          exact rn_sub [0, 1, 2, 3] rfl (hJ1286 _ _ h)
        · refine sb_icmp_eq_f 1286 cz323 (by decide) ?_
          cases h
          exact rn_sub [] rfl hc
      rcases ife h with ⟨cz324, h⟩ | ⟨cz324, h⟩
      · refine sb_tsw_in (off := 578) 13 611 cz324 (by decide +kernel) ?_
        refine sb_in [(611, .aload_n 1, 1), (612, .aload_n 0, 1), (613, .iload_n 3, 1), (614, .iconst 1, 1), (615, .iadd, 1), (616, .iaload, 1), (617, .invokevirtual 71, 3), (620, .aload_n 2, 1), (621, .aload_n 0, 1), (622, .iload_n 3, 1), (623, .iconst 1, 1), (624, .iadd, 1), (625, .iaload, 1), (626, .invokevirtual 74, 3), (629, .if_icmp .eq 657, 3)] 632 (by decide +kernel) ?_
        refine sb_aload_n rfl ?_
        refine sb_aload_n rfl ?_
        refine sb_iload_n rfl ?_
        refine sb_iconst cI1 ?_
        refine sb_iadd ?_
        obtain ⟨hgz98, h⟩ := gd h
        refine sb_icld 2 (by decide) hgz98 ?_
        obtain ⟨qz100, hez99, h⟩ := bd h
        refine sb_callVi 1 rfl oX11_given ln13_71 vX11_given (rc_own h0.1 (S_lt h0.2) (by decide)) (rnCk_of (by decide +kernel) rfl) (tfK_given hez99) ?_
        refine sb_aload_n rfl ?_
        refine sb_aload_n rfl ?_
        refine sb_iload_n rfl ?_
        refine sb_iconst cI1 ?_
        refine sb_iadd ?_
        obtain ⟨hgz101, h⟩ := gd h
        refine sb_icld 2 (by decide) hgz101 ?_
        obtain ⟨qz103, hez102, h⟩ := bd h
        refine sb_callVi 1 rfl oX12_given ln13_74 vX12_given (rc_own h217.1 (S_lt h217.2) (by decide)) (rnCk_of (by decide +kernel) rfl) (tfM_given hez102) ?_
        rcases ife h with ⟨cz325, h⟩ | ⟨cz325, h⟩
        · refine sb_icmp_eq_t 1286 cz325 (by decide) ?_
          exact rn_sub [0, 1, 2, 3] rfl (hJ1286 _ _ h)
        · refine sb_icmp_eq_f 1286 cz325 (by decide) ?_
          cases h
          exact rn_sub [] rfl hc
      rcases ife h with ⟨cz326, h⟩ | ⟨cz326, h⟩
      · refine sb_tsw_in (off := 601) 14 634 cz326 (by decide +kernel) ?_
        refine sb_in [(634, .aload_n 1, 1), (635, .aload_n 0, 1), (636, .iload_n 3, 1), (637, .iconst 1, 1), (638, .iadd, 1), (639, .iaload, 1), (640, .aload_n 0, 1), (641, .iload_n 3, 1), (642, .iconst 2, 1), (643, .iadd, 1), (644, .iaload, 1), (645, .invokevirtual 75, 3), (648, .aload_n 2, 1), (649, .aload_n 0, 1), (650, .iload_n 3, 1), (651, .iconst 1, 1), (652, .iadd, 1), (653, .iaload, 1), (654, .aload_n 0, 1), (655, .iload_n 3, 1), (656, .iconst 2, 1), (657, .iadd, 1), (658, .iaload, 1), (659, .invokevirtual 78, 3), (662, .if_icmp .eq 624, 3)] 665 (by decide +kernel) ?_
        refine sb_aload_n rfl ?_
        refine sb_aload_n rfl ?_
        refine sb_iload_n rfl ?_
        refine sb_iconst cI1 ?_
        refine sb_iadd ?_
        obtain ⟨hgz104, h⟩ := gd h
        refine sb_icld 2 (by decide) hgz104 ?_
        refine sb_aload_n rfl ?_
        refine sb_iload_n rfl ?_
        refine sb_iconst cI2 ?_
        refine sb_iadd ?_
        obtain ⟨hgz105, h⟩ := gd h
        refine sb_icld 2 (by decide) hgz105 ?_
        obtain ⟨qz107, hez106, h⟩ := bd h
        refine sb_callVi 2 rfl oX11_book ln13_75 vX11_book (rc_own h0.1 (S_lt h0.2) (by decide)) (rnCk_of (by decide +kernel) rfl) (tfK_book hez106) ?_
        refine sb_aload_n rfl ?_
        refine sb_aload_n rfl ?_
        refine sb_iload_n rfl ?_
        refine sb_iconst cI1 ?_
        refine sb_iadd ?_
        obtain ⟨hgz108, h⟩ := gd h
        refine sb_icld 2 (by decide) hgz108 ?_
        refine sb_aload_n rfl ?_
        refine sb_iload_n rfl ?_
        refine sb_iconst cI2 ?_
        refine sb_iadd ?_
        obtain ⟨hgz109, h⟩ := gd h
        refine sb_icld 2 (by decide) hgz109 ?_
        obtain ⟨qz111, hez110, h⟩ := bd h
        refine sb_callVi 2 rfl oX12_book ln13_78 vX12_book (rc_own h217.1 (S_lt h217.2) (by decide)) (rnCk_of (by decide +kernel) rfl) (tfM_book hez110) ?_
        rcases ife h with ⟨cz327, h⟩ | ⟨cz327, h⟩
        · refine sb_icmp_eq_t 1286 cz327 (by decide) ?_
          exact rn_sub [0, 1, 2, 3] rfl (hJ1286 _ _ h)
        · refine sb_icmp_eq_f 1286 cz327 (by decide) ?_
          cases h
          exact rn_sub [] rfl hc
      rcases ife h with ⟨cz328, h⟩ | ⟨cz328, h⟩
      · refine sb_tsw_in (off := 634) 15 667 cz328 (by decide +kernel) ?_
        refine sb_in [(667, .aload_n 1, 1), (668, .aload_n 0, 1), (669, .iload_n 3, 1), (670, .iconst 1, 1), (671, .iadd, 1), (672, .iaload, 1), (673, .aload_n 0, 1), (674, .iload_n 3, 1), (675, .iconst 2, 1), (676, .iadd, 1), (677, .iaload, 1), (678, .invokevirtual 79, 3), (681, .aload_n 2, 1), (682, .aload_n 0, 1), (683, .iload_n 3, 1), (684, .iconst 1, 1), (685, .iadd, 1), (686, .iaload, 1), (687, .aload_n 0, 1), (688, .iload_n 3, 1), (689, .iconst 2, 1), (690, .iadd, 1), (691, .iaload, 1), (692, .invokevirtual 82, 3), (695, .if_icmp .eq 591, 3)] 698 (by decide +kernel) ?_
        refine sb_aload_n rfl ?_
        refine sb_aload_n rfl ?_
        refine sb_iload_n rfl ?_
        refine sb_iconst cI1 ?_
        refine sb_iadd ?_
        obtain ⟨hgz112, h⟩ := gd h
        refine sb_icld 2 (by decide) hgz112 ?_
        refine sb_aload_n rfl ?_
        refine sb_iload_n rfl ?_
        refine sb_iconst cI2 ?_
        refine sb_iadd ?_
        obtain ⟨hgz113, h⟩ := gd h
        refine sb_icld 2 (by decide) hgz113 ?_
        obtain ⟨qz115, hez114, h⟩ := bd h
        refine sb_callVi 2 rfl oX11_goes ln13_79 vX11_goes (rc_own h0.1 (S_lt h0.2) (by decide)) (rnCk_of (by decide +kernel) rfl) (tfK_goes hez114) ?_
        refine sb_aload_n rfl ?_
        refine sb_aload_n rfl ?_
        refine sb_iload_n rfl ?_
        refine sb_iconst cI1 ?_
        refine sb_iadd ?_
        obtain ⟨hgz116, h⟩ := gd h
        refine sb_icld 2 (by decide) hgz116 ?_
        refine sb_aload_n rfl ?_
        refine sb_iload_n rfl ?_
        refine sb_iconst cI2 ?_
        refine sb_iadd ?_
        obtain ⟨hgz117, h⟩ := gd h
        refine sb_icld 2 (by decide) hgz117 ?_
        obtain ⟨qz119, hez118, h⟩ := bd h
        refine sb_callVi 2 rfl oX12_goes ln13_82 vX12_goes (rc_own h217.1 (S_lt h217.2) (by decide)) (rnCk_of (by decide +kernel) rfl) (tfM_goes hez118) ?_
        rcases ife h with ⟨cz329, h⟩ | ⟨cz329, h⟩
        · refine sb_icmp_eq_t 1286 cz329 (by decide) ?_
          exact rn_sub [0, 1, 2, 3] rfl (hJ1286 _ _ h)
        · refine sb_icmp_eq_f 1286 cz329 (by decide) ?_
          cases h
          exact rn_sub [] rfl hc
      rcases ife h with ⟨cz330, h⟩ | ⟨cz330, h⟩
      · refine sb_tsw_in (off := 667) 16 700 cz330 (by decide +kernel) ?_
        refine sb_in [(700, .aload_n 1, 1), (701, .aload_n 0, 1), (702, .iload_n 3, 1), (703, .iconst 1, 1), (704, .iadd, 1), (705, .iaload, 1), (706, .aload_n 0, 1), (707, .iload_n 3, 1), (708, .iconst 2, 1), (709, .iadd, 1), (710, .iaload, 1), (711, .invokevirtual 83, 3), (714, .aload_n 2, 1), (715, .aload_n 0, 1), (716, .iload_n 3, 1), (717, .iconst 1, 1), (718, .iadd, 1), (719, .iaload, 1), (720, .aload_n 0, 1), (721, .iload_n 3, 1), (722, .iconst 2, 1), (723, .iadd, 1), (724, .iaload, 1), (725, .invokevirtual 86, 3), (728, .if_icmp .eq 558, 3)] 731 (by decide +kernel) ?_
        refine sb_aload_n rfl ?_
        refine sb_aload_n rfl ?_
        refine sb_iload_n rfl ?_
        refine sb_iconst cI1 ?_
        refine sb_iadd ?_
        obtain ⟨hgz120, h⟩ := gd h
        refine sb_icld 2 (by decide) hgz120 ?_
        refine sb_aload_n rfl ?_
        refine sb_iload_n rfl ?_
        refine sb_iconst cI2 ?_
        refine sb_iadd ?_
        obtain ⟨hgz121, h⟩ := gd h
        refine sb_icld 2 (by decide) hgz121 ?_
        obtain ⟨qz123, hez122, h⟩ := bd h
        refine sb_callVi 2 rfl oX11_shortest ln13_83 vX11_shortest (rc_own h0.1 (S_lt h0.2) (by decide)) (rnCk_of (by decide +kernel) rfl) (tfK_shortest hez122) ?_
        refine sb_aload_n rfl ?_
        refine sb_aload_n rfl ?_
        refine sb_iload_n rfl ?_
        refine sb_iconst cI1 ?_
        refine sb_iadd ?_
        obtain ⟨hgz124, h⟩ := gd h
        refine sb_icld 2 (by decide) hgz124 ?_
        refine sb_aload_n rfl ?_
        refine sb_iload_n rfl ?_
        refine sb_iconst cI2 ?_
        refine sb_iadd ?_
        obtain ⟨hgz125, h⟩ := gd h
        refine sb_icld 2 (by decide) hgz125 ?_
        obtain ⟨qz127, hez126, h⟩ := bd h
        refine sb_callVi 2 rfl oX12_shortest ln13_86 vX12_shortest (rc_own h217.1 (S_lt h217.2) (by decide)) (rnCk_of (by decide +kernel) rfl) (tfM_shortest hez126) ?_
        rcases ife h with ⟨cz331, h⟩ | ⟨cz331, h⟩
        · refine sb_icmp_eq_t 1286 cz331 (by decide) ?_
          exact rn_sub [0, 1, 2, 3] rfl (hJ1286 _ _ h)
        · refine sb_icmp_eq_f 1286 cz331 (by decide) ?_
          cases h
          exact rn_sub [] rfl hc
      rcases ife h with ⟨cz332, h⟩ | ⟨cz332, h⟩
      · refine sb_tsw_in (off := 700) 17 733 cz332 (by decide +kernel) ?_
        refine sb_in [(733, .aload_n 1, 1), (734, .aload_n 0, 1), (735, .iload_n 3, 1), (736, .iconst 1, 1), (737, .iadd, 1), (738, .iaload, 1), (739, .invokevirtual 87, 3), (742, .aload_n 2, 1), (743, .aload_n 0, 1), (744, .iload_n 3, 1), (745, .iconst 1, 1), (746, .iadd, 1), (747, .iaload, 1), (748, .invokevirtual 90, 3), (751, .if_icmp .eq 535, 3)] 754 (by decide +kernel) ?_
        refine sb_aload_n rfl ?_
        refine sb_aload_n rfl ?_
        refine sb_iload_n rfl ?_
        refine sb_iconst cI1 ?_
        refine sb_iadd ?_
        obtain ⟨hgz128, h⟩ := gd h
        refine sb_icld 2 (by decide) hgz128 ?_
        obtain ⟨qz130, hez129, h⟩ := bd h
        refine sb_callVi 1 rfl oX11_blow ln13_87 vX11_blow (rc_own h0.1 (S_lt h0.2) (by decide)) (rnCk_of (by decide +kernel) rfl) (tfK_blow hez129) ?_
        refine sb_aload_n rfl ?_
        refine sb_aload_n rfl ?_
        refine sb_iload_n rfl ?_
        refine sb_iconst cI1 ?_
        refine sb_iadd ?_
        obtain ⟨hgz131, h⟩ := gd h
        refine sb_icld 2 (by decide) hgz131 ?_
        obtain ⟨qz133, hez132, h⟩ := bd h
        refine sb_callVi 1 rfl oX12_blow ln13_90 vX12_blow (rc_own h217.1 (S_lt h217.2) (by decide)) (rnCk_of (by decide +kernel) rfl) (tfM_blow hez132) ?_
        rcases ife h with ⟨cz333, h⟩ | ⟨cz333, h⟩
        · refine sb_icmp_eq_t 1286 cz333 (by decide) ?_
          exact rn_sub [0, 1, 2, 3] rfl (hJ1286 _ _ h)
        · refine sb_icmp_eq_f 1286 cz333 (by decide) ?_
          cases h
          exact rn_sub [] rfl hc
      rcases ife h with ⟨cz334, h⟩ | ⟨cz334, h⟩
      · refine sb_tsw_in (off := 723) 18 756 cz334 (by decide +kernel) ?_
        refine sb_in [(756, .aload_n 1, 1), (757, .aload_n 0, 1), (758, .iload_n 3, 1), (759, .iconst 1, 1), (760, .iadd, 1), (761, .iaload, 1), (762, .aload_n 0, 1), (763, .iload_n 3, 1), (764, .iconst 2, 1), (765, .iadd, 1), (766, .iaload, 1), (767, .invokevirtual 91, 3), (770, .aload_n 2, 1), (771, .aload_n 0, 1), (772, .iload_n 3, 1), (773, .iconst 1, 1), (774, .iadd, 1), (775, .iaload, 1), (776, .aload_n 0, 1), (777, .iload_n 3, 1), (778, .iconst 2, 1), (779, .iadd, 1), (780, .iaload, 1), (781, .invokevirtual 94, 3), (784, .if_icmp .eq 502, 3)] 787 (by decide +kernel) ?_
        refine sb_aload_n rfl ?_
        refine sb_aload_n rfl ?_
        refine sb_iload_n rfl ?_
        refine sb_iconst cI1 ?_
        refine sb_iadd ?_
        obtain ⟨hgz134, h⟩ := gd h
        refine sb_icld 2 (by decide) hgz134 ?_
        refine sb_aload_n rfl ?_
        refine sb_iload_n rfl ?_
        refine sb_iconst cI2 ?_
        refine sb_iadd ?_
        obtain ⟨hgz135, h⟩ := gd h
        refine sb_icld 2 (by decide) hgz135 ?_
        obtain ⟨qz137, hez136, h⟩ := bd h
        refine sb_callVi 2 rfl oX11_bears ln13_91 vX11_bears (rc_own h0.1 (S_lt h0.2) (by decide)) (rnCk_of (by decide +kernel) rfl) (tfK_bears hez136) ?_
        refine sb_aload_n rfl ?_
        refine sb_aload_n rfl ?_
        refine sb_iload_n rfl ?_
        refine sb_iconst cI1 ?_
        refine sb_iadd ?_
        obtain ⟨hgz138, h⟩ := gd h
        refine sb_icld 2 (by decide) hgz138 ?_
        refine sb_aload_n rfl ?_
        refine sb_iload_n rfl ?_
        refine sb_iconst cI2 ?_
        refine sb_iadd ?_
        obtain ⟨hgz139, h⟩ := gd h
        refine sb_icld 2 (by decide) hgz139 ?_
        obtain ⟨qz141, hez140, h⟩ := bd h
        refine sb_callVi 2 rfl oX12_bears ln13_94 vX12_bears (rc_own h217.1 (S_lt h217.2) (by decide)) (rnCk_of (by decide +kernel) rfl) (tfM_bears hez140) ?_
        rcases ife h with ⟨cz335, h⟩ | ⟨cz335, h⟩
        · refine sb_icmp_eq_t 1286 cz335 (by decide) ?_
          exact rn_sub [0, 1, 2, 3] rfl (hJ1286 _ _ h)
        · refine sb_icmp_eq_f 1286 cz335 (by decide) ?_
          cases h
          exact rn_sub [] rfl hc
      rcases ife h with ⟨cz336, h⟩ | ⟨cz336, h⟩
      · refine sb_tsw_in (off := 756) 19 789 cz336 (by decide +kernel) ?_
        refine sb_in [(789, .aload_n 1, 1), (790, .aload_n 0, 1), (791, .iload_n 3, 1), (792, .iconst 1, 1), (793, .iadd, 1), (794, .iaload, 1), (795, .aload_n 0, 1), (796, .iload_n 3, 1), (797, .iconst 2, 1), (798, .iadd, 1), (799, .iaload, 1), (800, .invokevirtual 95, 3), (803, .aload_n 2, 1), (804, .aload_n 0, 1), (805, .iload_n 3, 1), (806, .iconst 1, 1), (807, .iadd, 1), (808, .iaload, 1), (809, .aload_n 0, 1), (810, .iload_n 3, 1), (811, .iconst 2, 1), (812, .iadd, 1), (813, .iaload, 1), (814, .invokevirtual 98, 3), (817, .if_icmp .eq 469, 3)] 820 (by decide +kernel) ?_
        refine sb_aload_n rfl ?_
        refine sb_aload_n rfl ?_
        refine sb_iload_n rfl ?_
        refine sb_iconst cI1 ?_
        refine sb_iadd ?_
        obtain ⟨hgz142, h⟩ := gd h
        refine sb_icld 2 (by decide) hgz142 ?_
        refine sb_aload_n rfl ?_
        refine sb_iload_n rfl ?_
        refine sb_iconst cI2 ?_
        refine sb_iadd ?_
        obtain ⟨hgz143, h⟩ := gd h
        refine sb_icld 2 (by decide) hgz143 ?_
        obtain ⟨qz145, hez144, h⟩ := bd h
        refine sb_callVi 2 rfl oX11_carries ln13_95 vX11_carries (rc_own h0.1 (S_lt h0.2) (by decide)) (rnCk_of (by decide +kernel) rfl) (tfK_carries hez144) ?_
        refine sb_aload_n rfl ?_
        refine sb_aload_n rfl ?_
        refine sb_iload_n rfl ?_
        refine sb_iconst cI1 ?_
        refine sb_iadd ?_
        obtain ⟨hgz146, h⟩ := gd h
        refine sb_icld 2 (by decide) hgz146 ?_
        refine sb_aload_n rfl ?_
        refine sb_iload_n rfl ?_
        refine sb_iconst cI2 ?_
        refine sb_iadd ?_
        obtain ⟨hgz147, h⟩ := gd h
        refine sb_icld 2 (by decide) hgz147 ?_
        obtain ⟨qz149, hez148, h⟩ := bd h
        refine sb_callVi 2 rfl oX12_carries ln13_98 vX12_carries (rc_own h217.1 (S_lt h217.2) (by decide)) (rnCk_of (by decide +kernel) rfl) (tfM_carries hez148) ?_
        rcases ife h with ⟨cz337, h⟩ | ⟨cz337, h⟩
        · refine sb_icmp_eq_t 1286 cz337 (by decide) ?_
          exact rn_sub [0, 1, 2, 3] rfl (hJ1286 _ _ h)
        · refine sb_icmp_eq_f 1286 cz337 (by decide) ?_
          cases h
          exact rn_sub [] rfl hc
      rcases ife h with ⟨cz338, h⟩ | ⟨cz338, h⟩
      · refine sb_tsw_in (off := 789) 20 822 cz338 (by decide +kernel) ?_
        refine sb_in [(822, .aload_n 1, 1), (823, .aload_n 0, 1), (824, .iload_n 3, 1), (825, .iconst 1, 1), (826, .iadd, 1), (827, .iaload, 1), (828, .aload_n 0, 1), (829, .iload_n 3, 1), (830, .iconst 2, 1), (831, .iadd, 1), (832, .iaload, 1), (833, .aload_n 0, 1), (834, .iload_n 3, 1), (835, .iconst 3, 1), (836, .iadd, 1), (837, .iaload, 1), (838, .invokevirtual 99, 3), (841, .aload_n 2, 1), (842, .aload_n 0, 1), (843, .iload_n 3, 1), (844, .iconst 1, 1), (845, .iadd, 1), (846, .iaload, 1), (847, .aload_n 0, 1), (848, .iload_n 3, 1), (849, .iconst 2, 1), (850, .iadd, 1), (851, .iaload, 1), (852, .aload_n 0, 1), (853, .iload_n 3, 1), (854, .iconst 3, 1), (855, .iadd, 1), (856, .iaload, 1), (857, .invokevirtual 102, 3), (860, .if_icmp .eq 426, 3)] 863 (by decide +kernel) ?_
        refine sb_aload_n rfl ?_
        refine sb_aload_n rfl ?_
        refine sb_iload_n rfl ?_
        refine sb_iconst cI1 ?_
        refine sb_iadd ?_
        obtain ⟨hgz150, h⟩ := gd h
        refine sb_icld 2 (by decide) hgz150 ?_
        refine sb_aload_n rfl ?_
        refine sb_iload_n rfl ?_
        refine sb_iconst cI2 ?_
        refine sb_iadd ?_
        obtain ⟨hgz151, h⟩ := gd h
        refine sb_icld 2 (by decide) hgz151 ?_
        refine sb_aload_n rfl ?_
        refine sb_iload_n rfl ?_
        refine sb_iconst cI3 ?_
        refine sb_iadd ?_
        obtain ⟨hgz152, h⟩ := gd h
        refine sb_icld 2 (by decide) hgz152 ?_
        obtain ⟨qz154, hez153, h⟩ := bd h
        refine sb_callVi 3 rfl oX11_owes ln13_99 vX11_owes (rc_own h0.1 (S_lt h0.2) (by decide)) (rnCk_of (by decide +kernel) rfl) (tfK_owes hez153) ?_
        refine sb_aload_n rfl ?_
        refine sb_aload_n rfl ?_
        refine sb_iload_n rfl ?_
        refine sb_iconst cI1 ?_
        refine sb_iadd ?_
        obtain ⟨hgz155, h⟩ := gd h
        refine sb_icld 2 (by decide) hgz155 ?_
        refine sb_aload_n rfl ?_
        refine sb_iload_n rfl ?_
        refine sb_iconst cI2 ?_
        refine sb_iadd ?_
        obtain ⟨hgz156, h⟩ := gd h
        refine sb_icld 2 (by decide) hgz156 ?_
        refine sb_aload_n rfl ?_
        refine sb_iload_n rfl ?_
        refine sb_iconst cI3 ?_
        refine sb_iadd ?_
        obtain ⟨hgz157, h⟩ := gd h
        refine sb_icld 2 (by decide) hgz157 ?_
        obtain ⟨qz159, hez158, h⟩ := bd h
        refine sb_callVi 3 rfl oX12_owes ln13_102 vX12_owes (rc_own h217.1 (S_lt h217.2) (by decide)) (rnCk_of (by decide +kernel) rfl) (tfM_owes hez158) ?_
        rcases ife h with ⟨cz339, h⟩ | ⟨cz339, h⟩
        · refine sb_icmp_eq_t 1286 cz339 (by decide) ?_
          exact rn_sub [0, 1, 2, 3] rfl (hJ1286 _ _ h)
        · refine sb_icmp_eq_f 1286 cz339 (by decide) ?_
          cases h
          exact rn_sub [] rfl hc
      rcases ife h with ⟨cz340, h⟩ | ⟨cz340, h⟩
      · refine sb_tsw_in (off := 832) 21 865 cz340 (by decide +kernel) ?_
        refine sb_in [(865, .aload_n 1, 1), (866, .aload_n 0, 1), (867, .iload_n 3, 1), (868, .iconst 1, 1), (869, .iadd, 1), (870, .iaload, 1), (871, .invokevirtual 103, 3), (874, .aload_n 2, 1), (875, .aload_n 0, 1), (876, .iload_n 3, 1), (877, .iconst 1, 1), (878, .iadd, 1), (879, .iaload, 1), (880, .invokevirtual 106, 3), (883, .if_icmp .eq 403, 3)] 886 (by decide +kernel) ?_
        refine sb_aload_n rfl ?_
        refine sb_aload_n rfl ?_
        refine sb_iload_n rfl ?_
        refine sb_iconst cI1 ?_
        refine sb_iadd ?_
        obtain ⟨hgz160, h⟩ := gd h
        refine sb_icld 2 (by decide) hgz160 ?_
        obtain ⟨qz162, hez161, h⟩ := bd h
        refine sb_callVi 1 rfl oX11_net ln13_103 vX11_net (rc_own h0.1 (S_lt h0.2) (by decide)) (rnCk_of (by decide +kernel) rfl) (tfK_net hez161) ?_
        refine sb_aload_n rfl ?_
        refine sb_aload_n rfl ?_
        refine sb_iload_n rfl ?_
        refine sb_iconst cI1 ?_
        refine sb_iadd ?_
        obtain ⟨hgz163, h⟩ := gd h
        refine sb_icld 2 (by decide) hgz163 ?_
        obtain ⟨qz165, hez164, h⟩ := bd h
        refine sb_callVi 1 rfl oX12_net ln13_106 vX12_net (rc_own h217.1 (S_lt h217.2) (by decide)) (rnCk_of (by decide +kernel) rfl) (tfM_net hez164) ?_
        rcases ife h with ⟨cz341, h⟩ | ⟨cz341, h⟩
        · refine sb_icmp_eq_t 1286 cz341 (by decide) ?_
          exact rn_sub [0, 1, 2, 3] rfl (hJ1286 _ _ h)
        · refine sb_icmp_eq_f 1286 cz341 (by decide) ?_
          cases h
          exact rn_sub [] rfl hc
      rcases ife h with ⟨cz342, h⟩ | ⟨cz342, h⟩
      · refine sb_tsw_in (off := 855) 22 888 cz342 (by decide +kernel) ?_
        refine sb_in [(888, .aload_n 1, 1), (889, .aload_n 0, 1), (890, .iload_n 3, 1), (891, .iconst 1, 1), (892, .iadd, 1), (893, .iaload, 1), (894, .aload_n 0, 1), (895, .iload_n 3, 1), (896, .iconst 2, 1), (897, .iadd, 1), (898, .iaload, 1), (899, .aload_n 0, 1), (900, .iload_n 3, 1), (901, .iconst 3, 1), (902, .iadd, 1), (903, .iaload, 1), (904, .aload_n 0, 1), (905, .iload_n 3, 1), (906, .iconst 4, 1), (907, .iadd, 1), (908, .iaload, 1), (909, .invokevirtual 107, 3), (912, .aload_n 2, 1), (913, .aload_n 0, 1), (914, .iload_n 3, 1), (915, .iconst 1, 1), (916, .iadd, 1), (917, .iaload, 1), (918, .aload_n 0, 1), (919, .iload_n 3, 1), (920, .iconst 2, 1), (921, .iadd, 1), (922, .iaload, 1), (923, .aload_n 0, 1), (924, .iload_n 3, 1), (925, .iconst 3, 1), (926, .iadd, 1), (927, .iaload, 1), (928, .aload_n 0, 1), (929, .iload_n 3, 1), (930, .iconst 4, 1), (931, .iadd, 1), (932, .iaload, 1), (933, .invokevirtual 111, 3), (936, .if_icmp .eq 350, 3)] 939 (by decide +kernel) ?_
        refine sb_aload_n rfl ?_
        refine sb_aload_n rfl ?_
        refine sb_iload_n rfl ?_
        refine sb_iconst cI1 ?_
        refine sb_iadd ?_
        obtain ⟨hgz166, h⟩ := gd h
        refine sb_icld 2 (by decide) hgz166 ?_
        refine sb_aload_n rfl ?_
        refine sb_iload_n rfl ?_
        refine sb_iconst cI2 ?_
        refine sb_iadd ?_
        obtain ⟨hgz167, h⟩ := gd h
        refine sb_icld 2 (by decide) hgz167 ?_
        refine sb_aload_n rfl ?_
        refine sb_iload_n rfl ?_
        refine sb_iconst cI3 ?_
        refine sb_iadd ?_
        obtain ⟨hgz168, h⟩ := gd h
        refine sb_icld 2 (by decide) hgz168 ?_
        refine sb_aload_n rfl ?_
        refine sb_iload_n rfl ?_
        refine sb_iconst cI4 ?_
        refine sb_iadd ?_
        obtain ⟨hgz169, h⟩ := gd h
        refine sb_icld 2 (by decide) hgz169 ?_
        obtain ⟨qz171, hez170, h⟩ := bd h
        refine sb_callVi 4 rfl oX11_chain ln13_107 vX11_chain (rc_own h0.1 (S_lt h0.2) (by decide)) (rnCk_of (by decide +kernel) rfl) (tfK_chain hez170) ?_
        refine sb_aload_n rfl ?_
        refine sb_aload_n rfl ?_
        refine sb_iload_n rfl ?_
        refine sb_iconst cI1 ?_
        refine sb_iadd ?_
        obtain ⟨hgz172, h⟩ := gd h
        refine sb_icld 2 (by decide) hgz172 ?_
        refine sb_aload_n rfl ?_
        refine sb_iload_n rfl ?_
        refine sb_iconst cI2 ?_
        refine sb_iadd ?_
        obtain ⟨hgz173, h⟩ := gd h
        refine sb_icld 2 (by decide) hgz173 ?_
        refine sb_aload_n rfl ?_
        refine sb_iload_n rfl ?_
        refine sb_iconst cI3 ?_
        refine sb_iadd ?_
        obtain ⟨hgz174, h⟩ := gd h
        refine sb_icld 2 (by decide) hgz174 ?_
        refine sb_aload_n rfl ?_
        refine sb_iload_n rfl ?_
        refine sb_iconst cI4 ?_
        refine sb_iadd ?_
        obtain ⟨hgz175, h⟩ := gd h
        refine sb_icld 2 (by decide) hgz175 ?_
        obtain ⟨qz177, hez176, h⟩ := bd h
        refine sb_callVi 4 rfl oX12_chain ln13_111 vX12_chain (rc_own h217.1 (S_lt h217.2) (by decide)) (rnCk_of (by decide +kernel) rfl) (tfM_chain hez176) ?_
        rcases ife h with ⟨cz343, h⟩ | ⟨cz343, h⟩
        · refine sb_icmp_eq_t 1286 cz343 (by decide) ?_
          exact rn_sub [0, 1, 2, 3] rfl (hJ1286 _ _ h)
        · refine sb_icmp_eq_f 1286 cz343 (by decide) ?_
          cases h
          exact rn_sub [] rfl hc
      rcases ife h with ⟨cz344, h⟩ | ⟨cz344, h⟩
      · refine sb_tsw_in (off := 908) 23 941 cz344 (by decide +kernel) ?_
        refine sb_in [(941, .aload_n 1, 1), (942, .aload_n 0, 1), (943, .iload_n 3, 1), (944, .iconst 1, 1), (945, .iadd, 1), (946, .iaload, 1), (947, .aload_n 0, 1), (948, .iload_n 3, 1), (949, .iconst 2, 1), (950, .iadd, 1), (951, .iaload, 1), (952, .invokevirtual 112, 3), (955, .aload_n 2, 1), (956, .aload_n 0, 1), (957, .iload_n 3, 1), (958, .iconst 1, 1), (959, .iadd, 1), (960, .iaload, 1), (961, .aload_n 0, 1), (962, .iload_n 3, 1), (963, .iconst 2, 1), (964, .iadd, 1), (965, .iaload, 1), (966, .invokevirtual 116, 3), (969, .if_icmp .eq 317, 3)] 972 (by decide +kernel) ?_
        refine sb_aload_n rfl ?_
        refine sb_aload_n rfl ?_
        refine sb_iload_n rfl ?_
        refine sb_iconst cI1 ?_
        refine sb_iadd ?_
        obtain ⟨hgz178, h⟩ := gd h
        refine sb_icld 2 (by decide) hgz178 ?_
        refine sb_aload_n rfl ?_
        refine sb_iload_n rfl ?_
        refine sb_iconst cI2 ?_
        refine sb_iadd ?_
        obtain ⟨hgz179, h⟩ := gd h
        refine sb_icld 2 (by decide) hgz179 ?_
        obtain ⟨qz181, hez180, h⟩ := bd h
        refine sb_callVi 2 rfl oX11_has ln13_112 vX11_has (rc_own h0.1 (S_lt h0.2) (by decide)) (rnCk_of (by decide +kernel) rfl) (tfK_has hez180) ?_
        refine sb_aload_n rfl ?_
        refine sb_aload_n rfl ?_
        refine sb_iload_n rfl ?_
        refine sb_iconst cI1 ?_
        refine sb_iadd ?_
        obtain ⟨hgz182, h⟩ := gd h
        refine sb_icld 2 (by decide) hgz182 ?_
        refine sb_aload_n rfl ?_
        refine sb_iload_n rfl ?_
        refine sb_iconst cI2 ?_
        refine sb_iadd ?_
        obtain ⟨hgz183, h⟩ := gd h
        refine sb_icld 2 (by decide) hgz183 ?_
        obtain ⟨qz185, hez184, h⟩ := bd h
        refine sb_callVi 2 rfl oX12_has ln13_116 vX12_has (rc_own h217.1 (S_lt h217.2) (by decide)) (rnCk_of (by decide +kernel) rfl) (tfM_has hez184) ?_
        rcases ife h with ⟨cz345, h⟩ | ⟨cz345, h⟩
        · refine sb_icmp_eq_t 1286 cz345 (by decide) ?_
          exact rn_sub [0, 1, 2, 3] rfl (hJ1286 _ _ h)
        · refine sb_icmp_eq_f 1286 cz345 (by decide) ?_
          cases h
          exact rn_sub [] rfl hc
      rcases ife h with ⟨cz346, h⟩ | ⟨cz346, h⟩
      · refine sb_tsw_in (off := 941) 24 974 cz346 (by decide +kernel) ?_
        refine sb_in [(974, .aload_n 1, 1), (975, .aload_n 0, 1), (976, .iload_n 3, 1), (977, .iconst 1, 1), (978, .iadd, 1), (979, .iaload, 1), (980, .invokevirtual 117, 3), (983, .aload_n 2, 1), (984, .aload_n 0, 1), (985, .iload_n 3, 1), (986, .iconst 1, 1), (987, .iadd, 1), (988, .iaload, 1), (989, .invokevirtual 120, 3), (992, .if_icmp .eq 294, 3)] 995 (by decide +kernel) ?_
        refine sb_aload_n rfl ?_
        refine sb_aload_n rfl ?_
        refine sb_iload_n rfl ?_
        refine sb_iconst cI1 ?_
        refine sb_iadd ?_
        obtain ⟨hgz186, h⟩ := gd h
        refine sb_icld 2 (by decide) hgz186 ?_
        obtain ⟨qz188, hez187, h⟩ := bd h
        refine sb_callVi 1 rfl oX11_spell ln13_117 vX11_spell (rc_own h0.1 (S_lt h0.2) (by decide)) (rnCk_of (by decide +kernel) rfl) (tfK_spell hez187) ?_
        refine sb_aload_n rfl ?_
        refine sb_aload_n rfl ?_
        refine sb_iload_n rfl ?_
        refine sb_iconst cI1 ?_
        refine sb_iadd ?_
        obtain ⟨hgz189, h⟩ := gd h
        refine sb_icld 2 (by decide) hgz189 ?_
        obtain ⟨qz191, hez190, h⟩ := bd h
        refine sb_callVi 1 rfl oX12_spell ln13_120 vX12_spell (rc_own h217.1 (S_lt h217.2) (by decide)) (rnCk_of (by decide +kernel) rfl) (tfM_spell hez190) ?_
        rcases ife h with ⟨cz347, h⟩ | ⟨cz347, h⟩
        · refine sb_icmp_eq_t 1286 cz347 (by decide) ?_
          exact rn_sub [0, 1, 2, 3] rfl (hJ1286 _ _ h)
        · refine sb_icmp_eq_f 1286 cz347 (by decide) ?_
          cases h
          exact rn_sub [] rfl hc
      rcases ife h with ⟨cz348, h⟩ | ⟨cz348, h⟩
      · refine sb_tsw_in (off := 964) 25 997 cz348 (by decide +kernel) ?_
        refine sb_in [(997, .aload_n 1, 1), (998, .aload_n 0, 1), (999, .iload_n 3, 1), (1000, .iconst 1, 1), (1001, .iadd, 1), (1002, .iaload, 1), (1003, .invokevirtual 121, 3), (1006, .aload_n 2, 1), (1007, .aload_n 0, 1), (1008, .iload_n 3, 1), (1009, .iconst 1, 1), (1010, .iadd, 1), (1011, .iaload, 1), (1012, .invokevirtual 124, 3), (1015, .if_icmp .eq 271, 3)] 1018 (by decide +kernel) ?_
        refine sb_aload_n rfl ?_
        refine sb_aload_n rfl ?_
        refine sb_iload_n rfl ?_
        refine sb_iconst cI1 ?_
        refine sb_iadd ?_
        obtain ⟨hgz192, h⟩ := gd h
        refine sb_icld 2 (by decide) hgz192 ?_
        obtain ⟨qz194, hez193, h⟩ := bd h
        refine sb_callVi 1 rfl oX11_lays ln13_121 vX11_lays (rc_own h0.1 (S_lt h0.2) (by decide)) (rnCk_of (by decide +kernel) rfl) (tfK_lays hez193) ?_
        refine sb_aload_n rfl ?_
        refine sb_aload_n rfl ?_
        refine sb_iload_n rfl ?_
        refine sb_iconst cI1 ?_
        refine sb_iadd ?_
        obtain ⟨hgz195, h⟩ := gd h
        refine sb_icld 2 (by decide) hgz195 ?_
        obtain ⟨qz197, hez196, h⟩ := bd h
        refine sb_callVi 1 rfl oX12_lays ln13_124 vX12_lays (rc_own h217.1 (S_lt h217.2) (by decide)) (rnCk_of (by decide +kernel) rfl) (tfM_lays hez196) ?_
        rcases ife h with ⟨cz349, h⟩ | ⟨cz349, h⟩
        · refine sb_icmp_eq_t 1286 cz349 (by decide) ?_
          exact rn_sub [0, 1, 2, 3] rfl (hJ1286 _ _ h)
        · refine sb_icmp_eq_f 1286 cz349 (by decide) ?_
          cases h
          exact rn_sub [] rfl hc
      rcases ife h with ⟨cz350, h⟩ | ⟨cz350, h⟩
      · refine sb_tsw_in (off := 987) 26 1020 cz350 (by decide +kernel) ?_
        refine sb_in [(1020, .aload_n 1, 1), (1021, .aload_n 0, 1), (1022, .iload_n 3, 1), (1023, .iconst 1, 1), (1024, .iadd, 1), (1025, .iaload, 1), (1026, .aload_n 0, 1), (1027, .iload_n 3, 1), (1028, .iconst 2, 1), (1029, .iadd, 1), (1030, .iaload, 1), (1031, .invokevirtual 125, 3), (1034, .aload_n 2, 1), (1035, .aload_n 0, 1), (1036, .iload_n 3, 1), (1037, .iconst 1, 1), (1038, .iadd, 1), (1039, .iaload, 1), (1040, .aload_n 0, 1), (1041, .iload_n 3, 1), (1042, .iconst 2, 1), (1043, .iadd, 1), (1044, .iaload, 1), (1045, .invokevirtual 128, 3), (1048, .if_icmp .eq 238, 3)] 1051 (by decide +kernel) ?_
        refine sb_aload_n rfl ?_
        refine sb_aload_n rfl ?_
        refine sb_iload_n rfl ?_
        refine sb_iconst cI1 ?_
        refine sb_iadd ?_
        obtain ⟨hgz198, h⟩ := gd h
        refine sb_icld 2 (by decide) hgz198 ?_
        refine sb_aload_n rfl ?_
        refine sb_iload_n rfl ?_
        refine sb_iconst cI2 ?_
        refine sb_iadd ?_
        obtain ⟨hgz199, h⟩ := gd h
        refine sb_icld 2 (by decide) hgz199 ?_
        obtain ⟨qz201, hez200, h⟩ := bd h
        refine sb_callVi 2 rfl oX11_answer ln13_125 vX11_answer (rc_own h0.1 (S_lt h0.2) (by decide)) (rnCk_of (by decide +kernel) rfl) (tfK_answer hez200) ?_
        refine sb_aload_n rfl ?_
        refine sb_aload_n rfl ?_
        refine sb_iload_n rfl ?_
        refine sb_iconst cI1 ?_
        refine sb_iadd ?_
        obtain ⟨hgz202, h⟩ := gd h
        refine sb_icld 2 (by decide) hgz202 ?_
        refine sb_aload_n rfl ?_
        refine sb_iload_n rfl ?_
        refine sb_iconst cI2 ?_
        refine sb_iadd ?_
        obtain ⟨hgz203, h⟩ := gd h
        refine sb_icld 2 (by decide) hgz203 ?_
        obtain ⟨qz205, hez204, h⟩ := bd h
        refine sb_callVi 2 rfl oX12_answer ln13_128 vX12_answer (rc_own h217.1 (S_lt h217.2) (by decide)) (rnCk_of (by decide +kernel) rfl) (tfM_answer hez204) ?_
        rcases ife h with ⟨cz351, h⟩ | ⟨cz351, h⟩
        · refine sb_icmp_eq_t 1286 cz351 (by decide) ?_
          exact rn_sub [0, 1, 2, 3] rfl (hJ1286 _ _ h)
        · refine sb_icmp_eq_f 1286 cz351 (by decide) ?_
          cases h
          exact rn_sub [] rfl hc
      rcases ife h with ⟨cz352, h⟩ | ⟨cz352, h⟩
      · refine sb_tsw_in (off := 1020) 27 1053 cz352 (by decide +kernel) ?_
        refine sb_in [(1053, .aload_n 1, 1), (1054, .aload_n 0, 1), (1055, .iload_n 3, 1), (1056, .iconst 1, 1), (1057, .iadd, 1), (1058, .iaload, 1), (1059, .aload_n 0, 1), (1060, .iload_n 3, 1), (1061, .iconst 2, 1), (1062, .iadd, 1), (1063, .iaload, 1), (1064, .invokevirtual 129, 3), (1067, .aload_n 2, 1), (1068, .aload_n 0, 1), (1069, .iload_n 3, 1), (1070, .iconst 1, 1), (1071, .iadd, 1), (1072, .iaload, 1), (1073, .aload_n 0, 1), (1074, .iload_n 3, 1), (1075, .iconst 2, 1), (1076, .iadd, 1), (1077, .iaload, 1), (1078, .invokevirtual 132, 3), (1081, .if_icmp .eq 205, 3)] 1084 (by decide +kernel) ?_
        refine sb_aload_n rfl ?_
        refine sb_aload_n rfl ?_
        refine sb_iload_n rfl ?_
        refine sb_iconst cI1 ?_
        refine sb_iadd ?_
        obtain ⟨hgz206, h⟩ := gd h
        refine sb_icld 2 (by decide) hgz206 ?_
        refine sb_aload_n rfl ?_
        refine sb_iload_n rfl ?_
        refine sb_iconst cI2 ?_
        refine sb_iadd ?_
        obtain ⟨hgz207, h⟩ := gd h
        refine sb_icld 2 (by decide) hgz207 ?_
        obtain ⟨qz209, hez208, h⟩ := bd h
        refine sb_callVi 2 rfl oX11_likely ln13_129 vX11_likely (rc_own h0.1 (S_lt h0.2) (by decide)) (rnCk_of (by decide +kernel) rfl) (tfK_likely hez208) ?_
        refine sb_aload_n rfl ?_
        refine sb_aload_n rfl ?_
        refine sb_iload_n rfl ?_
        refine sb_iconst cI1 ?_
        refine sb_iadd ?_
        obtain ⟨hgz210, h⟩ := gd h
        refine sb_icld 2 (by decide) hgz210 ?_
        refine sb_aload_n rfl ?_
        refine sb_iload_n rfl ?_
        refine sb_iconst cI2 ?_
        refine sb_iadd ?_
        obtain ⟨hgz211, h⟩ := gd h
        refine sb_icld 2 (by decide) hgz211 ?_
        obtain ⟨qz213, hez212, h⟩ := bd h
        refine sb_callVi 2 rfl oX12_likely ln13_132 vX12_likely (rc_own h217.1 (S_lt h217.2) (by decide)) (rnCk_of (by decide +kernel) rfl) (tfM_likely hez212) ?_
        rcases ife h with ⟨cz353, h⟩ | ⟨cz353, h⟩
        · refine sb_icmp_eq_t 1286 cz353 (by decide) ?_
          exact rn_sub [0, 1, 2, 3] rfl (hJ1286 _ _ h)
        · refine sb_icmp_eq_f 1286 cz353 (by decide) ?_
          cases h
          exact rn_sub [] rfl hc
      rcases ife h with ⟨cz354, h⟩ | ⟨cz354, h⟩
      · refine sb_tsw_in (off := 1053) 28 1086 cz354 (by decide +kernel) ?_
        refine sb_in [(1086, .aload_n 1, 1), (1087, .aload_n 0, 1), (1088, .iload_n 3, 1), (1089, .iconst 1, 1), (1090, .iadd, 1), (1091, .iaload, 1), (1092, .invokevirtual 133, 3), (1095, .aload_n 2, 1), (1096, .aload_n 0, 1), (1097, .iload_n 3, 1), (1098, .iconst 1, 1), (1099, .iadd, 1), (1100, .iaload, 1), (1101, .invokevirtual 136, 3), (1104, .if_icmp .eq 182, 3)] 1107 (by decide +kernel) ?_
        refine sb_aload_n rfl ?_
        refine sb_aload_n rfl ?_
        refine sb_iload_n rfl ?_
        refine sb_iconst cI1 ?_
        refine sb_iadd ?_
        obtain ⟨hgz214, h⟩ := gd h
        refine sb_icld 2 (by decide) hgz214 ?_
        obtain ⟨qz216, hez215, h⟩ := bd h
        refine sb_callVi 1 rfl oX11_box ln13_133 vX11_box (rc_own h0.1 (S_lt h0.2) (by decide)) (rnCk_of (by decide +kernel) rfl) (tfK_box hez215) ?_
        refine sb_aload_n rfl ?_
        refine sb_aload_n rfl ?_
        refine sb_iload_n rfl ?_
        refine sb_iconst cI1 ?_
        refine sb_iadd ?_
        obtain ⟨hgz217, h⟩ := gd h
        refine sb_icld 2 (by decide) hgz217 ?_
        obtain ⟨qz219, hez218, h⟩ := bd h
        refine sb_callVi 1 rfl oX12_box ln13_136 vX12_box (rc_own h217.1 (S_lt h217.2) (by decide)) (rnCk_of (by decide +kernel) rfl) (tfM_box hez218) ?_
        rcases ife h with ⟨cz355, h⟩ | ⟨cz355, h⟩
        · refine sb_icmp_eq_t 1286 cz355 (by decide) ?_
          exact rn_sub [0, 1, 2, 3] rfl (hJ1286 _ _ h)
        · refine sb_icmp_eq_f 1286 cz355 (by decide) ?_
          cases h
          exact rn_sub [] rfl hc
      rcases ife h with ⟨cz356, h⟩ | ⟨cz356, h⟩
      · refine sb_tsw_in (off := 1076) 29 1109 cz356 (by decide +kernel) ?_
        refine sb_in [(1109, .aload_n 1, 1), (1110, .aload_n 0, 1), (1111, .iload_n 3, 1), (1112, .iconst 1, 1), (1113, .iadd, 1), (1114, .iaload, 1), (1115, .aload_n 0, 1), (1116, .iload_n 3, 1), (1117, .iconst 2, 1), (1118, .iadd, 1), (1119, .iaload, 1), (1120, .invokevirtual 137, 3), (1123, .aload_n 2, 1), (1124, .aload_n 0, 1), (1125, .iload_n 3, 1), (1126, .iconst 1, 1), (1127, .iadd, 1), (1128, .iaload, 1), (1129, .aload_n 0, 1), (1130, .iload_n 3, 1), (1131, .iconst 2, 1), (1132, .iadd, 1), (1133, .iaload, 1), (1134, .invokevirtual 140, 3), (1137, .if_icmp .eq 149, 3)] 1140 (by decide +kernel) ?_
        refine sb_aload_n rfl ?_
        refine sb_aload_n rfl ?_
        refine sb_iload_n rfl ?_
        refine sb_iconst cI1 ?_
        refine sb_iadd ?_
        obtain ⟨hgz220, h⟩ := gd h
        refine sb_icld 2 (by decide) hgz220 ?_
        refine sb_aload_n rfl ?_
        refine sb_iload_n rfl ?_
        refine sb_iconst cI2 ?_
        refine sb_iadd ?_
        obtain ⟨hgz221, h⟩ := gd h
        refine sb_icld 2 (by decide) hgz221 ?_
        obtain ⟨qz223, hez222, h⟩ := bd h
        refine sb_callVi 2 rfl oX11_face ln13_137 vX11_face (rc_own h0.1 (S_lt h0.2) (by decide)) (rnCk_of (by decide +kernel) rfl) (tfK_face hez222) ?_
        refine sb_aload_n rfl ?_
        refine sb_aload_n rfl ?_
        refine sb_iload_n rfl ?_
        refine sb_iconst cI1 ?_
        refine sb_iadd ?_
        obtain ⟨hgz224, h⟩ := gd h
        refine sb_icld 2 (by decide) hgz224 ?_
        refine sb_aload_n rfl ?_
        refine sb_iload_n rfl ?_
        refine sb_iconst cI2 ?_
        refine sb_iadd ?_
        obtain ⟨hgz225, h⟩ := gd h
        refine sb_icld 2 (by decide) hgz225 ?_
        obtain ⟨qz227, hez226, h⟩ := bd h
        refine sb_callVi 2 rfl oX12_face ln13_140 vX12_face (rc_own h217.1 (S_lt h217.2) (by decide)) (rnCk_of (by decide +kernel) rfl) (tfM_face hez226) ?_
        rcases ife h with ⟨cz357, h⟩ | ⟨cz357, h⟩
        · refine sb_icmp_eq_t 1286 cz357 (by decide) ?_
          exact rn_sub [0, 1, 2, 3] rfl (hJ1286 _ _ h)
        · refine sb_icmp_eq_f 1286 cz357 (by decide) ?_
          cases h
          exact rn_sub [] rfl hc
      rcases ife h with ⟨cz358, h⟩ | ⟨cz358, h⟩
      · refine sb_tsw_in (off := 1109) 30 1142 cz358 (by decide +kernel) ?_
        refine sb_in [(1142, .aload_n 1, 1), (1143, .aload_n 0, 1), (1144, .iload_n 3, 1), (1145, .iconst 1, 1), (1146, .iadd, 1), (1147, .iaload, 1), (1148, .invokevirtual 141, 3), (1151, .aload_n 2, 1), (1152, .aload_n 0, 1), (1153, .iload_n 3, 1), (1154, .iconst 1, 1), (1155, .iadd, 1), (1156, .iaload, 1), (1157, .invokevirtual 144, 3), (1160, .if_icmp .eq 126, 3)] 1163 (by decide +kernel) ?_
        refine sb_aload_n rfl ?_
        refine sb_aload_n rfl ?_
        refine sb_iload_n rfl ?_
        refine sb_iconst cI1 ?_
        refine sb_iadd ?_
        obtain ⟨hgz228, h⟩ := gd h
        refine sb_icld 2 (by decide) hgz228 ?_
        obtain ⟨qz230, hez229, h⟩ := bd h
        refine sb_callVi 1 rfl oX11_faces ln13_141 vX11_faces (rc_own h0.1 (S_lt h0.2) (by decide)) (rnCk_of (by decide +kernel) rfl) (tfK_faces hez229) ?_
        refine sb_aload_n rfl ?_
        refine sb_aload_n rfl ?_
        refine sb_iload_n rfl ?_
        refine sb_iconst cI1 ?_
        refine sb_iadd ?_
        obtain ⟨hgz231, h⟩ := gd h
        refine sb_icld 2 (by decide) hgz231 ?_
        obtain ⟨qz233, hez232, h⟩ := bd h
        refine sb_callVi 1 rfl oX12_faces ln13_144 vX12_faces (rc_own h217.1 (S_lt h217.2) (by decide)) (rnCk_of (by decide +kernel) rfl) (tfM_faces hez232) ?_
        rcases ife h with ⟨cz359, h⟩ | ⟨cz359, h⟩
        · refine sb_icmp_eq_t 1286 cz359 (by decide) ?_
          exact rn_sub [0, 1, 2, 3] rfl (hJ1286 _ _ h)
        · refine sb_icmp_eq_f 1286 cz359 (by decide) ?_
          cases h
          exact rn_sub [] rfl hc
      rcases ife h with ⟨cz360, h⟩ | ⟨cz360, h⟩
      · refine sb_tsw_in (off := 1132) 31 1165 cz360 (by decide +kernel) ?_
        refine sb_in [(1165, .aload_n 1, 1), (1166, .aload_n 0, 1), (1167, .iload_n 3, 1), (1168, .iconst 1, 1), (1169, .iadd, 1), (1170, .iaload, 1), (1171, .invokevirtual 145, 3), (1174, .aload_n 2, 1), (1175, .aload_n 0, 1), (1176, .iload_n 3, 1), (1177, .iconst 1, 1), (1178, .iadd, 1), (1179, .iaload, 1), (1180, .invokevirtual 148, 3), (1183, .if_icmp .eq 103, 3)] 1186 (by decide +kernel) ?_
        refine sb_aload_n rfl ?_
        refine sb_aload_n rfl ?_
        refine sb_iload_n rfl ?_
        refine sb_iconst cI1 ?_
        refine sb_iadd ?_
        obtain ⟨hgz234, h⟩ := gd h
        refine sb_icld 2 (by decide) hgz234 ?_
        obtain ⟨qz236, hez235, h⟩ := bd h
        refine sb_callVi 1 rfl oX11_joy ln13_145 vX11_joy (rc_own h0.1 (S_lt h0.2) (by decide)) (rnCk_of (by decide +kernel) rfl) (tfK_joy hez235) ?_
        refine sb_aload_n rfl ?_
        refine sb_aload_n rfl ?_
        refine sb_iload_n rfl ?_
        refine sb_iconst cI1 ?_
        refine sb_iadd ?_
        obtain ⟨hgz237, h⟩ := gd h
        refine sb_icld 2 (by decide) hgz237 ?_
        obtain ⟨qz239, hez238, h⟩ := bd h
        refine sb_callVi 1 rfl oX12_joy ln13_148 vX12_joy (rc_own h217.1 (S_lt h217.2) (by decide)) (rnCk_of (by decide +kernel) rfl) (tfM_joy hez238) ?_
        rcases ife h with ⟨cz361, h⟩ | ⟨cz361, h⟩
        · refine sb_icmp_eq_t 1286 cz361 (by decide) ?_
          exact rn_sub [0, 1, 2, 3] rfl (hJ1286 _ _ h)
        · refine sb_icmp_eq_f 1286 cz361 (by decide) ?_
          cases h
          exact rn_sub [] rfl hc
      rcases ife h with ⟨cz362, h⟩ | ⟨cz362, h⟩
      · refine sb_tsw_in (off := 1155) 32 1188 cz362 (by decide +kernel) ?_
        refine sb_in [(1188, .aload_n 1, 1), (1189, .aload_n 0, 1), (1190, .iload_n 3, 1), (1191, .iconst 1, 1), (1192, .iadd, 1), (1193, .iaload, 1), (1194, .invokevirtual 149, 3), (1197, .aload_n 2, 1), (1198, .aload_n 0, 1), (1199, .iload_n 3, 1), (1200, .iconst 1, 1), (1201, .iadd, 1), (1202, .iaload, 1), (1203, .invokevirtual 152, 3), (1206, .if_icmp .eq 80, 3)] 1209 (by decide +kernel) ?_
        refine sb_aload_n rfl ?_
        refine sb_aload_n rfl ?_
        refine sb_iload_n rfl ?_
        refine sb_iconst cI1 ?_
        refine sb_iadd ?_
        obtain ⟨hgz240, h⟩ := gd h
        refine sb_icld 2 (by decide) hgz240 ?_
        obtain ⟨qz242, hez241, h⟩ := bd h
        refine sb_callVi 1 rfl oX11_game ln13_149 vX11_game (rc_own h0.1 (S_lt h0.2) (by decide)) (rnCk_of (by decide +kernel) rfl) (tfK_game hez241) ?_
        refine sb_aload_n rfl ?_
        refine sb_aload_n rfl ?_
        refine sb_iload_n rfl ?_
        refine sb_iconst cI1 ?_
        refine sb_iadd ?_
        obtain ⟨hgz243, h⟩ := gd h
        refine sb_icld 2 (by decide) hgz243 ?_
        obtain ⟨qz245, hez244, h⟩ := bd h
        refine sb_callVi 1 rfl oX12_game ln13_152 vX12_game (rc_own h217.1 (S_lt h217.2) (by decide)) (rnCk_of (by decide +kernel) rfl) (tfM_game hez244) ?_
        rcases ife h with ⟨cz363, h⟩ | ⟨cz363, h⟩
        · refine sb_icmp_eq_t 1286 cz363 (by decide) ?_
          exact rn_sub [0, 1, 2, 3] rfl (hJ1286 _ _ h)
        · refine sb_icmp_eq_f 1286 cz363 (by decide) ?_
          cases h
          exact rn_sub [] rfl hc
      rcases ife h with ⟨cz364, h⟩ | ⟨cz364, h⟩
      · refine sb_tsw_in (off := 1178) 33 1211 cz364 (by decide +kernel) ?_
        refine sb_in [(1211, .aload_n 1, 1), (1212, .invokevirtual 153, 3), (1215, .aload_n 2, 1), (1216, .invokevirtual 157, 3), (1219, .if_icmp .eq 67, 3)] 1222 (by decide +kernel) ?_
        refine sb_aload_n rfl ?_
        obtain ⟨qz247, hez246, h⟩ := bd h
        refine sb_callVi 0 rfl oX11_undo ln13_153 vX11_undo (rc_own h0.1 (S_lt h0.2) (by decide)) (rnCk_of (by decide +kernel) rfl) (tfK_undo hez246) ?_
        refine sb_aload_n rfl ?_
        obtain ⟨qz249, hez248, h⟩ := bd h
        refine sb_callVi 0 rfl oX12_undo ln13_157 vX12_undo (rc_own h217.1 (S_lt h217.2) (by decide)) (rnCk_of (by decide +kernel) rfl) (tfM_undo hez248) ?_
        rcases ife h with ⟨cz365, h⟩ | ⟨cz365, h⟩
        · refine sb_icmp_eq_t 1286 cz365 (by decide) ?_
          exact rn_sub [0, 1, 2, 3] rfl (hJ1286 _ _ h)
        · refine sb_icmp_eq_f 1286 cz365 (by decide) ?_
          cases h
          exact rn_sub [] rfl hc
      rcases ife h with ⟨cz366, h⟩ | ⟨cz366, h⟩
      · refine sb_tsw_in (off := 1191) 34 1224 cz366 (by decide +kernel) ?_
        refine sb_in [(1224, .aload_n 1, 1), (1225, .aload_n 0, 1), (1226, .iload_n 3, 1), (1227, .iconst 1, 1), (1228, .iadd, 1), (1229, .iaload, 1), (1230, .ifCond .eq 7, 3)] 1233 (by decide +kernel) ?_
        refine sb_aload_n rfl ?_
        refine sb_aload_n rfl ?_
        refine sb_iload_n rfl ?_
        refine sb_iconst cI1 ?_
        refine sb_iadd ?_
        obtain ⟨hgz250, h⟩ := gd h
        refine sb_icld 2 (by decide) hgz250 ?_
        have hJ1238 : RN ((L, xs) : Px) 13 kL_law 1238 [(0, .ref 1002), (1, .ref 0), (2, .ref 217), (3, .int x3)] [.int (if (xs (jix (x3 + 1))) = 0 then (0 : Int32) else 1), .ref 0] (S M) r := by
          refine sb_in [(1238, .invokevirtual 158, 3), (1241, .aload_n 2, 1), (1242, .aload_n 0, 1), (1243, .iload_n 3, 1), (1244, .iconst 1, 1), (1245, .iadd, 1), (1246, .iaload, 1), (1247, .ifCond .eq 7, 3)] 1250 (by decide +kernel) ?_
          obtain ⟨qz252, hez251, h⟩ := bd h
          refine sb_callVi 1 rfl oX11_image ln13_158 vX11_image (rc_own h0.1 (S_lt h0.2) (by decide)) (rnCk_of (by decide +kernel) rfl) (tfK_image hez251) ?_
          refine sb_aload_n rfl ?_
          refine sb_aload_n rfl ?_
          refine sb_iload_n rfl ?_
          refine sb_iconst cI1 ?_
          refine sb_iadd ?_
          obtain ⟨hgz253, h⟩ := gd h
          refine sb_icld 2 (by decide) hgz253 ?_
          have hJ1255 : RN ((L, xs) : Px) 13 kL_law 1255 [(0, .ref 1002), (1, .ref 0), (2, .ref 217), (3, .int x3)] [.int (if (xs (jix (x3 + 1))) = 0 then (0 : Int32) else 1), .ref 217, .int qz252.1] (S qz252.2) r := by
            refine sb_in [(1255, .invokevirtual 162, 3), (1258, .if_icmp .eq 28, 3)] 1261 (by decide +kernel) ?_
            obtain ⟨qz255, hez254, h⟩ := bd h
            refine sb_callVi 1 rfl oX12_image ln13_162 vX12_image (rc_own h217.1 (S_lt h217.2) (by decide)) (rnCk_of (by decide +kernel) rfl) (tfM_image hez254) ?_
            rcases ife h with ⟨cz367, h⟩ | ⟨cz367, h⟩
            · refine sb_icmp_eq_t 1286 cz367 (by decide) ?_
              exact rn_sub [0, 1, 2, 3] rfl (hJ1286 _ _ h)
            · refine sb_icmp_eq_f 1286 cz367 (by decide) ?_
              cases h
              exact rn_sub [] rfl hc
          rcases Decidable.em ((xs (jix (x3 + 1))) = 0) with cz368 | cz368
          · refine sb_if_eq_t 1254 cz368 (by decide) ?_
            refine sb_in [(1254, .iconst 0, 1)] 1255 (by decide +kernel) ?_
            refine sb_iconst cI0 ?_
            refine sb_end ?_
            have hq := hJ1255
            simp only [if_pos cz368] at hq
            exact rn_sub [0, 1, 2, 3] rfl hq
          · refine sb_if_eq_f 1254 cz368 (by decide) ?_
            refine sb_in [(1250, .iconst 1, 1), (1251, .goto 4, 3)] 1254 (by decide +kernel) ?_
            refine sb_iconst cI1 ?_
            refine sb_goto 1255 (by decide) ?_
            have hq := hJ1255
            simp only [if_neg cz368] at hq
            exact rn_sub [0, 1, 2, 3] rfl hq
        rcases Decidable.em ((xs (jix (x3 + 1))) = 0) with cz369 | cz369
        · refine sb_if_eq_t 1237 cz369 (by decide) ?_
          refine sb_in [(1237, .iconst 0, 1)] 1238 (by decide +kernel) ?_
          refine sb_iconst cI0 ?_
          refine sb_end ?_
          have hq := hJ1238
          simp only [if_pos cz369] at hq
          exact rn_sub [0, 1, 2, 3] rfl hq
        · refine sb_if_eq_f 1237 cz369 (by decide) ?_
          refine sb_in [(1233, .iconst 1, 1), (1234, .goto 4, 3)] 1237 (by decide +kernel) ?_
          refine sb_iconst cI1 ?_
          refine sb_goto 1238 (by decide) ?_
          have hq := hJ1238
          simp only [if_neg cz369] at hq
          exact rn_sub [0, 1, 2, 3] rfl hq
      rcases ife h with ⟨cz370, h⟩ | ⟨cz370, h⟩
      · refine sb_tsw_in (off := 1230) 35 1263 cz370 (by decide +kernel) ?_
        refine sb_in [(1263, .aload_n 1, 1), (1264, .aload_n 0, 1), (1265, .iload_n 3, 1), (1266, .iconst 1, 1), (1267, .iadd, 1), (1268, .iaload, 1), (1269, .invokevirtual 163, 3), (1272, .aload_n 2, 1), (1273, .aload_n 0, 1), (1274, .iload_n 3, 1), (1275, .iconst 1, 1), (1276, .iadd, 1), (1277, .iaload, 1), (1278, .invokevirtual 166, 3), (1281, .if_icmp .eq 5, 3)] 1284 (by decide +kernel) ?_
        refine sb_aload_n rfl ?_
        refine sb_aload_n rfl ?_
        refine sb_iload_n rfl ?_
        refine sb_iconst cI1 ?_
        refine sb_iadd ?_
        obtain ⟨hgz256, h⟩ := gd h
        refine sb_icld 2 (by decide) hgz256 ?_
        refine sb_callVi 1 rfl oX11_look ln13_163 vX11_look (rc_own h0.1 (S_lt h0.2) (by decide)) (rnCk_of (by decide +kernel) rfl) (tfK_look) ?_
        refine sb_aload_n rfl ?_
        refine sb_aload_n rfl ?_
        refine sb_iload_n rfl ?_
        refine sb_iconst cI1 ?_
        refine sb_iadd ?_
        obtain ⟨hgz258, h⟩ := gd h
        refine sb_icld 2 (by decide) hgz258 ?_
        refine sb_callVi 1 rfl oX12_look ln13_166 vX12_look (rc_own h217.1 (S_lt h217.2) (by decide)) (rnCk_of (by decide +kernel) rfl) (tfM_look) ?_
        rcases ife h with ⟨cz371, h⟩ | ⟨cz371, h⟩
        · refine sb_icmp_eq_t 1286 cz371 (by decide) ?_
          exact rn_sub [0, 1, 2, 3] rfl (hJ1286 _ _ h)
        · refine sb_icmp_eq_f 1286 cz371 (by decide) ?_
          cases h
          exact rn_sub [] rfl hc
      refine sb_tsw_out 0 36 1286 ((lt_s (lt_s (lt_s (lt_s (lt_s (lt_s (lt_s (lt_s (lt_s (lt_s (lt_s (lt_s (lt_s (lt_s (lt_s (lt_s (lt_s (lt_s (lt_s (lt_s (lt_s (lt_s (lt_s (lt_s (lt_s (lt_s (lt_s (lt_s (lt_s (lt_s (lt_s (lt_s (lt_s (lt_s (lt_s (lt_s lt_0 cz298) cz300) cz302) cz304) cz306) cz308) cz310) cz312) cz314) cz316) cz318) cz320) cz322) cz324) cz326) cz328) cz330) cz332) cz334) cz336) cz338) cz340) cz342) cz344) cz346) cz348) cz350) cz352) cz354) cz356) cz358) cz360) cz362) cz364) cz366) cz370)) (by decide +kernel) ?_
      exact rn_sub [0, 1, 2, 3] rfl (hJ1286 _ _ h)
  · clear hl18
    rcases e18 with e18 | e18 | e18 | e18 | e18 | e18 | e18 | e18 | e18 | e18 | e18 | e18 | e18 | e18 | e18 | e18 | e18 | e18 | e18 | e18 | e18 | e18 | e18 | e18 | e18 | e18 | e18 | e18 | e18 | e18 | e18 | e18 | e18 | e18 | e18 | e18 | e18
    · skip
      obtain ⟨Mz260, hey⟩ : ∃ z, z = e18 := ⟨_, rfl⟩
      subst hey
      show RN ((L, xs) : Px) 13 kL_law 213 [] [] (S Mz260) r
      refine sb_in [(213, .iconst 0, 1), (214, .ireturn, 1)] 215 (by decide +kernel) ?_
      refine sb_iconst cI0 ?_
      cases h
      subst hr
      refine sb_ireturn ?_
      exact ⟨.boolean, rfl, by decide⟩
    · skip
      obtain ⟨Mz261, hey⟩ : ∃ z, z = e18 := ⟨_, rfl⟩
      subst hey
      show RN ((L, xs) : Px) 13 kL_law 256 [] [] (S Mz261) r
      refine sb_in [(256, .iconst 0, 1), (257, .ireturn, 1)] 258 (by decide +kernel) ?_
      refine sb_iconst cI0 ?_
      cases h
      subst hr
      refine sb_ireturn ?_
      exact ⟨.boolean, rfl, by decide⟩
    · skip
      obtain ⟨Mz262, hey⟩ : ∃ z, z = e18 := ⟨_, rfl⟩
      subst hey
      show RN ((L, xs) : Px) 13 kL_law 299 [] [] (S Mz262) r
      refine sb_in [(299, .iconst 0, 1), (300, .ireturn, 1)] 301 (by decide +kernel) ?_
      refine sb_iconst cI0 ?_
      cases h
      subst hr
      refine sb_ireturn ?_
      exact ⟨.boolean, rfl, by decide⟩
    · skip
      obtain ⟨Mz263, hey⟩ : ∃ z, z = e18 := ⟨_, rfl⟩
      subst hey
      show RN ((L, xs) : Px) 13 kL_law 342 [] [] (S Mz263) r
      refine sb_in [(342, .iconst 0, 1), (343, .ireturn, 1)] 344 (by decide +kernel) ?_
      refine sb_iconst cI0 ?_
      cases h
      subst hr
      refine sb_ireturn ?_
      exact ⟨.boolean, rfl, by decide⟩
    · skip
      obtain ⟨Mz264, hey⟩ : ∃ z, z = e18 := ⟨_, rfl⟩
      subst hey
      show RN ((L, xs) : Px) 13 kL_law 365 [] [] (S Mz264) r
      refine sb_in [(365, .iconst 0, 1), (366, .ireturn, 1)] 367 (by decide +kernel) ?_
      refine sb_iconst cI0 ?_
      cases h
      subst hr
      refine sb_ireturn ?_
      exact ⟨.boolean, rfl, by decide⟩
    · skip
      obtain ⟨Mz265, hey⟩ : ∃ z, z = e18 := ⟨_, rfl⟩
      subst hey
      show RN ((L, xs) : Px) 13 kL_law 388 [] [] (S Mz265) r
      refine sb_in [(388, .iconst 0, 1), (389, .ireturn, 1)] 390 (by decide +kernel) ?_
      refine sb_iconst cI0 ?_
      cases h
      subst hr
      refine sb_ireturn ?_
      exact ⟨.boolean, rfl, by decide⟩
    · skip
      obtain ⟨Mz266, hey⟩ : ∃ z, z = e18 := ⟨_, rfl⟩
      subst hey
      show RN ((L, xs) : Px) 13 kL_law 411 [] [] (S Mz266) r
      refine sb_in [(411, .iconst 0, 1), (412, .ireturn, 1)] 413 (by decide +kernel) ?_
      refine sb_iconst cI0 ?_
      cases h
      subst hr
      refine sb_ireturn ?_
      exact ⟨.boolean, rfl, by decide⟩
    · skip
      obtain ⟨Mz267, hey⟩ : ∃ z, z = e18 := ⟨_, rfl⟩
      subst hey
      show RN ((L, xs) : Px) 13 kL_law 474 [] [] (S Mz267) r
      refine sb_in [(474, .iconst 0, 1), (475, .ireturn, 1)] 476 (by decide +kernel) ?_
      refine sb_iconst cI0 ?_
      cases h
      subst hr
      refine sb_ireturn ?_
      exact ⟨.boolean, rfl, by decide⟩
    · skip
      obtain ⟨Mz268, hey⟩ : ∃ z, z = e18 := ⟨_, rfl⟩
      subst hey
      show RN ((L, xs) : Px) 13 kL_law 497 [] [] (S Mz268) r
      refine sb_in [(497, .iconst 0, 1), (498, .ireturn, 1)] 499 (by decide +kernel) ?_
      refine sb_iconst cI0 ?_
      cases h
      subst hr
      refine sb_ireturn ?_
      exact ⟨.boolean, rfl, by decide⟩
    · skip
      obtain ⟨Mz269, hey⟩ : ∃ z, z = e18 := ⟨_, rfl⟩
      subst hey
      show RN ((L, xs) : Px) 13 kL_law 520 [] [] (S Mz269) r
      refine sb_in [(520, .iconst 0, 1), (521, .ireturn, 1)] 522 (by decide +kernel) ?_
      refine sb_iconst cI0 ?_
      cases h
      subst hr
      refine sb_ireturn ?_
      exact ⟨.boolean, rfl, by decide⟩
    · skip
      obtain ⟨Mz270, hey⟩ : ∃ z, z = e18 := ⟨_, rfl⟩
      subst hey
      show RN ((L, xs) : Px) 13 kL_law 543 [] [] (S Mz270) r
      refine sb_in [(543, .iconst 0, 1), (544, .ireturn, 1)] 545 (by decide +kernel) ?_
      refine sb_iconst cI0 ?_
      cases h
      subst hr
      refine sb_ireturn ?_
      exact ⟨.boolean, rfl, by decide⟩
    · skip
      obtain ⟨Mz271, hey⟩ : ∃ z, z = e18 := ⟨_, rfl⟩
      subst hey
      show RN ((L, xs) : Px) 13 kL_law 576 [] [] (S Mz271) r
      refine sb_in [(576, .iconst 0, 1), (577, .ireturn, 1)] 578 (by decide +kernel) ?_
      refine sb_iconst cI0 ?_
      cases h
      subst hr
      refine sb_ireturn ?_
      exact ⟨.boolean, rfl, by decide⟩
    · skip
      obtain ⟨Mz272, hey⟩ : ∃ z, z = e18 := ⟨_, rfl⟩
      subst hey
      show RN ((L, xs) : Px) 13 kL_law 609 [] [] (S Mz272) r
      refine sb_in [(609, .iconst 0, 1), (610, .ireturn, 1)] 611 (by decide +kernel) ?_
      refine sb_iconst cI0 ?_
      cases h
      subst hr
      refine sb_ireturn ?_
      exact ⟨.boolean, rfl, by decide⟩
    · skip
      obtain ⟨Mz273, hey⟩ : ∃ z, z = e18 := ⟨_, rfl⟩
      subst hey
      show RN ((L, xs) : Px) 13 kL_law 632 [] [] (S Mz273) r
      refine sb_in [(632, .iconst 0, 1), (633, .ireturn, 1)] 634 (by decide +kernel) ?_
      refine sb_iconst cI0 ?_
      cases h
      subst hr
      refine sb_ireturn ?_
      exact ⟨.boolean, rfl, by decide⟩
    · skip
      obtain ⟨Mz274, hey⟩ : ∃ z, z = e18 := ⟨_, rfl⟩
      subst hey
      show RN ((L, xs) : Px) 13 kL_law 665 [] [] (S Mz274) r
      refine sb_in [(665, .iconst 0, 1), (666, .ireturn, 1)] 667 (by decide +kernel) ?_
      refine sb_iconst cI0 ?_
      cases h
      subst hr
      refine sb_ireturn ?_
      exact ⟨.boolean, rfl, by decide⟩
    · skip
      obtain ⟨Mz275, hey⟩ : ∃ z, z = e18 := ⟨_, rfl⟩
      subst hey
      show RN ((L, xs) : Px) 13 kL_law 698 [] [] (S Mz275) r
      refine sb_in [(698, .iconst 0, 1), (699, .ireturn, 1)] 700 (by decide +kernel) ?_
      refine sb_iconst cI0 ?_
      cases h
      subst hr
      refine sb_ireturn ?_
      exact ⟨.boolean, rfl, by decide⟩
    · skip
      obtain ⟨Mz276, hey⟩ : ∃ z, z = e18 := ⟨_, rfl⟩
      subst hey
      show RN ((L, xs) : Px) 13 kL_law 731 [] [] (S Mz276) r
      refine sb_in [(731, .iconst 0, 1), (732, .ireturn, 1)] 733 (by decide +kernel) ?_
      refine sb_iconst cI0 ?_
      cases h
      subst hr
      refine sb_ireturn ?_
      exact ⟨.boolean, rfl, by decide⟩
    · skip
      obtain ⟨Mz277, hey⟩ : ∃ z, z = e18 := ⟨_, rfl⟩
      subst hey
      show RN ((L, xs) : Px) 13 kL_law 754 [] [] (S Mz277) r
      refine sb_in [(754, .iconst 0, 1), (755, .ireturn, 1)] 756 (by decide +kernel) ?_
      refine sb_iconst cI0 ?_
      cases h
      subst hr
      refine sb_ireturn ?_
      exact ⟨.boolean, rfl, by decide⟩
    · skip
      obtain ⟨Mz278, hey⟩ : ∃ z, z = e18 := ⟨_, rfl⟩
      subst hey
      show RN ((L, xs) : Px) 13 kL_law 787 [] [] (S Mz278) r
      refine sb_in [(787, .iconst 0, 1), (788, .ireturn, 1)] 789 (by decide +kernel) ?_
      refine sb_iconst cI0 ?_
      cases h
      subst hr
      refine sb_ireturn ?_
      exact ⟨.boolean, rfl, by decide⟩
    · skip
      obtain ⟨Mz279, hey⟩ : ∃ z, z = e18 := ⟨_, rfl⟩
      subst hey
      show RN ((L, xs) : Px) 13 kL_law 820 [] [] (S Mz279) r
      refine sb_in [(820, .iconst 0, 1), (821, .ireturn, 1)] 822 (by decide +kernel) ?_
      refine sb_iconst cI0 ?_
      cases h
      subst hr
      refine sb_ireturn ?_
      exact ⟨.boolean, rfl, by decide⟩
    · skip
      obtain ⟨Mz280, hey⟩ : ∃ z, z = e18 := ⟨_, rfl⟩
      subst hey
      show RN ((L, xs) : Px) 13 kL_law 863 [] [] (S Mz280) r
      refine sb_in [(863, .iconst 0, 1), (864, .ireturn, 1)] 865 (by decide +kernel) ?_
      refine sb_iconst cI0 ?_
      cases h
      subst hr
      refine sb_ireturn ?_
      exact ⟨.boolean, rfl, by decide⟩
    · skip
      obtain ⟨Mz281, hey⟩ : ∃ z, z = e18 := ⟨_, rfl⟩
      subst hey
      show RN ((L, xs) : Px) 13 kL_law 886 [] [] (S Mz281) r
      refine sb_in [(886, .iconst 0, 1), (887, .ireturn, 1)] 888 (by decide +kernel) ?_
      refine sb_iconst cI0 ?_
      cases h
      subst hr
      refine sb_ireturn ?_
      exact ⟨.boolean, rfl, by decide⟩
    · skip
      obtain ⟨Mz282, hey⟩ : ∃ z, z = e18 := ⟨_, rfl⟩
      subst hey
      show RN ((L, xs) : Px) 13 kL_law 939 [] [] (S Mz282) r
      refine sb_in [(939, .iconst 0, 1), (940, .ireturn, 1)] 941 (by decide +kernel) ?_
      refine sb_iconst cI0 ?_
      cases h
      subst hr
      refine sb_ireturn ?_
      exact ⟨.boolean, rfl, by decide⟩
    · skip
      obtain ⟨Mz283, hey⟩ : ∃ z, z = e18 := ⟨_, rfl⟩
      subst hey
      show RN ((L, xs) : Px) 13 kL_law 972 [] [] (S Mz283) r
      refine sb_in [(972, .iconst 0, 1), (973, .ireturn, 1)] 974 (by decide +kernel) ?_
      refine sb_iconst cI0 ?_
      cases h
      subst hr
      refine sb_ireturn ?_
      exact ⟨.boolean, rfl, by decide⟩
    · skip
      obtain ⟨Mz284, hey⟩ : ∃ z, z = e18 := ⟨_, rfl⟩
      subst hey
      show RN ((L, xs) : Px) 13 kL_law 995 [] [] (S Mz284) r
      refine sb_in [(995, .iconst 0, 1), (996, .ireturn, 1)] 997 (by decide +kernel) ?_
      refine sb_iconst cI0 ?_
      cases h
      subst hr
      refine sb_ireturn ?_
      exact ⟨.boolean, rfl, by decide⟩
    · skip
      obtain ⟨Mz285, hey⟩ : ∃ z, z = e18 := ⟨_, rfl⟩
      subst hey
      show RN ((L, xs) : Px) 13 kL_law 1018 [] [] (S Mz285) r
      refine sb_in [(1018, .iconst 0, 1), (1019, .ireturn, 1)] 1020 (by decide +kernel) ?_
      refine sb_iconst cI0 ?_
      cases h
      subst hr
      refine sb_ireturn ?_
      exact ⟨.boolean, rfl, by decide⟩
    · skip
      obtain ⟨Mz286, hey⟩ : ∃ z, z = e18 := ⟨_, rfl⟩
      subst hey
      show RN ((L, xs) : Px) 13 kL_law 1051 [] [] (S Mz286) r
      refine sb_in [(1051, .iconst 0, 1), (1052, .ireturn, 1)] 1053 (by decide +kernel) ?_
      refine sb_iconst cI0 ?_
      cases h
      subst hr
      refine sb_ireturn ?_
      exact ⟨.boolean, rfl, by decide⟩
    · skip
      obtain ⟨Mz287, hey⟩ : ∃ z, z = e18 := ⟨_, rfl⟩
      subst hey
      show RN ((L, xs) : Px) 13 kL_law 1084 [] [] (S Mz287) r
      refine sb_in [(1084, .iconst 0, 1), (1085, .ireturn, 1)] 1086 (by decide +kernel) ?_
      refine sb_iconst cI0 ?_
      cases h
      subst hr
      refine sb_ireturn ?_
      exact ⟨.boolean, rfl, by decide⟩
    · skip
      obtain ⟨Mz288, hey⟩ : ∃ z, z = e18 := ⟨_, rfl⟩
      subst hey
      show RN ((L, xs) : Px) 13 kL_law 1107 [] [] (S Mz288) r
      refine sb_in [(1107, .iconst 0, 1), (1108, .ireturn, 1)] 1109 (by decide +kernel) ?_
      refine sb_iconst cI0 ?_
      cases h
      subst hr
      refine sb_ireturn ?_
      exact ⟨.boolean, rfl, by decide⟩
    · skip
      obtain ⟨Mz289, hey⟩ : ∃ z, z = e18 := ⟨_, rfl⟩
      subst hey
      show RN ((L, xs) : Px) 13 kL_law 1140 [] [] (S Mz289) r
      refine sb_in [(1140, .iconst 0, 1), (1141, .ireturn, 1)] 1142 (by decide +kernel) ?_
      refine sb_iconst cI0 ?_
      cases h
      subst hr
      refine sb_ireturn ?_
      exact ⟨.boolean, rfl, by decide⟩
    · skip
      obtain ⟨Mz290, hey⟩ : ∃ z, z = e18 := ⟨_, rfl⟩
      subst hey
      show RN ((L, xs) : Px) 13 kL_law 1163 [] [] (S Mz290) r
      refine sb_in [(1163, .iconst 0, 1), (1164, .ireturn, 1)] 1165 (by decide +kernel) ?_
      refine sb_iconst cI0 ?_
      cases h
      subst hr
      refine sb_ireturn ?_
      exact ⟨.boolean, rfl, by decide⟩
    · skip
      obtain ⟨Mz291, hey⟩ : ∃ z, z = e18 := ⟨_, rfl⟩
      subst hey
      show RN ((L, xs) : Px) 13 kL_law 1186 [] [] (S Mz291) r
      refine sb_in [(1186, .iconst 0, 1), (1187, .ireturn, 1)] 1188 (by decide +kernel) ?_
      refine sb_iconst cI0 ?_
      cases h
      subst hr
      refine sb_ireturn ?_
      exact ⟨.boolean, rfl, by decide⟩
    · skip
      obtain ⟨Mz292, hey⟩ : ∃ z, z = e18 := ⟨_, rfl⟩
      subst hey
      show RN ((L, xs) : Px) 13 kL_law 1209 [] [] (S Mz292) r
      refine sb_in [(1209, .iconst 0, 1), (1210, .ireturn, 1)] 1211 (by decide +kernel) ?_
      refine sb_iconst cI0 ?_
      cases h
      subst hr
      refine sb_ireturn ?_
      exact ⟨.boolean, rfl, by decide⟩
    · skip
      obtain ⟨Mz293, hey⟩ : ∃ z, z = e18 := ⟨_, rfl⟩
      subst hey
      show RN ((L, xs) : Px) 13 kL_law 1222 [] [] (S Mz293) r
      refine sb_in [(1222, .iconst 0, 1), (1223, .ireturn, 1)] 1224 (by decide +kernel) ?_
      refine sb_iconst cI0 ?_
      cases h
      subst hr
      refine sb_ireturn ?_
      exact ⟨.boolean, rfl, by decide⟩
    · skip
      obtain ⟨Mz294, hey⟩ : ∃ z, z = e18 := ⟨_, rfl⟩
      subst hey
      show RN ((L, xs) : Px) 13 kL_law 1261 [] [] (S Mz294) r
      refine sb_in [(1261, .iconst 0, 1), (1262, .ireturn, 1)] 1263 (by decide +kernel) ?_
      refine sb_iconst cI0 ?_
      cases h
      subst hr
      refine sb_ireturn ?_
      exact ⟨.boolean, rfl, by decide⟩
    · skip
      obtain ⟨Mz295, hey⟩ : ∃ z, z = e18 := ⟨_, rfl⟩
      subst hey
      show RN ((L, xs) : Px) 13 kL_law 1284 [] [] (S Mz295) r
      refine sb_in [(1284, .iconst 0, 1), (1285, .ireturn, 1)] 1286 (by decide +kernel) ?_
      refine sb_iconst cI0 ?_
      cases h
      subst hr
      refine sb_ireturn ?_
      exact ⟨.boolean, rfl, by decide⟩
    · skip
      obtain ⟨Mz296, hey⟩ : ∃ z, z = e18 := ⟨_, rfl⟩
      subst hey
      show RN ((L, xs) : Px) 13 kL_law 1292 [] [] (S Mz296) r
      refine sb_in [(1292, .iconst 1, 1), (1293, .ireturn, 1)] 1294 (by decide +kernel) ?_
      refine sb_iconst cI1 ?_
      cases h
      subst hr
      refine sb_ireturn ?_
      exact ⟨.boolean, rfl, by decide⟩
end RnT
