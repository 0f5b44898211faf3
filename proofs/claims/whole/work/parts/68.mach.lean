section RnT
set_option maxRecDepth 20000 in
theorem nfM_bears {P : Px} {x1 : Int32} {x2 : Int32} {M : Mm} {rr : (Int32 × Mm)} (h : fM_bears x1 x2 M = some rr) {r : Option Value × Sg} (hr : r = (some (.int rr.1), S rr.2)) : RN P 4 kX12_bears 0 [(0, .ref 217), (1, .int x1), (2, .int x2)] [] (S M) r := by
  unfold fM_bears at h
  refine sb_in [(0, .aload_n 0, 1), (1, .iconst 0, 1), (2, .putfield 116, 3), (5, .aload_n 0, 1), (6, .iload_n 1, 1), (7, .iconst 1, 1), (8, .bipush 99, 2), (10, .invokevirtual 143, 3), (13, .ifCond .eq 13, 3)] 16 (by decide +kernel) ?_
  refine sb_aload_n rfl ?_
  refine sb_iconst cI0 ?_
  refine ss_putI p12_116 h217 (by decide) ?_
  refine sb_aload_n rfl ?_
  refine sb_iload_n rfl ?_
  refine sb_iconst cI1 ?_
  refine sb_bipush cB99 ?_
  refine sb_callVi 3 rfl oX12_isIn ln12_143 vX12_isIn (rc_own h217.1 (S_lt h217.2) (by decide)) (rnCk_of (by decide +kernel) rfl) (tfM_isIn) ?_
  rcases ife h with ⟨cz11, h⟩ | ⟨cz11, h⟩
  · refine sb_if_eq_t 26 cz11 (by decide) ?_
    refine sb_in [(26, .iconst (-1), 1), (27, .ireturn, 1)] 28 (by decide +kernel) ?_
    refine sb_iconst cIm1 ?_
    cases h
    subst hr
    refine sb_ireturn ?_
    exact ⟨.int, rfl, rfl⟩
  · refine sb_if_eq_f 26 cz11 (by decide) ?_
    refine sb_in [(16, .aload_n 0, 1), (17, .iload_n 2, 1), (18, .iconst 0, 1), (19, .iconst 1, 1), (20, .invokevirtual 143, 3), (23, .ifCond .ne 5, 3)] 26 (by decide +kernel) ?_
    refine sb_aload_n rfl ?_
    refine sb_iload_n rfl ?_
    refine sb_iconst cI0 ?_
    refine sb_iconst cI1 ?_
    refine sb_callVi 3 rfl oX12_isIn ln12_143 vX12_isIn (rc_own h217.1 (S_lt h217.2) (by decide)) (rnCk_of (by decide +kernel) rfl) (tfM_isIn) ?_
    rcases ife h with ⟨cz12, h⟩ | ⟨cz12, h⟩
    · refine sb_if_ne_f 28 cz12 (by decide) ?_
      refine sb_in [(26, .iconst (-1), 1), (27, .ireturn, 1)] 28 (by decide +kernel) ?_
      refine sb_iconst cIm1 ?_
      cases h
      subst hr
      refine sb_ireturn ?_
      exact ⟨.int, rfl, rfl⟩
    · refine sb_if_ne_t 28 cz12 (by decide) ?_
      refine sb_in [(28, .iload_n 2, 1), (29, .iconst 1, 1), (30, .if_icmp .ne 10, 3)] 33 (by decide +kernel) ?_
      refine sb_iload_n rfl ?_
      refine sb_iconst cI1 ?_
      rcases ife h with ⟨cz13, h⟩ | ⟨cz13, h⟩
      · refine sb_icmp_ne_f 40 cz13 (by decide) ?_
        refine sb_in [(33, .aload_n 0, 1), (34, .iload_n 1, 1), (35, .iconst (-1), 1), (36, .invokevirtual 427, 3), (39, .ireturn, 1)] 40 (by decide +kernel) ?_
        refine sb_aload_n rfl ?_
        refine sb_iload_n rfl ?_
        refine sb_iconst cIm1 ?_
        obtain ⟨qz10, hez9, h⟩ := bd h
        refine sb_callVi 2 rfl oX12_mostLeft ln12_427 vX12_mostLeft (rc_own h217.1 (S_lt h217.2) (by decide)) (rnCk_of (by decide +kernel) rfl) (tfM_mostLeft hez9) ?_
        cases h
        subst hr
        refine sb_ireturn ?_
        exact ⟨.int, rfl, rfl⟩
      · refine sb_icmp_ne_t 40 cz13 (by decide) ?_
        refine sb_in [(40, .iconst 0, 1), (41, .istore_n 3, 1)] 42 (by decide +kernel) ?_
        refine sb_iconst cI0 ?_
        refine sb_istore_n (by decide) rfl ?_
        refine sb_end ?_
        obtain ⟨e42, hl42, h⟩ := bd h
        refine rn_sub [0, 1, 3] rfl ?_
        refine lp_ind (P := fun s => RN P 4 kX12_bears 42 [(0, .ref 217), (1, .int x1), (3, .int s.1)] [] (S s.2) r) (E := fun e => match e with | Sum.inl p => RN P 4 kX12_bears 60 [(3, .int p.1)] [] (S p.2) r | Sum.inr p => RN P 4 kX12_bears 68 [] [] (S p) r) ?_ _ _ _ hl42 ?_
        · intro s qx h hc
          obtain ⟨x3, M⟩ := s
          replace h : fM_bears_b42 x1 x3 M = some qx := h
          show RN P 4 kX12_bears 42 [(0, .ref 217), (1, .int x1), (3, .int x3)] [] (S M) r
          unfold fM_bears_b42 at h
          refine sb_in [(42, .iload_n 3, 1), (43, .aload_n 0, 1), (44, .getfield 421, 3), (47, .if_icmp .ge 21, 3)] 50 (by decide +kernel) ?_
          refine sb_iload_n rfl ?_
          refine sb_aload_n rfl ?_
          refine ss_getI g12_421 h217 ?_
          rcases ife h with ⟨cz14, h⟩ | ⟨cz14, h⟩
          · refine sb_icmp_ge_t 68 cz14 (by decide) ?_
            cases h
            exact rn_sub [] rfl hc
          · refine sb_icmp_ge_f 68 cz14 (by decide) ?_
            refine sb_in [(50, .aload_n 0, 1), (51, .iload_n 1, 1), (52, .iload_n 3, 1), (53, .invokevirtual 427, 3), (56, .iconst (-1), 1), (57, .if_icmp .eq 5, 3)] 60 (by decide +kernel) ?_
            refine sb_aload_n rfl ?_
            refine sb_iload_n rfl ?_
            refine sb_iload_n rfl ?_
            obtain ⟨qz5, hez4, h⟩ := bd h
            refine sb_callVi 2 rfl oX12_mostLeft ln12_427 vX12_mostLeft (rc_own h217.1 (S_lt h217.2) (by decide)) (rnCk_of (by decide +kernel) rfl) (tfM_mostLeft hez4) ?_
            refine sb_iconst cIm1 ?_
            rcases ife h with ⟨cz15, h⟩ | ⟨cz15, h⟩
            · refine sb_icmp_eq_t 62 cz15 (by decide) ?_
              refine sb_in [(62, .iinc 3 1, 3), (65, .goto (-23), 3)] 68 (by decide +kernel) ?_
              refine ss_iinc cI1 rfl (by decide) rfl ?_
              refine sb_goto 42 (by decide) ?_
              cases h
              exact rn_sub [0, 1, 3] rfl hc
            · refine sb_icmp_eq_f 62 cz15 (by decide) ?_
              cases h
              exact rn_sub [3] rfl hc
        · clear hl42
          rcases e42 with e42 | e42
          · skip
            obtain ⟨yz6, Mz7⟩ := e42
            show RN P 4 kX12_bears 60 [(3, .int yz6)] [] (S Mz7) r
            refine sb_in [(60, .iload_n 3, 1), (61, .ireturn, 1)] 62 (by decide +kernel) ?_
            refine sb_iload_n rfl ?_
            cases h
            subst hr
            refine sb_ireturn ?_
            exact ⟨.int, rfl, rfl⟩
          · skip
            obtain ⟨Mz8, hey⟩ : ∃ z, z = e42 := ⟨_, rfl⟩
            subst hey
            show RN P 4 kX12_bears 68 [] [] (S Mz8) r
            refine sb_in [(68, .iconst (-1), 1), (69, .ireturn, 1)] 70 (by decide +kernel) ?_
            refine sb_iconst cIm1 ?_
            cases h
            subst hr
            refine sb_ireturn ?_
            exact ⟨.int, rfl, rfl⟩
theorem tfM_bears {P : Px} {x1 : Int32} {x2 : Int32} {M : Mm} {rr : (Int32 × Mm)} (h : fM_bears x1 x2 M = some rr) : EX P 4 kX12_bears [.ref 217, .int x1, .int x2] (S M) (some (.int rr.1), S rr.2) := ex_of oX12_bears (Nat.le_of_ble_eq_true rfl) (nfM_bears  h rfl)
set_option maxRecDepth 20000 in
theorem nfM_findsCarried {P : Px} {x1 : Int32} {M : Mm} {rr : Mm} (h : fM_findsCarried x1 M = some rr) {r : Option Value × Sg} (hr : r = (none, S rr)) : RN P 2 kX12_findsCarried 0 [(0, .ref 217), (1, .int x1)] [] (S M) r := by
  unfold fM_findsCarried at h
  refine sb_in [(0, .iconst 0, 1), (1, .istore_n 2, 1)] 2 (by decide +kernel) ?_
  refine sb_iconst cI0 ?_
  refine sb_istore_n (by decide) rfl ?_
  refine sb_end ?_
  obtain ⟨e2, hl2, h⟩ := bd h
  refine rn_sub [0, 1, 2] rfl ?_
  refine lp_ind (P := fun s => RN P 2 kX12_findsCarried 2 [(0, .ref 217), (1, .int x1), (2, .int s.1)] [] (S s.2) r) (E := fun p => RN P 2 kX12_findsCarried 30 [(0, .ref 217), (1, .int x1)] [] (S p) r) ?_ _ _ _ hl2 ?_
  · intro s qx h hc
    obtain ⟨x2, M⟩ := s
    replace h : fM_findsCarried_b2 x1 x2 M = some qx := h
    show RN P 2 kX12_findsCarried 2 [(0, .ref 217), (1, .int x1), (2, .int x2)] [] (S M) r
    unfold fM_findsCarried_b2 at h
    refine sb_in [(2, .iload_n 2, 1), (3, .sipush 10025, 3), (6, .if_icmp .ge 24, 3)] 9 (by decide +kernel) ?_
    refine sb_iload_n rfl ?_
    refine sb_sipush cS10025 ?_
    rcases ife h with ⟨cz15, h⟩ | ⟨cz15, h⟩
    · refine sb_icmp_ge_t 30 cz15 (by decide) ?_
      cases h
      exact rn_sub [0, 1] rfl hc
    · refine sb_icmp_ge_f 30 cz15 (by decide) ?_
      refine sb_in [(9, .aload_n 0, 1), (10, .getfield 89, 3), (13, .iload_n 2, 1), (14, .iload_n 2, 1), (15, .ifCond .ne 7, 3)] 18 (by decide +kernel) ?_
      refine sb_aload_n rfl ?_
      refine ss_getR g12_89 h217 r217_48 ?_
      refine sb_iload_n rfl ?_
      refine sb_iload_n rfl ?_
      have hJ23 : RN P 2 kX12_findsCarried 23 [(0, .ref 217), (1, .int x1), (2, .int x2)] [.int (if x2 = 0 then (1 : Int32) else 0), .int x2, .ref 243] (S M) r := by
        refine sb_in [(23, .iastore, 1), (24, .iinc 2 1, 3), (27, .goto (-25), 3)] 30 (by decide +kernel) ?_
        obtain ⟨hgz2, h⟩ := gd h
        refine ss_iast h243 (by decide) hgz2 ?_
        refine ss_iinc cI1 rfl (by decide) rfl ?_
        refine sb_goto 2 (by decide) ?_
        cases h
        exact rn_sub [0, 1, 2] rfl hc
      rcases Decidable.em (x2 = 0) with cz16 | cz16
      · refine sb_if_ne_f 22 cz16 (by decide) ?_
        refine sb_in [(18, .iconst 1, 1), (19, .goto 4, 3)] 22 (by decide +kernel) ?_
        refine sb_iconst cI1 ?_
        refine sb_goto 23 (by decide) ?_
        have hq := hJ23
        simp only [if_pos cz16] at hq
        exact rn_sub [0, 1, 2] rfl hq
      · refine sb_if_ne_t 22 cz16 (by decide) ?_
        refine sb_in [(22, .iconst 0, 1)] 23 (by decide +kernel) ?_
        refine sb_iconst cI0 ?_
        refine sb_end ?_
        have hq := hJ23
        simp only [if_neg cz16] at hq
        exact rn_sub [0, 1, 2] rfl hq
  · clear hl2
    obtain ⟨Mz3, hey⟩ : ∃ z, z = e2 := ⟨_, rfl⟩
    subst hey
    show RN P 2 kX12_findsCarried 30 [(0, .ref 217), (1, .int x1)] [] (S Mz3) r
    refine sb_in [(30, .iconst 0, 1), (31, .istore_n 2, 1)] 32 (by decide +kernel) ?_
    refine sb_iconst cI0 ?_
    refine sb_istore_n (by decide) rfl ?_
    refine sb_end ?_
    obtain ⟨e32, hl32, h⟩ := bd h
    refine rn_sub [0, 1, 2] rfl ?_
    refine lp_ind (P := fun s => RN P 2 kX12_findsCarried 32 [(0, .ref 217), (1, .int x1), (2, .int s.1)] [] (S s.2) r) (E := fun p => RN P 2 kX12_findsCarried 147 [] [] (S p) r) ?_ _ _ _ hl32 ?_
    · intro s qx h hc
      obtain ⟨x2, M⟩ := s
      replace h : fM_findsCarried_b32 x1 x2 M = some qx := h
      show RN P 2 kX12_findsCarried 32 [(0, .ref 217), (1, .int x1), (2, .int x2)] [] (S M) r
      unfold fM_findsCarried_b32 at h
      refine sb_in [(32, .iload_n 2, 1), (33, .aload_n 0, 1), (34, .getfield 7, 3), (37, .bipush 10, 2), (39, .iaload, 1), (40, .if_icmp .ge 107, 3)] 43 (by decide +kernel) ?_
      refine sb_iload_n rfl ?_
      refine sb_aload_n rfl ?_
      refine ss_getR g12_7 h217 r217_1 ?_
      refine sb_bipush cB10 ?_
      refine ss_ialdL 10 h218 iL10 rfl ?_
      rcases ife h with ⟨cz17, h⟩ | ⟨cz17, h⟩
      · refine sb_icmp_ge_t 147 cz17 (by decide) ?_
        cases h
        exact rn_sub [] rfl hc
      · refine sb_icmp_ge_f 147 cz17 (by decide) ?_
        refine sb_in [(43, .aload_n 0, 1), (44, .getfield 7, 3), (47, .aload_n 0, 1), (48, .iload_n 2, 1), (49, .invokevirtual 136, 3), (52, .iconst 3, 1), (53, .iadd, 1), (54, .iaload, 1), (55, .istore_n 3, 1), (56, .iload_n 2, 1), (57, .istore 4, 2)] 59 (by decide +kernel) ?_
        refine sb_aload_n rfl ?_
        refine ss_getR g12_7 h217 r217_1 ?_
        refine sb_aload_n rfl ?_
        refine sb_iload_n rfl ?_
        refine sb_callVi 1 rfl oX12_letterAt ln12_136 vX12_letterAt (rc_own h217.1 (S_lt h217.2) (by decide)) (rnCk_of (by decide +kernel) rfl) (tfM_letterAt) ?_
        refine sb_iconst cI3 ?_
        refine sb_iadd ?_
        obtain ⟨hgz5, h⟩ := gd h
        refine ss_iald h218 hgz5 ?_
        refine sb_istore_n (by decide) rfl ?_
        refine sb_iload_n rfl ?_
        refine sb_istore (by decide) rfl ?_
        refine sb_end ?_
        obtain ⟨e59, hl59, h⟩ := bd h
        refine rn_sub [0, 1, 2, 3, 4] rfl ?_
        refine lp_ind (P := fun s => RN P 2 kX12_findsCarried 59 [(0, .ref 217), (1, .int x1), (2, .int x2), (3, .int ((M 218 (jix ((fM_letterAt x2) + 3))))), (4, .int s.1)] [] (S s.2) r) (E := fun p => RN P 2 kX12_findsCarried 141 [(0, .ref 217), (1, .int x1), (2, .int x2)] [] (S p) r) ?_ _ _ _ hl59 ?_
        · intro s qx h hc
          replace h : fM_findsCarried_b59 x1 x2 ((M 218 (jix ((fM_letterAt x2) + 3)))) s.1 s.2 = some qx := h
          show RN P 2 kX12_findsCarried 59 [(0, .ref 217), (1, .int x1), (2, .int x2), (3, .int ((M 218 (jix ((fM_letterAt x2) + 3))))), (4, .int s.1)] [] (S s.2) r
          generalize ((M 218 (jix ((fM_letterAt x2) + 3)))) = x3 at h hc ⊢
          obtain ⟨x4, M⟩ := s
          replace h : fM_findsCarried_b59 x1 x2 x3 x4 M = some qx := h
          show RN P 2 kX12_findsCarried 59 [(0, .ref 217), (1, .int x1), (2, .int x2), (3, .int x3), (4, .int x4)] [] (S M) r
          unfold fM_findsCarried_b59 at h
          refine sb_in [(59, .iload 4, 2), (61, .ifCond .lt 80, 3)] 64 (by decide +kernel) ?_
          refine sb_iload rfl ?_
          rcases ife h with ⟨cz18, h⟩ | ⟨cz18, h⟩
          · refine sb_if_lt_t 141 cz18 (by decide) ?_
            cases h
            exact rn_sub [0, 1, 2] rfl hc
          · refine sb_if_lt_f 141 cz18 (by decide) ?_
            refine sb_in [(64, .iconst 0, 1), (65, .istore 5, 2)] 67 (by decide +kernel) ?_
            refine sb_iconst cI0 ?_
            refine sb_istore (by decide) rfl ?_
            refine sb_end ?_
            obtain ⟨e67, hl67, h⟩ := bd h
            refine rn_sub [0, 1, 2, 3, 4, 5] rfl ?_
            refine lp_ind (P := fun s => RN P 2 kX12_findsCarried 67 [(0, .ref 217), (1, .int x1), (2, .int x2), (3, .int x3), (4, .int x4), (5, .int s.1)] [] (S s.2) r) (E := fun p => RN P 2 kX12_findsCarried 135 [(0, .ref 217), (1, .int x1), (2, .int x2), (3, .int x3), (4, .int x4)] [] (S p) r) ?_ _ _ _ hl67 ?_
            · intro s qx h hc
              obtain ⟨x5, M⟩ := s
              replace h : fM_findsCarried_b67 x1 x2 x3 x4 x5 M = some qx := h
              show RN P 2 kX12_findsCarried 67 [(0, .ref 217), (1, .int x1), (2, .int x2), (3, .int x3), (4, .int x4), (5, .int x5)] [] (S M) r
              unfold fM_findsCarried_b67 at h
              refine sb_in [(67, .iload 5, 2), (69, .iload_n 3, 1), (70, .iadd, 1), (71, .iload_n 1, 1), (72, .if_icmp .gt 63, 3)] 75 (by decide +kernel) ?_
              refine sb_iload rfl ?_
              refine sb_iload_n rfl ?_
              refine sb_iadd ?_
              refine sb_iload_n rfl ?_
              rcases ife h with ⟨cz19, h⟩ | ⟨cz19, h⟩
              · refine sb_icmp_gt_t 135 cz19 (by decide) ?_
                cases h
                exact rn_sub [0, 1, 2, 3, 4] rfl hc
              · refine sb_icmp_gt_f 135 cz19 (by decide) ?_
                refine sb_in [(75, .aload_n 0, 1), (76, .getfield 89, 3), (79, .sipush 401, 3), (82, .iload 4, 2), (84, .iconst 1, 1), (85, .iadd, 1), (86, .imul, 1), (87, .iload 5, 2), (89, .iadd, 1), (90, .iload_n 3, 1), (91, .iadd, 1), (92, .aload_n 0, 1), (93, .aload_n 0, 1), (94, .getfield 89, 3), (97, .sipush 401, 3), (100, .iload 4, 2), (102, .iconst 1, 1), (103, .iadd, 1), (104, .imul, 1), (105, .iload 5, 2), (107, .iadd, 1), (108, .iload_n 3, 1), (109, .iadd, 1), (110, .iaload, 1), (111, .aload_n 0, 1), (112, .getfield 89, 3), (115, .sipush 401, 3), (118, .iload 4, 2), (120, .imul, 1), (121, .iload 5, 2), (123, .iadd, 1), (124, .iaload, 1), (125, .invokevirtual 430, 3), (128, .iastore, 1), (129, .iinc 5 1, 3), (132, .goto (-65), 3)] 135 (by decide +kernel) ?_
                refine sb_aload_n rfl ?_
                refine ss_getR g12_89 h217 r217_48 ?_
                refine sb_sipush cS401 ?_
                refine sb_iload rfl ?_
                refine sb_iconst cI1 ?_
                refine sb_iadd ?_
                refine sb_imul ?_
                refine sb_iload rfl ?_
                refine sb_iadd ?_
                refine sb_iload_n rfl ?_
                refine sb_iadd ?_
                refine sb_aload_n rfl ?_
                refine sb_aload_n rfl ?_
                refine ss_getR g12_89 h217 r217_48 ?_
                refine sb_sipush cS401 ?_
                refine sb_iload rfl ?_
                refine sb_iconst cI1 ?_
                refine sb_iadd ?_
                refine sb_imul ?_
                refine sb_iload rfl ?_
                refine sb_iadd ?_
                refine sb_iload_n rfl ?_
                refine sb_iadd ?_
                obtain ⟨hgz7, h⟩ := gd h
                refine ss_iald h243 hgz7 ?_
                refine sb_aload_n rfl ?_
                refine ss_getR g12_89 h217 r217_48 ?_
                refine sb_sipush cS401 ?_
                refine sb_iload rfl ?_
                refine sb_imul ?_
                refine sb_iload rfl ?_
                refine sb_iadd ?_
                obtain ⟨hgz8, h⟩ := gd h
                refine ss_iald h243 hgz8 ?_
                refine sb_callVi 2 rfl oX12_added ln12_430 vX12_added (rc_own h217.1 (S_lt h217.2) (by decide)) (rnCk_of (by decide +kernel) rfl) (tfM_added) ?_
                obtain ⟨hgz11, h⟩ := gd h
                refine ss_iast h243 (by decide) hgz11 ?_
                refine ss_iinc cI1 rfl (by decide) rfl ?_
                refine sb_goto 67 (by decide) ?_
                cases h
                exact rn_sub [0, 1, 2, 3, 4, 5] rfl hc
            · clear hl67
              obtain ⟨Mz12, hey⟩ : ∃ z, z = e67 := ⟨_, rfl⟩
              subst hey
              show RN P 2 kX12_findsCarried 135 [(0, .ref 217), (1, .int x1), (2, .int x2), (3, .int x3), (4, .int x4)] [] (S Mz12) r
              refine sb_in [(135, .iinc 4 (-1), 3), (138, .goto (-79), 3)] 141 (by decide +kernel) ?_
              refine ss_iinc cIm1 rfl (by decide) rfl ?_
              refine sb_goto 59 (by decide) ?_
              cases h
              exact rn_sub [0, 1, 2, 3, 4] rfl hc
        · clear hl59
          obtain ⟨Mz13, hey⟩ : ∃ z, z = e59 := ⟨_, rfl⟩
          subst hey
          show RN P 2 kX12_findsCarried 141 [(0, .ref 217), (1, .int x1), (2, .int x2)] [] (S Mz13) r
          refine sb_in [(141, .iinc 2 1, 3), (144, .goto (-112), 3)] 147 (by decide +kernel) ?_
          refine ss_iinc cI1 rfl (by decide) rfl ?_
          refine sb_goto 32 (by decide) ?_
          cases h
          exact rn_sub [0, 1, 2] rfl hc
    · clear hl32
      obtain ⟨Mz14, hey⟩ : ∃ z, z = e32 := ⟨_, rfl⟩
      subst hey
      show RN P 2 kX12_findsCarried 147 [] [] (S Mz14) r
      refine sb_in [(147, .return_, 1)] 148 (by decide +kernel) ?_
      cases h
      subst hr
      refine sb_return ?_
      exact rfl
theorem tfM_findsCarried {P : Px} {x1 : Int32} {M : Mm} {rr : Mm} (h : fM_findsCarried x1 M = some rr) : EX P 2 kX12_findsCarried [.ref 217, .int x1] (S M) (none, S rr) := ex_of oX12_findsCarried (Nat.le_of_ble_eq_true rfl) (nfM_findsCarried  h rfl)
set_option maxRecDepth 20000 in
theorem nfM_carries {P : Px} {x1 : Int32} {x2 : Int32} {M : Mm} {rr : (Int32 × Mm)} (h : fM_carries x1 x2 M = some rr) {r : Option Value × Sg} (hr : r = (some (.int rr.1), S rr.2)) : RN P 3 kX12_carries 0 [(0, .ref 217), (1, .int x1), (2, .int x2)] [] (S M) r := by
  unfold fM_carries at h
  refine sb_in [(0, .aload_n 0, 1), (1, .iconst 0, 1), (2, .putfield 116, 3), (5, .aload_n 0, 1), (6, .iload_n 1, 1), (7, .iconst 1, 1), (8, .sipush 400, 3), (11, .invokevirtual 143, 3), (14, .ifCond .eq 13, 3)] 17 (by decide +kernel) ?_
  refine sb_aload_n rfl ?_
  refine sb_iconst cI0 ?_
  refine ss_putI p12_116 h217 (by decide) ?_
  refine sb_aload_n rfl ?_
  refine sb_iload_n rfl ?_
  refine sb_iconst cI1 ?_
  refine sb_sipush cS400 ?_
  refine sb_callVi 3 rfl oX12_isIn ln12_143 vX12_isIn (rc_own h217.1 (S_lt h217.2) (by decide)) (rnCk_of (by decide +kernel) rfl) (tfM_isIn) ?_
  rcases ife h with ⟨cz18, h⟩ | ⟨cz18, h⟩
  · refine sb_if_eq_t 27 cz18 (by decide) ?_
    refine sb_in [(27, .iconst (-1), 1), (28, .ireturn, 1)] 29 (by decide +kernel) ?_
    refine sb_iconst cIm1 ?_
    cases h
    subst hr
    refine sb_ireturn ?_
    exact ⟨.int, rfl, rfl⟩
  · refine sb_if_eq_f 27 cz18 (by decide) ?_
    refine sb_in [(17, .aload_n 0, 1), (18, .iload_n 2, 1), (19, .iconst 0, 1), (20, .iconst 1, 1), (21, .invokevirtual 143, 3), (24, .ifCond .ne 5, 3)] 27 (by decide +kernel) ?_
    refine sb_aload_n rfl ?_
    refine sb_iload_n rfl ?_
    refine sb_iconst cI0 ?_
    refine sb_iconst cI1 ?_
    refine sb_callVi 3 rfl oX12_isIn ln12_143 vX12_isIn (rc_own h217.1 (S_lt h217.2) (by decide)) (rnCk_of (by decide +kernel) rfl) (tfM_isIn) ?_
    rcases ife h with ⟨cz19, h⟩ | ⟨cz19, h⟩
    · refine sb_if_ne_f 29 cz19 (by decide) ?_
      refine sb_in [(27, .iconst (-1), 1), (28, .ireturn, 1)] 29 (by decide +kernel) ?_
      refine sb_iconst cIm1 ?_
      cases h
      subst hr
      refine sb_ireturn ?_
      exact ⟨.int, rfl, rfl⟩
    · refine sb_if_ne_t 29 cz19 (by decide) ?_
      refine sb_in [(29, .iconst 0, 1), (30, .istore_n 3, 1), (31, .iconst 0, 1), (32, .istore 4, 2), (34, .iconst 1, 1), (35, .istore 5, 2)] 37 (by decide +kernel) ?_
      refine sb_iconst cI0 ?_
      refine sb_istore_n (by decide) rfl ?_
      refine sb_iconst cI0 ?_
      refine sb_istore (by decide) rfl ?_
      refine sb_iconst cI1 ?_
      refine sb_istore (by decide) rfl ?_
      refine sb_end ?_
      obtain ⟨e37, hl37, h⟩ := bd h
      refine rn_sub [0, 1, 2, 3, 4, 5] rfl ?_
      refine lp_ind (P := fun s => RN P 3 kX12_carries 37 [(0, .ref 217), (1, .int x1), (2, .int x2), (3, .int s.1), (4, .int s.2.1), (5, .int s.2.2)] [] (S (mput M 217 0 0)) r) (E := fun p => RN P 3 kX12_carries 112 [(0, .ref 217), (1, .int x1), (2, .int x2), (3, .int p)] [] (S (mput M 217 0 0)) r) ?_ _ _ _ hl37 ?_
      · intro s qx h hc
        obtain ⟨x3, x4, x5⟩ := s
        replace h : fM_carries_b37 x1 x2 (mput M 217 0 0) x3 x4 x5 = some qx := h
        show RN P 3 kX12_carries 37 [(0, .ref 217), (1, .int x1), (2, .int x2), (3, .int x3), (4, .int x4), (5, .int x5)] [] (S (mput M 217 0 0)) r
        generalize (mput M 217 0 0) = M at h hc ⊢
        unfold fM_carries_b37 at h
        refine sb_in [(37, .iload 5, 2), (39, .bipush 99, 2), (41, .if_icmp .gt 71, 3)] 44 (by decide +kernel) ?_
        refine sb_iload rfl ?_
        refine sb_bipush cB99 ?_
        rcases ife h with ⟨cz20, h⟩ | ⟨cz20, h⟩
        · refine sb_icmp_gt_t 112 cz20 (by decide) ?_
          cases h
          exact rn_sub [0, 1, 2, 3] rfl hc
        · refine sb_icmp_gt_f 112 cz20 (by decide) ?_
          refine sb_in [(44, .iconst 0, 1), (45, .istore 6, 2)] 47 (by decide +kernel) ?_
          refine sb_iconst cI0 ?_
          refine sb_istore (by decide) rfl ?_
          refine sb_end ?_
          obtain ⟨e47, hl47, h⟩ := bd h
          refine rn_sub [0, 1, 2, 3, 4, 5, 6] rfl ?_
          refine lp_ind (P := fun s => RN P 3 kX12_carries 47 [(0, .ref 217), (1, .int x1), (2, .int x2), (3, .int s.1), (4, .int s.2.1), (5, .int x5), (6, .int s.2.2)] [] (S M) r) (E := fun p => RN P 3 kX12_carries 106 [(0, .ref 217), (1, .int x1), (2, .int x2), (3, .int p.1), (4, .int p.2), (5, .int x5)] [] (S M) r) ?_ _ _ _ hl47 ?_
          · intro s qx h hc
            obtain ⟨x3, x4, x6⟩ := s
            replace h : fM_carries_b47 x1 x2 x5 M x3 x4 x6 = some qx := h
            show RN P 3 kX12_carries 47 [(0, .ref 217), (1, .int x1), (2, .int x2), (3, .int x3), (4, .int x4), (5, .int x5), (6, .int x6)] [] (S M) r
            unfold fM_carries_b47 at h
            refine sb_in [(47, .iload 6, 2), (49, .aload_n 0, 1), (50, .getfield 7, 3), (53, .bipush 10, 2), (55, .iaload, 1), (56, .if_icmp .ge 50, 3)] 59 (by decide +kernel) ?_
            refine sb_iload rfl ?_
            refine sb_aload_n rfl ?_
            refine ss_getR g12_7 h217 r217_1 ?_
            refine sb_bipush cB10 ?_
            refine ss_ialdL 10 h218 iL10 rfl ?_
            rcases ife h with ⟨cz21, h⟩ | ⟨cz21, h⟩
            · refine sb_icmp_ge_t 106 cz21 (by decide) ?_
              cases h
              exact rn_sub [0, 1, 2, 3, 4, 5] rfl hc
            · refine sb_icmp_ge_f 106 cz21 (by decide) ?_
              refine sb_in [(59, .aload_n 0, 1), (60, .getfield 7, 3), (63, .aload_n 0, 1), (64, .iload 6, 2), (66, .invokevirtual 136, 3), (69, .iconst 3, 1), (70, .iadd, 1), (71, .iaload, 1), (72, .iload 5, 2), (74, .if_icmp .ne 26, 3)] 77 (by decide +kernel) ?_
              refine sb_aload_n rfl ?_
              refine ss_getR g12_7 h217 r217_1 ?_
              refine sb_aload_n rfl ?_
              refine sb_iload rfl ?_
              refine sb_callVi 1 rfl oX12_letterAt ln12_136 vX12_letterAt (rc_own h217.1 (S_lt h217.2) (by decide)) (rnCk_of (by decide +kernel) rfl) (tfM_letterAt) ?_
              refine sb_iconst cI3 ?_
              refine sb_iadd ?_
              obtain ⟨hgz5, h⟩ := gd h
              refine ss_iald h218 hgz5 ?_
              refine sb_iload rfl ?_
              obtain ⟨⟨yz8, yz9⟩, hj100, h⟩ := bd h
              have hJ100 : RN P 3 kX12_carries 100 [(0, .ref 217), (1, .int x1), (2, .int x2), (3, .int yz8), (4, .int yz9), (5, .int x5), (6, .int x6)] [] (S M) r := by
                refine sb_in [(100, .iinc 6 1, 3), (103, .goto (-56), 3)] 106 (by decide +kernel) ?_
                refine ss_iinc cI1 rfl (by decide) rfl ?_
                refine sb_goto 47 (by decide) ?_
                cases h
                exact rn_sub [0, 1, 2, 3, 4, 5, 6] rfl hc
              clear h
              have h := hj100
              clear hj100
              rcases ife h with ⟨cz22, h⟩ | ⟨cz22, h⟩
              · refine sb_icmp_ne_f 100 cz22 (by decide) ?_
                refine sb_in [(77, .iload 4, 2), (79, .iload 5, 2), (81, .iadd, 1), (82, .iload_n 1, 1), (83, .if_icmp .le 6, 3)] 86 (by decide +kernel) ?_
                refine sb_iload rfl ?_
                refine sb_iload rfl ?_
                refine sb_iadd ?_
                refine sb_iload_n rfl ?_
                rcases ife h with ⟨cz23, h⟩ | ⟨cz23, h⟩
                · refine sb_icmp_le_t 89 cz23 (by decide) ?_
                  refine sb_in [(89, .iload 4, 2), (91, .iload 5, 2), (93, .iadd, 1), (94, .istore 4, 2), (96, .iload_n 3, 1), (97, .iconst 1, 1), (98, .iadd, 1), (99, .istore_n 3, 1)] 100 (by decide +kernel) ?_
                  refine sb_iload rfl ?_
                  refine sb_iload rfl ?_
                  refine sb_iadd ?_
                  refine sb_istore (by decide) rfl ?_
                  refine sb_iload_n rfl ?_
                  refine sb_iconst cI1 ?_
                  refine sb_iadd ?_
                  refine sb_istore_n (by decide) rfl ?_
                  refine sb_end ?_
                  cases h
                  exact rn_sub [0, 1, 2, 3, 4, 5, 6] rfl hJ100
                · refine sb_icmp_le_f 89 cz23 (by decide) ?_
                  refine sb_in [(86, .goto 14, 3)] 89 (by decide +kernel) ?_
                  refine sb_goto 100 (by decide) ?_
                  cases h
                  exact rn_sub [0, 1, 2, 3, 4, 5, 6] rfl hJ100
              · refine sb_icmp_ne_t 100 cz22 (by decide) ?_
                cases h
                exact rn_sub [0, 1, 2, 3, 4, 5, 6] rfl hJ100
          · clear hl47
            obtain ⟨yz10, yz11⟩ := e47
            show RN P 3 kX12_carries 106 [(0, .ref 217), (1, .int x1), (2, .int x2), (3, .int yz10), (4, .int yz11), (5, .int x5)] [] (S M) r
            refine sb_in [(106, .iinc 5 1, 3), (109, .goto (-72), 3)] 112 (by decide +kernel) ?_
            refine ss_iinc cI1 rfl (by decide) rfl ?_
            refine sb_goto 37 (by decide) ?_
            cases h
            exact rn_sub [0, 1, 2, 3, 4, 5] rfl hc
      · clear hl37
        obtain ⟨yz12, hey⟩ : ∃ z, z = e37 := ⟨_, rfl⟩
        subst hey
        show RN P 3 kX12_carries 112 [(0, .ref 217), (1, .int x1), (2, .int x2), (3, .int yz12)] [] (S (mput M 217 0 0)) r
        refine sb_in [(112, .iload_n 2, 1), (113, .ifCond .ne 5, 3)] 116 (by decide +kernel) ?_
        refine sb_iload_n rfl ?_
        rcases ife h with ⟨cz24, h⟩ | ⟨cz24, h⟩
        · refine sb_if_ne_f 118 cz24 (by decide) ?_
          refine sb_in [(116, .iload_n 3, 1), (117, .ireturn, 1)] 118 (by decide +kernel) ?_
          refine sb_iload_n rfl ?_
          cases h
          subst hr
          refine sb_ireturn ?_
          exact ⟨.int, rfl, rfl⟩
        · refine sb_if_ne_t 118 cz24 (by decide) ?_
          refine sb_in [(118, .aload_n 0, 1), (119, .iload_n 1, 1), (120, .invokevirtual 433, 3), (123, .iconst 0, 1), (124, .istore 5, 2), (126, .iconst 0, 1), (127, .istore 6, 2)] 129 (by decide +kernel) ?_
          refine sb_aload_n rfl ?_
          refine sb_iload_n rfl ?_
          obtain ⟨Mz14, hez13, h⟩ := bd h
          refine sb_callVv 1 rfl oX12_findsCarried ln12_433 vX12_findsCarried (rc_own h217.1 (S_lt h217.2) (by decide)) (rnCk_of (by decide +kernel) rfl) (tfM_findsCarried hez13) ?_
          refine sb_iconst cI0 ?_
          refine sb_istore (by decide) rfl ?_
          refine sb_iconst cI0 ?_
          refine sb_istore (by decide) rfl ?_
          refine sb_end ?_
          obtain ⟨e129, hl129, h⟩ := bd h
          refine rn_sub [0, 1, 3, 5, 6] rfl ?_
          refine lp_ind (P := fun s => RN P 3 kX12_carries 129 [(0, .ref 217), (1, .int x1), (3, .int yz12), (5, .int s.1), (6, .int s.2)] [] (S Mz14) r) (E := fun p => RN P 3 kX12_carries 162 [(5, .int p)] [] (S Mz14) r) ?_ _ _ _ hl129 ?_
          · intro s qx h hc
            obtain ⟨x5, x6⟩ := s
            replace h : fM_carries_b129 x1 yz12 Mz14 x5 x6 = some qx := h
            show RN P 3 kX12_carries 129 [(0, .ref 217), (1, .int x1), (3, .int yz12), (5, .int x5), (6, .int x6)] [] (S Mz14) r
            generalize yz12 = x3 at h hc ⊢
            generalize Mz14 = M at h hc ⊢
            unfold fM_carries_b129 at h
            refine sb_in [(129, .iload 6, 2), (131, .iload_n 1, 1), (132, .if_icmp .gt 30, 3)] 135 (by decide +kernel) ?_
            refine sb_iload rfl ?_
            refine sb_iload_n rfl ?_
            rcases ife h with ⟨cz25, h⟩ | ⟨cz25, h⟩
            · refine sb_icmp_gt_t 162 cz25 (by decide) ?_
              cases h
              exact rn_sub [5] rfl hc
            · refine sb_icmp_gt_f 162 cz25 (by decide) ?_
              refine sb_in [(135, .aload_n 0, 1), (136, .iload 5, 2), (138, .aload_n 0, 1), (139, .getfield 89, 3), (142, .sipush 401, 3), (145, .iload_n 3, 1), (146, .imul, 1), (147, .iload 6, 2), (149, .iadd, 1), (150, .iaload, 1), (151, .invokevirtual 430, 3), (154, .istore 5, 2), (156, .iinc 6 1, 3), (159, .goto (-30), 3)] 162 (by decide +kernel) ?_
              refine sb_aload_n rfl ?_
              refine sb_iload rfl ?_
              refine sb_aload_n rfl ?_
              refine ss_getR g12_89 h217 r217_48 ?_
              refine sb_sipush cS401 ?_
              refine sb_iload_n rfl ?_
              refine sb_imul ?_
              refine sb_iload rfl ?_
              refine sb_iadd ?_
              obtain ⟨hgz15, h⟩ := gd h
              refine ss_iald h243 hgz15 ?_
              refine sb_callVi 2 rfl oX12_added ln12_430 vX12_added (rc_own h217.1 (S_lt h217.2) (by decide)) (rnCk_of (by decide +kernel) rfl) (tfM_added) ?_
              refine sb_istore (by decide) rfl ?_
              refine ss_iinc cI1 rfl (by decide) rfl ?_
              refine sb_goto 129 (by decide) ?_
              cases h
              dsimp only at hc
              exact rn_sub [0, 1, 3, 5, 6] rfl hc
          · clear hl129
            obtain ⟨yz17, hey⟩ : ∃ z, z = e129 := ⟨_, rfl⟩
            subst hey
            show RN P 3 kX12_carries 162 [(5, .int yz17)] [] (S Mz14) r
            refine sb_in [(162, .iload 5, 2), (164, .ireturn, 1)] 165 (by decide +kernel) ?_
            refine sb_iload rfl ?_
            cases h
            subst hr
            refine sb_ireturn ?_
            exact ⟨.int, rfl, rfl⟩
theorem tfM_carries {P : Px} {x1 : Int32} {x2 : Int32} {M : Mm} {rr : (Int32 × Mm)} (h : fM_carries x1 x2 M = some rr) : EX P 3 kX12_carries [.ref 217, .int x1, .int x2] (S M) (some (.int rr.1), S rr.2) := ex_of oX12_carries (Nat.le_of_ble_eq_true rfl) (nfM_carries  h rfl)
set_option maxRecDepth 20000 in
theorem nfM_owes {P : Px} {x1 : Int32} {x2 : Int32} {x3 : Int32} {M : Mm} {rr : (Int32 × Mm)} (h : fM_owes x1 x2 x3 M = some rr) {r : Option Value × Sg} (hr : r = (some (.int rr.1), S rr.2)) : RN P 2 kX12_owes 0 [(0, .ref 217), (1, .int x1), (2, .int x2), (3, .int x3)] [] (S M) r := by
  unfold fM_owes at h
  refine sb_in [(0, .aload_n 0, 1), (1, .iconst 0, 1), (2, .putfield 116, 3), (5, .iload_n 1, 1), (6, .iconst (-1), 1), (7, .if_icmp .ne 34, 3)] 10 (by decide +kernel) ?_
  refine sb_aload_n rfl ?_
  refine sb_iconst cI0 ?_
  refine ss_putI p12_116 h217 (by decide) ?_
  refine sb_iload_n rfl ?_
  refine sb_iconst cIm1 ?_
  rcases ife h with ⟨cz16, h⟩ | ⟨cz16, h⟩
  · refine sb_icmp_ne_f 41 cz16 (by decide) ?_
    refine sb_in [(10, .aload_n 0, 1), (11, .iconst 0, 1), (12, .putfield 436, 3), (15, .iconst 0, 1), (16, .istore 4, 2)] 18 (by decide +kernel) ?_
    refine sb_aload_n rfl ?_
    refine sb_iconst cI0 ?_
    refine ss_putI p12_436 h217 (by decide) ?_
    refine sb_iconst cI0 ?_
    refine sb_istore (by decide) rfl ?_
    refine sb_end ?_
    obtain ⟨e18, hl18, h⟩ := bd h
    refine rn_sub [0, 4] rfl ?_
    refine lp_ind (P := fun s => RN P 2 kX12_owes 18 [(0, .ref 217), (4, .int s.1)] [] (S s.2) r) (E := fun p => RN P 2 kX12_owes 39 [] [] (S p) r) ?_ _ _ _ hl18 ?_
    · intro s qx h hc
      obtain ⟨x4, M⟩ := s
      replace h : fM_owes_b18 x4 M = some qx := h
      show RN P 2 kX12_owes 18 [(0, .ref 217), (4, .int x4)] [] (S M) r
      unfold fM_owes_b18 at h
      refine sb_in [(18, .iload 4, 2), (20, .bipush 12, 2), (22, .if_icmp .ge 17, 3)] 25 (by decide +kernel) ?_
      refine sb_iload rfl ?_
      refine sb_bipush cB12 ?_
      rcases ife h with ⟨cz17, h⟩ | ⟨cz17, h⟩
      · refine sb_icmp_ge_t 39 cz17 (by decide) ?_
        cases h
        exact rn_sub [] rfl hc
      · refine sb_icmp_ge_f 39 cz17 (by decide) ?_
        refine sb_in [(25, .aload_n 0, 1), (26, .getfield 92, 3), (29, .iload 4, 2), (31, .iconst 0, 1), (32, .iastore, 1), (33, .iinc 4 1, 3), (36, .goto (-18), 3)] 39 (by decide +kernel) ?_
        refine sb_aload_n rfl ?_
        refine ss_getR g12_92 h217 r217_50 ?_
        refine sb_iload rfl ?_
        refine sb_iconst cI0 ?_
        obtain ⟨hgz14, h⟩ := gd h
        refine ss_iast h244 (by decide) hgz14 ?_
        refine ss_iinc cI1 rfl (by decide) rfl ?_
        refine sb_goto 18 (by decide) ?_
        cases h
        exact rn_sub [0, 4] rfl hc
    · clear hl18
      obtain ⟨Mz15, hey⟩ : ∃ z, z = e18 := ⟨_, rfl⟩
      subst hey
      show RN P 2 kX12_owes 39 [] [] (S Mz15) r
      refine sb_in [(39, .iconst 0, 1), (40, .ireturn, 1)] 41 (by decide +kernel) ?_
      refine sb_iconst cI0 ?_
      cases h
      subst hr
      refine sb_ireturn ?_
      exact ⟨.int, rfl, rfl⟩
  · refine sb_icmp_ne_t 41 cz16 (by decide) ?_
    refine sb_in [(41, .aload_n 0, 1), (42, .iload_n 1, 1), (43, .iconst 0, 1), (44, .bipush 11, 2), (46, .invokevirtual 143, 3), (49, .ifCond .eq 39, 3)] 52 (by decide +kernel) ?_
    refine sb_aload_n rfl ?_
    refine sb_iload_n rfl ?_
    refine sb_iconst cI0 ?_
    refine sb_bipush cB11 ?_
    refine sb_callVi 3 rfl oX12_isIn ln12_143 vX12_isIn (rc_own h217.1 (S_lt h217.2) (by decide)) (rnCk_of (by decide +kernel) rfl) (tfM_isIn) ?_
    rcases ife h with ⟨cz18, h⟩ | ⟨cz18, h⟩
    · refine sb_if_eq_t 88 cz18 (by decide) ?_
      refine sb_in [(88, .iconst (-1), 1), (89, .ireturn, 1)] 90 (by decide +kernel) ?_
      refine sb_iconst cIm1 ?_
      cases h
      subst hr
      refine sb_ireturn ?_
      exact ⟨.int, rfl, rfl⟩
    · refine sb_if_eq_f 88 cz18 (by decide) ?_
      refine sb_in [(52, .aload_n 0, 1), (53, .iload_n 2, 1), (54, .iconst 0, 1), (55, .bipush 11, 2), (57, .invokevirtual 143, 3), (60, .ifCond .eq 28, 3)] 63 (by decide +kernel) ?_
      refine sb_aload_n rfl ?_
      refine sb_iload_n rfl ?_
      refine sb_iconst cI0 ?_
      refine sb_bipush cB11 ?_
      refine sb_callVi 3 rfl oX12_isIn ln12_143 vX12_isIn (rc_own h217.1 (S_lt h217.2) (by decide)) (rnCk_of (by decide +kernel) rfl) (tfM_isIn) ?_
      rcases ife h with ⟨cz19, h⟩ | ⟨cz19, h⟩
      · refine sb_if_eq_t 88 cz19 (by decide) ?_
        refine sb_in [(88, .iconst (-1), 1), (89, .ireturn, 1)] 90 (by decide +kernel) ?_
        refine sb_iconst cIm1 ?_
        cases h
        subst hr
        refine sb_ireturn ?_
        exact ⟨.int, rfl, rfl⟩
      · refine sb_if_eq_f 88 cz19 (by decide) ?_
        refine sb_in [(63, .iload_n 1, 1), (64, .iload_n 2, 1), (65, .if_icmp .eq 23, 3)] 68 (by decide +kernel) ?_
        refine sb_iload_n rfl ?_
        refine sb_iload_n rfl ?_
        rcases ife h with ⟨cz20, h⟩ | ⟨cz20, h⟩
        · refine sb_icmp_eq_t 88 cz20 (by decide) ?_
          refine sb_in [(88, .iconst (-1), 1), (89, .ireturn, 1)] 90 (by decide +kernel) ?_
          refine sb_iconst cIm1 ?_
          cases h
          subst hr
          refine sb_ireturn ?_
          exact ⟨.int, rfl, rfl⟩
        · refine sb_icmp_eq_f 88 cz20 (by decide) ?_
          refine sb_in [(68, .aload_n 0, 1), (69, .iload_n 3, 1), (70, .iconst 1, 1), (71, .bipush 99, 2), (73, .invokevirtual 143, 3), (76, .ifCond .eq 12, 3)] 79 (by decide +kernel) ?_
          refine sb_aload_n rfl ?_
          refine sb_iload_n rfl ?_
          refine sb_iconst cI1 ?_
          refine sb_bipush cB99 ?_
          refine sb_callVi 3 rfl oX12_isIn ln12_143 vX12_isIn (rc_own h217.1 (S_lt h217.2) (by decide)) (rnCk_of (by decide +kernel) rfl) (tfM_isIn) ?_
          rcases ife h with ⟨cz21, h⟩ | ⟨cz21, h⟩
          · refine sb_if_eq_t 88 cz21 (by decide) ?_
            refine sb_in [(88, .iconst (-1), 1), (89, .ireturn, 1)] 90 (by decide +kernel) ?_
            refine sb_iconst cIm1 ?_
            cases h
            subst hr
            refine sb_ireturn ?_
            exact ⟨.int, rfl, rfl⟩
          · refine sb_if_eq_f 88 cz21 (by decide) ?_
            refine sb_in [(79, .aload_n 0, 1), (80, .getfield 436, 3), (83, .bipush 16, 2), (85, .if_icmp .ne 5, 3)] 88 (by decide +kernel) ?_
            refine sb_aload_n rfl ?_
            refine ss_getI g12_436 h217 ?_
            refine sb_bipush cB16 ?_
            rcases ife h with ⟨cz22, h⟩ | ⟨cz22, h⟩
            · refine sb_icmp_ne_f 90 cz22 (by decide) ?_
              refine sb_in [(88, .iconst (-1), 1), (89, .ireturn, 1)] 90 (by decide +kernel) ?_
              refine sb_iconst cIm1 ?_
              cases h
              subst hr
              refine sb_ireturn ?_
              exact ⟨.int, rfl, rfl⟩
            · refine sb_icmp_ne_t 90 cz22 (by decide) ?_
              refine sb_in [(90, .aload_n 0, 1), (91, .getfield 92, 3), (94, .iload_n 1, 1), (95, .aload_n 0, 1), (96, .getfield 92, 3), (99, .iload_n 1, 1), (100, .iaload, 1), (101, .iload_n 3, 1), (102, .isub, 1), (103, .iastore, 1), (104, .aload_n 0, 1), (105, .getfield 92, 3), (108, .iload_n 2, 1), (109, .aload_n 0, 1), (110, .getfield 92, 3), (113, .iload_n 2, 1), (114, .iaload, 1), (115, .iload_n 3, 1), (116, .iadd, 1), (117, .iastore, 1), (118, .aload_n 0, 1), (119, .aload_n 0, 1), (120, .getfield 436, 3), (123, .iconst 1, 1), (124, .iadd, 1), (125, .putfield 436, 3), (128, .aload_n 0, 1), (129, .getfield 436, 3), (132, .ireturn, 1)] 133 (by decide +kernel) ?_
              refine sb_aload_n rfl ?_
              refine ss_getR g12_92 h217 r217_50 ?_
              refine sb_iload_n rfl ?_
              refine sb_aload_n rfl ?_
              refine ss_getR g12_92 h217 r217_50 ?_
              refine sb_iload_n rfl ?_
              obtain ⟨hgz5, h⟩ := gd h
              refine ss_iald h244 hgz5 ?_
              refine sb_iload_n rfl ?_
              refine sb_isub ?_
              obtain ⟨hgz7, h⟩ := gd h
              refine ss_iast h244 (by decide) hgz7 ?_
              refine sb_aload_n rfl ?_
              refine ss_getR g12_92 h217 r217_50 ?_
              refine sb_iload_n rfl ?_
              refine sb_aload_n rfl ?_
              refine ss_getR g12_92 h217 r217_50 ?_
              refine sb_iload_n rfl ?_
              obtain ⟨hgz8, h⟩ := gd h
              refine ss_iald h244 hgz8 ?_
              refine sb_iload_n rfl ?_
              refine sb_iadd ?_
              obtain ⟨hgz10, h⟩ := gd h
              refine ss_iast h244 (by decide) hgz10 ?_
              refine sb_aload_n rfl ?_
              refine sb_aload_n rfl ?_
              refine ss_getI g12_436 h217 ?_
              refine sb_iconst cI1 ?_
              refine sb_iadd ?_
              refine ss_putI p12_436 h217 (by decide) ?_
              refine sb_aload_n rfl ?_
              refine ss_getI g12_436 h217 ?_
              cases h
              subst hr
              refine sb_ireturn ?_
              exact ⟨.int, rfl, rfl⟩
theorem tfM_owes {P : Px} {x1 : Int32} {x2 : Int32} {x3 : Int32} {M : Mm} {rr : (Int32 × Mm)} (h : fM_owes x1 x2 x3 M = some rr) : EX P 2 kX12_owes [.ref 217, .int x1, .int x2, .int x3] (S M) (some (.int rr.1), S rr.2) := ex_of oX12_owes (Nat.le_of_ble_eq_true rfl) (nfM_owes  h rfl)
set_option maxRecDepth 20000 in
theorem nfM_netOf {P : Px} {x1 : Int32} {M : Mm} {rr : Int32} (h : fM_netOf x1 M = some rr) {r : Option Value × Sg} (hr : r = (some (.int rr), S M)) : RN P 2 kX12_netOf 0 [(0, .ref 217), (1, .int x1)] [] (S M) r := by
  unfold fM_netOf at h
  refine sb_in [(0, .iconst 0, 1), (1, .istore_n 2, 1), (2, .iconst 0, 1), (3, .istore_n 3, 1)] 4 (by decide +kernel) ?_
  refine sb_iconst cI0 ?_
  refine sb_istore_n (by decide) rfl ?_
  refine sb_iconst cI0 ?_
  refine sb_istore_n (by decide) rfl ?_
  refine sb_end ?_
  obtain ⟨e4, hl4, h⟩ := bd h
  refine rn_sub [0, 1, 2, 3] rfl ?_
  refine lp_ind (P := fun s => RN P 2 kX12_netOf 4 [(0, .ref 217), (1, .int x1), (2, .int s.1), (3, .int s.2)] [] (S M) r) (E := fun p => RN P 2 kX12_netOf 34 [(2, .int p)] [] (S M) r) ?_ _ _ _ hl4 ?_
  · intro s qx h hc
    obtain ⟨x2, x3⟩ := s
    replace h : fM_netOf_b4 x1 M x2 x3 = some qx := h
    show RN P 2 kX12_netOf 4 [(0, .ref 217), (1, .int x1), (2, .int x2), (3, .int x3)] [] (S M) r
    unfold fM_netOf_b4 at h
    refine sb_in [(4, .iload_n 3, 1), (5, .bipush 12, 2), (7, .if_icmp .ge 27, 3)] 10 (by decide +kernel) ?_
    refine sb_iload_n rfl ?_
    refine sb_bipush cB12 ?_
    rcases ife h with ⟨cz6, h⟩ | ⟨cz6, h⟩
    · refine sb_icmp_ge_t 34 cz6 (by decide) ?_
      cases h
      exact rn_sub [2] rfl hc
    · refine sb_icmp_ge_f 34 cz6 (by decide) ?_
      refine sb_in [(10, .aload_n 0, 1), (11, .iload_n 1, 1), (12, .iload_n 3, 1), (13, .invokevirtual 377, 3), (16, .ifCond .eq 12, 3)] 19 (by decide +kernel) ?_
      refine sb_aload_n rfl ?_
      refine sb_iload_n rfl ?_
      refine sb_iload_n rfl ?_
      refine sb_callVi 2 rfl oX12_lies ln12_377 vX12_lies (rc_own h217.1 (S_lt h217.2) (by decide)) (rnCk_of (by decide +kernel) rfl) (tfM_lies) ?_
      obtain ⟨yz4, hj28, h⟩ := bd h
      have hJ28 : RN P 2 kX12_netOf 28 [(0, .ref 217), (1, .int x1), (2, .int yz4), (3, .int x3)] [] (S M) r := by
        refine sb_in [(28, .iinc 3 1, 3), (31, .goto (-27), 3)] 34 (by decide +kernel) ?_
        refine ss_iinc cI1 rfl (by decide) rfl ?_
        refine sb_goto 4 (by decide) ?_
        cases h
        exact rn_sub [0, 1, 2, 3] rfl hc
      clear h
      have h := hj28
      clear hj28
      rcases ife h with ⟨cz7, h⟩ | ⟨cz7, h⟩
      · refine sb_if_eq_t 28 cz7 (by decide) ?_
        cases h
        exact rn_sub [0, 1, 2, 3] rfl hJ28
      · refine sb_if_eq_f 28 cz7 (by decide) ?_
        refine sb_in [(19, .iload_n 2, 1), (20, .aload_n 0, 1), (21, .getfield 92, 3), (24, .iload_n 3, 1), (25, .iaload, 1), (26, .iadd, 1), (27, .istore_n 2, 1)] 28 (by decide +kernel) ?_
        refine sb_iload_n rfl ?_
        refine sb_aload_n rfl ?_
        refine ss_getR g12_92 h217 r217_50 ?_
        refine sb_iload_n rfl ?_
        obtain ⟨hgz2, h⟩ := gd h
        refine ss_iald h244 hgz2 ?_
        refine sb_iadd ?_
        refine sb_istore_n (by decide) rfl ?_
        refine sb_end ?_
        cases h
        exact rn_sub [0, 1, 2, 3] rfl hJ28
  · clear hl4
    obtain ⟨yz5, hey⟩ : ∃ z, z = e4 := ⟨_, rfl⟩
    subst hey
    show RN P 2 kX12_netOf 34 [(2, .int yz5)] [] (S M) r
    refine sb_in [(34, .iload_n 2, 1), (35, .ireturn, 1)] 36 (by decide +kernel) ?_
    refine sb_iload_n rfl ?_
    cases h
    subst hr
    refine sb_ireturn ?_
    exact ⟨.int, rfl, rfl⟩
theorem tfM_netOf {P : Px} {x1 : Int32} {M : Mm} {rr : Int32} (h : fM_netOf x1 M = some rr) : EX P 2 kX12_netOf [.ref 217, .int x1] (S M) (some (.int rr), S M) := ex_of oX12_netOf (Nat.le_of_ble_eq_true rfl) (nfM_netOf  h rfl)
set_option maxRecDepth 20000 in
theorem nfM_fewestPayments {P : Px} {M : Mm} {rr : (Int32 × Mm)} (h : fM_fewestPayments M = some rr) {r : Option Value × Sg} (hr : r = (some (.int rr.1), S rr.2)) : RN P 3 kX12_fewestPayments 0 [(0, .ref 217)] [] (S M) r := by
  unfold fM_fewestPayments at h
  refine sb_in [(0, .iconst 0, 1), (1, .istore_n 1, 1), (2, .iconst 0, 1), (3, .istore_n 2, 1)] 4 (by decide +kernel) ?_
  refine sb_iconst cI0 ?_
  refine sb_istore_n (by decide) rfl ?_
  refine sb_iconst cI0 ?_
  refine sb_istore_n (by decide) rfl ?_
  refine sb_end ?_
  obtain ⟨e4, hl4, h⟩ := bd h
  refine rn_sub [0, 1, 2] rfl ?_
  refine lp_ind (P := fun s => RN P 3 kX12_fewestPayments 4 [(0, .ref 217), (1, .int s.1), (2, .int s.2)] [] (S M) r) (E := fun p => RN P 3 kX12_fewestPayments 31 [(0, .ref 217), (1, .int p)] [] (S M) r) ?_ _ _ _ hl4 ?_
  · intro s qx h hc
    obtain ⟨x1, x2⟩ := s
    replace h : fM_fewestPayments_b4 M x1 x2 = some qx := h
    show RN P 3 kX12_fewestPayments 4 [(0, .ref 217), (1, .int x1), (2, .int x2)] [] (S M) r
    unfold fM_fewestPayments_b4 at h
    refine sb_in [(4, .iload_n 2, 1), (5, .bipush 12, 2), (7, .if_icmp .ge 24, 3)] 10 (by decide +kernel) ?_
    refine sb_iload_n rfl ?_
    refine sb_bipush cB12 ?_
    rcases ife h with ⟨cz20, h⟩ | ⟨cz20, h⟩
    · refine sb_icmp_ge_t 31 cz20 (by decide) ?_
      cases h
      exact rn_sub [0, 1] rfl hc
    · refine sb_icmp_ge_f 31 cz20 (by decide) ?_
      refine sb_in [(10, .aload_n 0, 1), (11, .getfield 92, 3), (14, .iload_n 2, 1), (15, .iaload, 1), (16, .ifCond .eq 9, 3)] 19 (by decide +kernel) ?_
      refine sb_aload_n rfl ?_
      refine ss_getR g12_92 h217 r217_50 ?_
      refine sb_iload_n rfl ?_
      obtain ⟨hgz1, h⟩ := gd h
      refine ss_iald h244 hgz1 ?_
      obtain ⟨yz3, hj25, h⟩ := bd h
      have hJ25 : RN P 3 kX12_fewestPayments 25 [(0, .ref 217), (1, .int yz3), (2, .int x2)] [] (S M) r := by
        refine sb_in [(25, .iinc 2 1, 3), (28, .goto (-24), 3)] 31 (by decide +kernel) ?_
        refine ss_iinc cI1 rfl (by decide) rfl ?_
        refine sb_goto 4 (by decide) ?_
        cases h
        exact rn_sub [0, 1, 2] rfl hc
      clear h
      have h := hj25
      clear hj25
      rcases ife h with ⟨cz21, h⟩ | ⟨cz21, h⟩
      · refine sb_if_eq_t 25 cz21 (by decide) ?_
        cases h
        exact rn_sub [0, 1, 2] rfl hJ25
      · refine sb_if_eq_f 25 cz21 (by decide) ?_
        refine sb_in [(19, .iload_n 1, 1), (20, .iconst 1, 1), (21, .iload_n 2, 1), (22, .ishl, 1), (23, .ior, 1), (24, .istore_n 1, 1)] 25 (by decide +kernel) ?_
        refine sb_iload_n rfl ?_
        refine sb_iconst cI1 ?_
        refine sb_iload_n rfl ?_
        refine sb_ishl ?_
        refine sb_ior ?_
        refine sb_istore_n (by decide) rfl ?_
        refine sb_end ?_
        cases h
        exact rn_sub [0, 1, 2] rfl hJ25
  · clear hl4
    obtain ⟨yz4, hey⟩ : ∃ z, z = e4 := ⟨_, rfl⟩
    subst hey
    show RN P 3 kX12_fewestPayments 31 [(0, .ref 217), (1, .int yz4)] [] (S M) r
    refine sb_in [(31, .aload_n 0, 1), (32, .getfield 95, 3), (35, .iconst 0, 1), (36, .iconst 0, 1), (37, .iastore, 1), (38, .iconst 1, 1), (39, .istore_n 2, 1)] 40 (by decide +kernel) ?_
    refine sb_aload_n rfl ?_
    refine ss_getR g12_95 h217 r217_51 ?_
    refine sb_iconst cI0 ?_
    refine sb_iconst cI0 ?_
    refine ss_iastL 0 h245 (by decide) iL0 rfl ?_
    refine sb_iconst cI1 ?_
    refine sb_istore_n (by decide) rfl ?_
    refine sb_end ?_
    obtain ⟨e40, hl40, h⟩ := bd h
    refine rn_sub [0, 1, 2] rfl ?_
    refine lp_ind (P := fun s => RN P 3 kX12_fewestPayments 40 [(0, .ref 217), (1, .int yz4), (2, .int s.1)] [] (S s.2) r) (E := fun p => RN P 3 kX12_fewestPayments 130 [(0, .ref 217), (1, .int yz4)] [] (S p) r) ?_ _ _ _ hl40 ?_
    · intro s qx h hc
      obtain ⟨x2, M⟩ := s
      replace h : fM_fewestPayments_b40 yz4 x2 M = some qx := h
      show RN P 3 kX12_fewestPayments 40 [(0, .ref 217), (1, .int yz4), (2, .int x2)] [] (S M) r
      generalize yz4 = x1 at h hc ⊢
      unfold fM_fewestPayments_b40 at h
      refine sb_in [(40, .iload_n 2, 1), (41, .iload_n 1, 1), (42, .if_icmp .gt 88, 3)] 45 (by decide +kernel) ?_
      refine sb_iload_n rfl ?_
      refine sb_iload_n rfl ?_
      rcases ife h with ⟨cz22, h⟩ | ⟨cz22, h⟩
      · refine sb_icmp_gt_t 130 cz22 (by decide) ?_
        cases h
        exact rn_sub [0, 1] rfl hc
      · refine sb_icmp_gt_f 130 cz22 (by decide) ?_
        refine sb_in [(45, .iload_n 2, 1), (46, .iload_n 1, 1), (47, .iconst (-1), 1), (48, .ixor, 1), (49, .iand, 1), (50, .ifCond .eq 6, 3)] 53 (by decide +kernel) ?_
        refine sb_iload_n rfl ?_
        refine sb_iload_n rfl ?_
        refine sb_iconst cIm1 ?_
        refine sb_ixor ?_
        refine sb_iand ?_
        obtain ⟨Mz15, hj124, h⟩ := bd h
        have hJ124 : RN P 3 kX12_fewestPayments 124 [(0, .ref 217), (1, .int x1), (2, .int x2)] [] (S Mz15) r := by
          refine sb_in [(124, .iinc 2 1, 3), (127, .goto (-87), 3)] 130 (by decide +kernel) ?_
          refine ss_iinc cI1 rfl (by decide) rfl ?_
          refine sb_goto 40 (by decide) ?_
          cases h
          exact rn_sub [0, 1, 2] rfl hc
        clear h
        have h := hj124
        clear hj124
        rcases ife h with ⟨cz23, h⟩ | ⟨cz23, h⟩
        · refine sb_if_eq_t 56 cz23 (by decide) ?_
          refine sb_in [(56, .iconst 0, 1), (57, .istore_n 3, 1), (58, .iconst 0, 1), (59, .istore 4, 2)] 61 (by decide +kernel) ?_
          refine sb_iconst cI0 ?_
          refine sb_istore_n (by decide) rfl ?_
          refine sb_iconst cI0 ?_
          refine sb_istore (by decide) rfl ?_
          refine sb_end ?_
          obtain ⟨e61, hl61, h⟩ := bd h
          refine rn_sub [0, 1, 2, 3, 4] rfl ?_
          refine lp_ind (P := fun s => RN P 3 kX12_fewestPayments 61 [(0, .ref 217), (1, .int x1), (2, .int x2), (3, .int s.1), (4, .int s.2)] [] (S M) r) (E := fun p => RN P 3 kX12_fewestPayments 103 [(0, .ref 217), (1, .int x1), (2, .int x2), (3, .int p)] [] (S M) r) ?_ _ _ _ hl61 ?_
          · intro s qx h hc
            obtain ⟨x3, x4⟩ := s
            replace h : fM_fewestPayments_b61 x1 x2 M x3 x4 = some qx := h
            show RN P 3 kX12_fewestPayments 61 [(0, .ref 217), (1, .int x1), (2, .int x2), (3, .int x3), (4, .int x4)] [] (S M) r
            unfold fM_fewestPayments_b61 at h
            refine sb_in [(61, .iload 4, 2), (63, .bipush 12, 2), (65, .if_icmp .ge 38, 3)] 68 (by decide +kernel) ?_
            refine sb_iload rfl ?_
            refine sb_bipush cB12 ?_
            rcases ife h with ⟨cz24, h⟩ | ⟨cz24, h⟩
            · refine sb_icmp_ge_t 103 cz24 (by decide) ?_
              cases h
              exact rn_sub [0, 1, 2, 3] rfl hc
            · refine sb_icmp_ge_f 103 cz24 (by decide) ?_
              refine sb_in [(68, .aload_n 0, 1), (69, .iload_n 2, 1), (70, .iload 4, 2), (72, .invokevirtual 377, 3), (75, .ifCond .eq 22, 3)] 78 (by decide +kernel) ?_
              refine sb_aload_n rfl ?_
              refine sb_iload_n rfl ?_
              refine sb_iload rfl ?_
              refine sb_callVi 2 rfl oX12_lies ln12_377 vX12_lies (rc_own h217.1 (S_lt h217.2) (by decide)) (rnCk_of (by decide +kernel) rfl) (tfM_lies) ?_
              obtain ⟨yz9, hj97, h⟩ := bd h
              have hJ97 : RN P 3 kX12_fewestPayments 97 [(0, .ref 217), (1, .int x1), (2, .int x2), (3, .int yz9), (4, .int x4)] [] (S M) r := by
                refine sb_in [(97, .iinc 4 1, 3), (100, .goto (-39), 3)] 103 (by decide +kernel) ?_
                refine ss_iinc cI1 rfl (by decide) rfl ?_
                refine sb_goto 61 (by decide) ?_
                cases h
                exact rn_sub [0, 1, 2, 3, 4] rfl hc
              clear h
              have h := hj97
              clear hj97
              rcases ife h with ⟨cz25, h⟩ | ⟨cz25, h⟩
              · refine sb_if_eq_t 97 cz25 (by decide) ?_
                cases h
                exact rn_sub [0, 1, 2, 3, 4] rfl hJ97
              · refine sb_if_eq_f 97 cz25 (by decide) ?_
                refine sb_in [(78, .aload_n 0, 1), (79, .iload_n 3, 1), (80, .aload_n 0, 1), (81, .getfield 95, 3), (84, .iload_n 2, 1), (85, .iconst 1, 1), (86, .iload 4, 2), (88, .ishl, 1), (89, .iconst (-1), 1), (90, .ixor, 1), (91, .iand, 1), (92, .iaload, 1), (93, .invokevirtual 332, 3), (96, .istore_n 3, 1)] 97 (by decide +kernel) ?_
                refine sb_aload_n rfl ?_
                refine sb_iload_n rfl ?_
                refine sb_aload_n rfl ?_
                refine ss_getR g12_95 h217 r217_51 ?_
                refine sb_iload_n rfl ?_
                refine sb_iconst cI1 ?_
                refine sb_iload rfl ?_
                refine sb_ishl ?_
                refine sb_iconst cIm1 ?_
                refine sb_ixor ?_
                refine sb_iand ?_
                obtain ⟨hgz7, h⟩ := gd h
                refine ss_iald h245 hgz7 ?_
                refine sb_callVi 2 rfl oX12_greater ln12_332 vX12_greater (rc_own h217.1 (S_lt h217.2) (by decide)) (rnCk_of (by decide +kernel) rfl) (tfM_greater) ?_
                refine sb_istore_n (by decide) rfl ?_
                refine sb_end ?_
                cases h
                exact rn_sub [0, 1, 2, 3, 4] rfl hJ97
          · clear hl61
            obtain ⟨yz10, hey⟩ : ∃ z, z = e61 := ⟨_, rfl⟩
            subst hey
            show RN P 3 kX12_fewestPayments 103 [(0, .ref 217), (1, .int x1), (2, .int x2), (3, .int yz10)] [] (S M) r
            refine sb_in [(103, .aload_n 0, 1), (104, .getfield 95, 3), (107, .iload_n 2, 1), (108, .iload_n 3, 1), (109, .aload_n 0, 1), (110, .iload_n 2, 1), (111, .invokevirtual 439, 3), (114, .ifCond .ne 7, 3)] 117 (by decide +kernel) ?_
            refine sb_aload_n rfl ?_
            refine ss_getR g12_95 h217 r217_51 ?_
            refine sb_iload_n rfl ?_
            refine sb_iload_n rfl ?_
            refine sb_aload_n rfl ?_
            refine sb_iload_n rfl ?_
            obtain ⟨qz12, hez11, h⟩ := bd h
            refine sb_callVi 1 rfl oX12_netOf ln12_439 vX12_netOf (rc_own h217.1 (S_lt h217.2) (by decide)) (rnCk_of (by decide +kernel) rfl) (tfM_netOf hez11) ?_
            have hJ122 : RN P 3 kX12_fewestPayments 122 [(0, .ref 217), (1, .int x1), (2, .int x2)] [.int (if qz12 = 0 then (1 : Int32) else 0), .int yz10, .int x2, .ref 245] (S M) r := by
              refine sb_in [(122, .iadd, 1), (123, .iastore, 1)] 124 (by decide +kernel) ?_
              refine sb_iadd ?_
              obtain ⟨hgz14, h⟩ := gd h
              refine ss_iast h245 (by decide) hgz14 ?_
              refine sb_end ?_
              cases h
              exact rn_sub [0, 1, 2] rfl hJ124
            rcases Decidable.em (qz12 = 0) with cz26 | cz26
            · refine sb_if_ne_f 121 cz26 (by decide) ?_
              refine sb_in [(117, .iconst 1, 1), (118, .goto 4, 3)] 121 (by decide +kernel) ?_
              refine sb_iconst cI1 ?_
              refine sb_goto 122 (by decide) ?_
              have hq := hJ122
              simp only [if_pos cz26] at hq
              exact rn_sub [0, 1, 2] rfl hq
            · refine sb_if_ne_t 121 cz26 (by decide) ?_
              refine sb_in [(121, .iconst 0, 1)] 122 (by decide +kernel) ?_
              refine sb_iconst cI0 ?_
              refine sb_end ?_
              have hq := hJ122
              simp only [if_neg cz26] at hq
              exact rn_sub [0, 1, 2] rfl hq
        · refine sb_if_eq_f 56 cz23 (by decide) ?_
          refine sb_in [(53, .goto 71, 3)] 56 (by decide +kernel) ?_
          refine sb_goto 124 (by decide) ?_
          cases h
          exact rn_sub [0, 1, 2] rfl hJ124
    · clear hl40
      obtain ⟨Mz16, hey⟩ : ∃ z, z = e40 := ⟨_, rfl⟩
      subst hey
      show RN P 3 kX12_fewestPayments 130 [(0, .ref 217), (1, .int yz4)] [] (S Mz16) r
      refine sb_in [(130, .aload_n 0, 1), (131, .iload_n 1, 1), (132, .invokevirtual 442, 3), (135, .aload_n 0, 1), (136, .getfield 95, 3), (139, .iload_n 1, 1), (140, .iaload, 1), (141, .isub, 1), (142, .ireturn, 1)] 143 (by decide +kernel) ?_
      refine sb_aload_n rfl ?_
      refine sb_iload_n rfl ?_
      obtain ⟨qz18, hez17, h⟩ := bd h
      refine sb_callVi 1 rfl oX12_onesOf ln12_442 vX12_onesOf (rc_own h217.1 (S_lt h217.2) (by decide)) (rnCk_of (by decide +kernel) rfl) (tfM_onesOf hez17) ?_
      refine sb_aload_n rfl ?_
      refine ss_getR g12_95 h217 r217_51 ?_
      refine sb_iload_n rfl ?_
      obtain ⟨hgz19, h⟩ := gd h
      refine ss_iald h245 hgz19 ?_
      refine sb_isub ?_
      cases h
      subst hr
      refine sb_ireturn ?_
      exact ⟨.int, rfl, rfl⟩
theorem tfM_fewestPayments {P : Px} {M : Mm} {rr : (Int32 × Mm)} (h : fM_fewestPayments M = some rr) : EX P 3 kX12_fewestPayments [.ref 217] (S M) (some (.int rr.1), S rr.2) := ex_of oX12_fewestPayments (Nat.le_of_ble_eq_true rfl) (nfM_fewestPayments  h rfl)
set_option maxRecDepth 20000 in
theorem nfM_net {P : Px} {x1 : Int32} {M : Mm} {rr : (Int32 × Mm)} (h : fM_net x1 M = some rr) {r : Option Value × Sg} (hr : r = (some (.int rr.1), S rr.2)) : RN P 4 kX12_net 0 [(0, .ref 217), (1, .int x1)] [] (S M) r := by
  unfold fM_net at h
  refine sb_in [(0, .aload_n 0, 1), (1, .iconst 0, 1), (2, .putfield 116, 3), (5, .aload_n 0, 1), (6, .iload_n 1, 1), (7, .iconst (-1), 1), (8, .bipush 11, 2), (10, .invokevirtual 143, 3), (13, .ifCond .ne 7, 3)] 16 (by decide +kernel) ?_
  refine sb_aload_n rfl ?_
  refine sb_iconst cI0 ?_
  refine ss_putI p12_116 h217 (by decide) ?_
  refine sb_aload_n rfl ?_
  refine sb_iload_n rfl ?_
  refine sb_iconst cIm1 ?_
  refine sb_bipush cB11 ?_
  refine sb_callVi 3 rfl oX12_isIn ln12_143 vX12_isIn (rc_own h217.1 (S_lt h217.2) (by decide)) (rnCk_of (by decide +kernel) rfl) (tfM_isIn) ?_
  rcases ife h with ⟨cz6, h⟩ | ⟨cz6, h⟩
  · refine sb_if_ne_f 20 cz6 (by decide) ?_
    refine sb_in [(16, .sipush (-10000), 3), (19, .ireturn, 1)] 20 (by decide +kernel) ?_
    refine sb_sipush cSm10000 ?_
    cases h
    subst hr
    refine sb_ireturn ?_
    exact ⟨.int, rfl, rfl⟩
  · refine sb_if_ne_t 20 cz6 (by decide) ?_
    refine sb_in [(20, .iload_n 1, 1), (21, .iconst (-1), 1), (22, .if_icmp .ne 10, 3)] 25 (by decide +kernel) ?_
    refine sb_iload_n rfl ?_
    refine sb_iconst cIm1 ?_
    rcases ife h with ⟨cz7, h⟩ | ⟨cz7, h⟩
    · refine sb_icmp_ne_f 32 cz7 (by decide) ?_
      refine sb_in [(25, .aload_n 0, 1), (26, .invokevirtual 445, 3), (29, .goto 9, 3)] 32 (by decide +kernel) ?_
      refine sb_aload_n rfl ?_
      obtain ⟨qz5, hez4, h⟩ := bd h
      refine sb_callVi 0 rfl oX12_fewestPayments ln12_445 vX12_fewestPayments (rc_own h217.1 (S_lt h217.2) (by decide)) (rnCk_of (by decide +kernel) rfl) (tfM_fewestPayments hez4) ?_
      refine sb_goto 38 (by decide) ?_
      refine sb_in [(38, .ireturn, 1)] 39 (by decide +kernel) ?_
      cases h
      subst hr
      refine sb_ireturn ?_
      exact ⟨.int, rfl, rfl⟩
    · refine sb_icmp_ne_t 32 cz7 (by decide) ?_
      refine sb_in [(32, .aload_n 0, 1), (33, .getfield 92, 3), (36, .iload_n 1, 1), (37, .iaload, 1)] 38 (by decide +kernel) ?_
      refine sb_aload_n rfl ?_
      refine ss_getR g12_92 h217 r217_50 ?_
      refine sb_iload_n rfl ?_
      obtain ⟨hgz3, h⟩ := gd h
      refine ss_iald h244 hgz3 ?_
      refine sb_end ?_
      refine sb_in [(38, .ireturn, 1)] 39 (by decide +kernel) ?_
      cases h
      subst hr
      refine sb_ireturn ?_
      exact ⟨.int, rfl, rfl⟩
theorem tfM_net {P : Px} {x1 : Int32} {M : Mm} {rr : (Int32 × Mm)} (h : fM_net x1 M = some rr) : EX P 4 kX12_net [.ref 217, .int x1] (S M) (some (.int rr.1), S rr.2) := ex_of oX12_net (Nat.le_of_ble_eq_true rfl) (nfM_net  h rfl)
set_option maxRecDepth 20000 in
theorem nfM_chain {P : Px} {x1 : Int32} {x2 : Int32} {x3 : Int32} {x4 : Int32} {M : Mm} {rr : (Int32 × Mm)} (h : fM_chain x1 x2 x3 x4 M = some rr) {r : Option Value × Sg} (hr : r = (some (.int rr.1), S rr.2)) : RN P 2 kX12_chain 0 [(0, .ref 217), (1, .int x1), (2, .int x2), (3, .int x3), (4, .int x4)] [] (S M) r := by
  unfold fM_chain at h
  refine sb_in [(0, .aload_n 0, 1), (1, .iconst 0, 1), (2, .putfield 116, 3), (5, .aload_n 0, 1), (6, .iload_n 1, 1), (7, .iconst 1, 1), (8, .bipush 9, 2), (10, .invokevirtual 143, 3), (13, .ifCond .eq 42, 3)] 16 (by decide +kernel) ?_
  refine sb_aload_n rfl ?_
  refine sb_iconst cI0 ?_
  refine ss_putI p12_116 h217 (by decide) ?_
  refine sb_aload_n rfl ?_
  refine sb_iload_n rfl ?_
  refine sb_iconst cI1 ?_
  refine sb_bipush cB9 ?_
  refine sb_callVi 3 rfl oX12_isIn ln12_143 vX12_isIn (rc_own h217.1 (S_lt h217.2) (by decide)) (rnCk_of (by decide +kernel) rfl) (tfM_isIn) ?_
  rcases ife h with ⟨cz11, h⟩ | ⟨cz11, h⟩
  · refine sb_if_eq_t 55 cz11 (by decide) ?_
    refine sb_in [(55, .iconst (-1), 1), (56, .ireturn, 1)] 57 (by decide +kernel) ?_
    refine sb_iconst cIm1 ?_
    cases h
    subst hr
    refine sb_ireturn ?_
    exact ⟨.int, rfl, rfl⟩
  · refine sb_if_eq_f 55 cz11 (by decide) ?_
    refine sb_in [(16, .aload_n 0, 1), (17, .iload_n 2, 1), (18, .iconst 1, 1), (19, .sipush 9999, 3), (22, .invokevirtual 143, 3), (25, .ifCond .eq 30, 3)] 28 (by decide +kernel) ?_
    refine sb_aload_n rfl ?_
    refine sb_iload_n rfl ?_
    refine sb_iconst cI1 ?_
    refine sb_sipush cS9999 ?_
    refine sb_callVi 3 rfl oX12_isIn ln12_143 vX12_isIn (rc_own h217.1 (S_lt h217.2) (by decide)) (rnCk_of (by decide +kernel) rfl) (tfM_isIn) ?_
    rcases ife h with ⟨cz12, h⟩ | ⟨cz12, h⟩
    · refine sb_if_eq_t 55 cz12 (by decide) ?_
      refine sb_in [(55, .iconst (-1), 1), (56, .ireturn, 1)] 57 (by decide +kernel) ?_
      refine sb_iconst cIm1 ?_
      cases h
      subst hr
      refine sb_ireturn ?_
      exact ⟨.int, rfl, rfl⟩
    · refine sb_if_eq_f 55 cz12 (by decide) ?_
      refine sb_in [(28, .aload_n 0, 1), (29, .iload 4, 2), (31, .iconst 0, 1), (32, .iconst 1, 1), (33, .invokevirtual 143, 3), (36, .ifCond .eq 19, 3)] 39 (by decide +kernel) ?_
      refine sb_aload_n rfl ?_
      refine sb_iload rfl ?_
      refine sb_iconst cI0 ?_
      refine sb_iconst cI1 ?_
      refine sb_callVi 3 rfl oX12_isIn ln12_143 vX12_isIn (rc_own h217.1 (S_lt h217.2) (by decide)) (rnCk_of (by decide +kernel) rfl) (tfM_isIn) ?_
      rcases ife h with ⟨cz13, h⟩ | ⟨cz13, h⟩
      · refine sb_if_eq_t 55 cz13 (by decide) ?_
        refine sb_in [(55, .iconst (-1), 1), (56, .ireturn, 1)] 57 (by decide +kernel) ?_
        refine sb_iconst cIm1 ?_
        cases h
        subst hr
        refine sb_ireturn ?_
        exact ⟨.int, rfl, rfl⟩
      · refine sb_if_eq_f 55 cz13 (by decide) ?_
        refine sb_in [(39, .iload 4, 2), (41, .ifCond .ne 16, 3)] 44 (by decide +kernel) ?_
        refine sb_iload rfl ?_
        have hJ57 : ∀ (z1 : Int32) (z2 : Int32) (z3 : Int32) (z4 : Int32) (M : Mm), fM_chain_j57 z1 z2 z3 z4 M = some rr → RN P 2 kX12_chain 57 [(0, .ref 217), (1, .int z1), (2, .int z2), (3, .int z3), (4, .int z4)] [] (S M) r := by
          intro z1 z2 z3 z4 M h
          unfold fM_chain_j57 at h
          refine sb_in [(57, .iconst 1, 1), (58, .istore 5, 2), (60, .iconst 1, 1), (61, .istore 6, 2), (63, .iload 4, 2), (65, .ifCond .ne 7, 3)] 68 (by decide +kernel) ?_
          refine sb_iconst cI1 ?_
          refine sb_istore (by decide) rfl ?_
          refine sb_iconst cI1 ?_
          refine sb_istore (by decide) rfl ?_
          refine sb_iload rfl ?_
          have hJ74 : RN P 2 kX12_chain 74 [(0, .ref 217), (1, .int z1), (2, .int z2), (4, .int z4), (5, .int 1), (6, .int 1)] [.int (if z4 = 0 then z3 else 99)] (S M) r := by
            refine sb_in [(74, .istore 7, 2), (76, .iconst 0, 1), (77, .istore 8, 2)] 79 (by decide +kernel) ?_
            refine sb_istore (by decide) rfl ?_
            refine sb_iconst cI0 ?_
            refine sb_istore (by decide) rfl ?_
            refine sb_end ?_
            obtain ⟨e79, hl79, h⟩ := bd h
            refine rn_sub [0, 1, 2, 4, 5, 6, 7, 8] rfl ?_
            refine lp_ind (P := fun s => RN P 2 kX12_chain 79 [(0, .ref 217), (1, .int z1), (2, .int z2), (4, .int z4), (5, .int s.1), (6, .int s.2.1), (7, .int ((if z4 = 0 then z3 else 99))), (8, .int s.2.2)] [] (S M) r) (E := fun e => match e with | Sum.inl p => RN P 2 kX12_chain 98 [(8, .int p)] [] (S M) r | Sum.inr (Sum.inl p) => RN P 2 kX12_chain 108 [(4, .int z4), (5, .int p)] [] (S M) r | Sum.inr (Sum.inr p) => RN P 2 kX12_chain 147 [] [] (S M) r) ?_ _ _ _ hl79 ?_
            · intro s qx h hc
              obtain ⟨x5, x6, x8⟩ := s
              replace h : fM_chain_b79 z1 z2 z4 ((if z4 = 0 then z3 else 99)) M x5 x6 x8 = some qx := h
              show RN P 2 kX12_chain 79 [(0, .ref 217), (1, .int z1), (2, .int z2), (4, .int z4), (5, .int x5), (6, .int x6), (7, .int ((if z4 = 0 then z3 else 99))), (8, .int x8)] [] (S M) r
              generalize ((if z4 = 0 then z3 else 99)) = x7 at h hc ⊢
              generalize z1 = x1 at h hc ⊢
              generalize z2 = x2 at h hc ⊢
              generalize z4 = x4 at h hc ⊢
              unfold fM_chain_b79 at h
              refine sb_in [(79, .iload 8, 2), (81, .iload 7, 2), (83, .if_icmp .gt 64, 3)] 86 (by decide +kernel) ?_
              refine sb_iload rfl ?_
              refine sb_iload rfl ?_
              rcases ife h with ⟨cz14, h⟩ | ⟨cz14, h⟩
              · refine sb_icmp_gt_t 147 cz14 (by decide) ?_
                cases h
                exact rn_sub [] rfl hc
              · refine sb_icmp_gt_f 147 cz14 (by decide) ?_
                refine sb_in [(86, .iload 4, 2), (88, .iconst 1, 1), (89, .if_icmp .ne 12, 3)] 92 (by decide +kernel) ?_
                refine sb_iload rfl ?_
                refine sb_iconst cI1 ?_
                have hJ101 : ∀ (z5 : Int32) (z6 : Int32) (z8 : Int32), fM_chain_j101 x1 x2 x4 z5 z6 x7 z8 M = some qx → RN P 2 kX12_chain 101 [(0, .ref 217), (1, .int x1), (2, .int x2), (4, .int x4), (5, .int z5), (6, .int z6), (7, .int x7), (8, .int z8)] [] (S M) r := by
                  intro z5 z6 z8 h
                  unfold fM_chain_j101 at h
                  refine sb_in [(101, .iload 8, 2), (103, .iload 7, 2), (105, .if_icmp .ne 15, 3)] 108 (by decide +kernel) ?_
                  refine sb_iload rfl ?_
                  refine sb_iload rfl ?_
                  rcases ife h with ⟨cz15, h⟩ | ⟨cz15, h⟩
                  · refine sb_icmp_ne_f 120 cz15 (by decide) ?_
                    cases h
                    exact rn_sub [4, 5] rfl hc
                  · refine sb_icmp_ne_t 120 cz15 (by decide) ?_
                    refine sb_in [(120, .aload_n 0, 1), (121, .iload_n 1, 1), (122, .iload 6, 2), (124, .imul, 1), (125, .iload_n 2, 1), (126, .iload 5, 2), (128, .isub, 1), (129, .invokevirtual 353, 3), (132, .istore 6, 2), (134, .iload 5, 2), (136, .iload 6, 2), (138, .iadd, 1), (139, .istore 5, 2), (141, .iinc 8 1, 3), (144, .goto (-65), 3)] 147 (by decide +kernel) ?_
                    refine sb_aload_n rfl ?_
                    refine sb_iload_n rfl ?_
                    refine sb_iload rfl ?_
                    refine sb_imul ?_
                    refine sb_iload_n rfl ?_
                    refine sb_iload rfl ?_
                    refine sb_isub ?_
                    refine sb_callVi 2 rfl oX12_lesser ln12_353 vX12_lesser (rc_own h217.1 (S_lt h217.2) (by decide)) (rnCk_of (by decide +kernel) rfl) (tfM_lesser) ?_
                    refine sb_istore (by decide) rfl ?_
                    refine sb_iload rfl ?_
                    refine sb_iload rfl ?_
                    refine sb_iadd ?_
                    refine sb_istore (by decide) rfl ?_
                    refine ss_iinc cI1 rfl (by decide) rfl ?_
                    refine sb_goto 79 (by decide) ?_
                    cases h
                    exact rn_sub [0, 1, 2, 4, 5, 6, 7, 8] rfl hc
                rcases ife h with ⟨cz16, h⟩ | ⟨cz16, h⟩
                · refine sb_icmp_ne_f 101 cz16 (by decide) ?_
                  refine sb_in [(92, .iload 5, 2), (94, .iload_n 2, 1), (95, .if_icmp .ne 6, 3)] 98 (by decide +kernel) ?_
                  refine sb_iload rfl ?_
                  refine sb_iload_n rfl ?_
                  rcases ife h with ⟨cz17, h⟩ | ⟨cz17, h⟩
                  · refine sb_icmp_ne_f 101 cz17 (by decide) ?_
                    cases h
                    exact rn_sub [8] rfl hc
                  · refine sb_icmp_ne_t 101 cz17 (by decide) ?_
                    exact rn_sub [0, 1, 2, 4, 5, 6, 7, 8] rfl (hJ101 _ _ _ h)
                · refine sb_icmp_ne_t 101 cz16 (by decide) ?_
                  exact rn_sub [0, 1, 2, 4, 5, 6, 7, 8] rfl (hJ101 _ _ _ h)
            · clear hl79
              rcases e79 with e79 | e79 | e79
              · skip
                obtain ⟨yz9, hey⟩ : ∃ z, z = e79 := ⟨_, rfl⟩
                subst hey
                show RN P 2 kX12_chain 98 [(8, .int yz9)] [] (S M) r
                refine sb_in [(98, .iload 8, 2), (100, .ireturn, 1)] 101 (by decide +kernel) ?_
                refine sb_iload rfl ?_
                cases h
                subst hr
                refine sb_ireturn ?_
                exact ⟨.int, rfl, rfl⟩
              · skip
                obtain ⟨yz10, hey⟩ : ∃ z, z = e79 := ⟨_, rfl⟩
                subst hey
                show RN P 2 kX12_chain 108 [(4, .int z4), (5, .int yz10)] [] (S M) r
                refine sb_in [(108, .iload 4, 2), (110, .ifCond .ne 8, 3)] 113 (by decide +kernel) ?_
                refine sb_iload rfl ?_
                rcases ife h with ⟨cz18, h⟩ | ⟨cz18, h⟩
                · refine sb_if_ne_f 118 cz18 (by decide) ?_
                  refine sb_in [(113, .iload 5, 2), (115, .goto 4, 3)] 118 (by decide +kernel) ?_
                  refine sb_iload rfl ?_
                  refine sb_goto 119 (by decide) ?_
                  refine sb_in [(119, .ireturn, 1)] 120 (by decide +kernel) ?_
                  cases h
                  subst hr
                  refine sb_ireturn ?_
                  exact ⟨.int, rfl, rfl⟩
                · refine sb_if_ne_t 118 cz18 (by decide) ?_
                  refine sb_in [(118, .iconst (-1), 1)] 119 (by decide +kernel) ?_
                  refine sb_iconst cIm1 ?_
                  refine sb_end ?_
                  refine sb_in [(119, .ireturn, 1)] 120 (by decide +kernel) ?_
                  cases h
                  subst hr
                  refine sb_ireturn ?_
                  exact ⟨.int, rfl, rfl⟩
              · skip
                show RN P 2 kX12_chain 147 [] [] (S M) r
                refine sb_in [(147, .iconst (-1), 1), (148, .ireturn, 1)] 149 (by decide +kernel) ?_
                refine sb_iconst cIm1 ?_
                cases h
                subst hr
                refine sb_ireturn ?_
                exact ⟨.int, rfl, rfl⟩
          rcases Decidable.em (z4 = 0) with cz19 | cz19
          · refine sb_if_ne_f 72 cz19 (by decide) ?_
            refine sb_in [(68, .iload_n 3, 1), (69, .goto 5, 3)] 72 (by decide +kernel) ?_
            refine sb_iload_n rfl ?_
            refine sb_goto 74 (by decide) ?_
            have hq := hJ74
            simp only [if_pos cz19] at hq
            exact rn_sub [0, 1, 2, 4, 5, 6] rfl hq
          · refine sb_if_ne_t 72 cz19 (by decide) ?_
            refine sb_in [(72, .bipush 99, 2)] 74 (by decide +kernel) ?_
            refine sb_bipush cB99 ?_
            refine sb_end ?_
            have hq := hJ74
            simp only [if_neg cz19] at hq
            exact rn_sub [0, 1, 2, 4, 5, 6] rfl hq
        rcases ife h with ⟨cz20, h⟩ | ⟨cz20, h⟩
        · refine sb_if_ne_f 57 cz20 (by decide) ?_
          refine sb_in [(44, .aload_n 0, 1), (45, .iload_n 3, 1), (46, .iconst 0, 1), (47, .bipush 99, 2), (49, .invokevirtual 143, 3), (52, .ifCond .ne 5, 3)] 55 (by decide +kernel) ?_
          refine sb_aload_n rfl ?_
          refine sb_iload_n rfl ?_
          refine sb_iconst cI0 ?_
          refine sb_bipush cB99 ?_
          refine sb_callVi 3 rfl oX12_isIn ln12_143 vX12_isIn (rc_own h217.1 (S_lt h217.2) (by decide)) (rnCk_of (by decide +kernel) rfl) (tfM_isIn) ?_
          rcases ife h with ⟨cz21, h⟩ | ⟨cz21, h⟩
          · refine sb_if_ne_f 57 cz21 (by decide) ?_
            refine sb_in [(55, .iconst (-1), 1), (56, .ireturn, 1)] 57 (by decide +kernel) ?_
            refine sb_iconst cIm1 ?_
            cases h
            subst hr
            refine sb_ireturn ?_
            exact ⟨.int, rfl, rfl⟩
          · refine sb_if_ne_t 57 cz21 (by decide) ?_
            exact rn_sub [0, 1, 2, 3, 4] rfl (hJ57 _ _ _ _ _ h)
        · refine sb_if_ne_t 57 cz20 (by decide) ?_
          exact rn_sub [0, 1, 2, 3, 4] rfl (hJ57 _ _ _ _ _ h)
theorem tfM_chain {P : Px} {x1 : Int32} {x2 : Int32} {x3 : Int32} {x4 : Int32} {M : Mm} {rr : (Int32 × Mm)} (h : fM_chain x1 x2 x3 x4 M = some rr) : EX P 2 kX12_chain [.ref 217, .int x1, .int x2, .int x3, .int x4] (S M) (some (.int rr.1), S rr.2) := ex_of oX12_chain (Nat.le_of_ble_eq_true rfl) (nfM_chain  h rfl)
set_option maxRecDepth 20000 in
theorem nfM_has {P : Px} {x1 : Int32} {x2 : Int32} {M : Mm} {rr : (Int32 × Mm)} (h : fM_has x1 x2 M = some rr) {r : Option Value × Sg} (hr : r = (some (.int rr.1), S rr.2)) : RN P 2 kX12_has 0 [(0, .ref 217), (1, .int x1), (2, .int x2)] [] (S M) r := by
  unfold fM_has at h
  refine sb_in [(0, .aload_n 0, 1), (1, .iconst 0, 1), (2, .putfield 116, 3), (5, .aload_n 0, 1), (6, .iload_n 1, 1), (7, .iconst 0, 1), (8, .bipush 25, 2), (10, .invokevirtual 143, 3), (13, .ifCond .eq 14, 3)] 16 (by decide +kernel) ?_
  refine sb_aload_n rfl ?_
  refine sb_iconst cI0 ?_
  refine ss_putI p12_116 h217 (by decide) ?_
  refine sb_aload_n rfl ?_
  refine sb_iload_n rfl ?_
  refine sb_iconst cI0 ?_
  refine sb_bipush cB25 ?_
  refine sb_callVi 3 rfl oX12_isIn ln12_143 vX12_isIn (rc_own h217.1 (S_lt h217.2) (by decide)) (rnCk_of (by decide +kernel) rfl) (tfM_isIn) ?_
  rcases ife h with ⟨cz6, h⟩ | ⟨cz6, h⟩
  · refine sb_if_eq_t 27 cz6 (by decide) ?_
    refine sb_in [(27, .iconst 0, 1), (28, .ireturn, 1)] 29 (by decide +kernel) ?_
    refine sb_iconst cI0 ?_
    cases h
    subst hr
    refine sb_ireturn ?_
    exact ⟨.boolean, rfl, by decide⟩
  · refine sb_if_eq_f 27 cz6 (by decide) ?_
    refine sb_in [(16, .aload_n 0, 1), (17, .iload_n 2, 1), (18, .iconst 0, 1), (19, .bipush 9, 2), (21, .invokevirtual 143, 3), (24, .ifCond .ne 5, 3)] 27 (by decide +kernel) ?_
    refine sb_aload_n rfl ?_
    refine sb_iload_n rfl ?_
    refine sb_iconst cI0 ?_
    refine sb_bipush cB9 ?_
    refine sb_callVi 3 rfl oX12_isIn ln12_143 vX12_isIn (rc_own h217.1 (S_lt h217.2) (by decide)) (rnCk_of (by decide +kernel) rfl) (tfM_isIn) ?_
    rcases ife h with ⟨cz7, h⟩ | ⟨cz7, h⟩
    · refine sb_if_ne_f 29 cz7 (by decide) ?_
      refine sb_in [(27, .iconst 0, 1), (28, .ireturn, 1)] 29 (by decide +kernel) ?_
      refine sb_iconst cI0 ?_
      cases h
      subst hr
      refine sb_ireturn ?_
      exact ⟨.boolean, rfl, by decide⟩
    · refine sb_if_ne_t 29 cz7 (by decide) ?_
      refine sb_in [(29, .aload_n 0, 1), (30, .getfield 98, 3), (33, .iload_n 1, 1), (34, .iload_n 2, 1), (35, .iastore, 1), (36, .iconst 1, 1), (37, .ireturn, 1)] 38 (by decide +kernel) ?_
      refine sb_aload_n rfl ?_
      refine ss_getR g12_98 h217 r217_52 ?_
      refine sb_iload_n rfl ?_
      refine sb_iload_n rfl ?_
      obtain ⟨hgz5, h⟩ := gd h
      refine ss_iast h246 (by decide) hgz5 ?_
      refine sb_iconst cI1 ?_
      cases h
      subst hr
      refine sb_ireturn ?_
      exact ⟨.boolean, rfl, by decide⟩
theorem tfM_has {P : Px} {x1 : Int32} {x2 : Int32} {M : Mm} {rr : (Int32 × Mm)} (h : fM_has x1 x2 M = some rr) : EX P 2 kX12_has [.ref 217, .int x1, .int x2] (S M) (some (.int rr.1), S rr.2) := ex_of oX12_has (Nat.le_of_ble_eq_true rfl) (nfM_has  h rfl)
set_option maxRecDepth 20000 in
theorem nfM_spell {P : Px} {x1 : Int32} {M : Mm} {rr : (Int32 × Mm)} (h : fM_spell x1 M = some rr) {r : Option Value × Sg} (hr : r = (some (.int rr.1), S rr.2)) : RN P 2 kX12_spell 0 [(0, .ref 217), (1, .int x1)] [] (S M) r := by
  unfold fM_spell at h
  refine sb_in [(0, .aload_n 0, 1), (1, .iconst 0, 1), (2, .putfield 116, 3), (5, .iload_n 1, 1), (6, .iconst (-1), 1), (7, .if_icmp .ne 10, 3)] 10 (by decide +kernel) ?_
  refine sb_aload_n rfl ?_
  refine sb_iconst cI0 ?_
  refine ss_putI p12_116 h217 (by decide) ?_
  refine sb_iload_n rfl ?_
  refine sb_iconst cIm1 ?_
  rcases ife h with ⟨cz7, h⟩ | ⟨cz7, h⟩
  · refine sb_icmp_ne_f 17 cz7 (by decide) ?_
    refine sb_in [(10, .aload_n 0, 1), (11, .iconst 0, 1), (12, .putfield 448, 3), (15, .iconst 0, 1), (16, .ireturn, 1)] 17 (by decide +kernel) ?_
    refine sb_aload_n rfl ?_
    refine sb_iconst cI0 ?_
    refine ss_putI p12_448 h217 (by decide) ?_
    refine sb_iconst cI0 ?_
    cases h
    subst hr
    refine sb_ireturn ?_
    exact ⟨.int, rfl, rfl⟩
  · refine sb_icmp_ne_t 17 cz7 (by decide) ?_
    refine sb_in [(17, .aload_n 0, 1), (18, .iload_n 1, 1), (19, .iconst 0, 1), (20, .bipush 25, 2), (22, .invokevirtual 143, 3), (25, .ifCond .eq 12, 3)] 28 (by decide +kernel) ?_
    refine sb_aload_n rfl ?_
    refine sb_iload_n rfl ?_
    refine sb_iconst cI0 ?_
    refine sb_bipush cB25 ?_
    refine sb_callVi 3 rfl oX12_isIn ln12_143 vX12_isIn (rc_own h217.1 (S_lt h217.2) (by decide)) (rnCk_of (by decide +kernel) rfl) (tfM_isIn) ?_
    rcases ife h with ⟨cz8, h⟩ | ⟨cz8, h⟩
    · refine sb_if_eq_t 37 cz8 (by decide) ?_
      refine sb_in [(37, .iconst (-1), 1), (38, .ireturn, 1)] 39 (by decide +kernel) ?_
      refine sb_iconst cIm1 ?_
      cases h
      subst hr
      refine sb_ireturn ?_
      exact ⟨.int, rfl, rfl⟩
    · refine sb_if_eq_f 37 cz8 (by decide) ?_
      refine sb_in [(28, .aload_n 0, 1), (29, .getfield 448, 3), (32, .bipush 8, 2), (34, .if_icmp .ne 5, 3)] 37 (by decide +kernel) ?_
      refine sb_aload_n rfl ?_
      refine ss_getI g12_448 h217 ?_
      refine sb_bipush cB8 ?_
      rcases ife h with ⟨cz9, h⟩ | ⟨cz9, h⟩
      · refine sb_icmp_ne_f 39 cz9 (by decide) ?_
        refine sb_in [(37, .iconst (-1), 1), (38, .ireturn, 1)] 39 (by decide +kernel) ?_
        refine sb_iconst cIm1 ?_
        cases h
        subst hr
        refine sb_ireturn ?_
        exact ⟨.int, rfl, rfl⟩
      · refine sb_icmp_ne_t 39 cz9 (by decide) ?_
        refine sb_in [(39, .aload_n 0, 1), (40, .getfield 101, 3), (43, .aload_n 0, 1), (44, .getfield 448, 3), (47, .iload_n 1, 1), (48, .iastore, 1), (49, .aload_n 0, 1), (50, .aload_n 0, 1), (51, .getfield 448, 3), (54, .iconst 1, 1), (55, .iadd, 1), (56, .putfield 448, 3), (59, .aload_n 0, 1), (60, .getfield 448, 3), (63, .ireturn, 1)] 64 (by decide +kernel) ?_
        refine sb_aload_n rfl ?_
        refine ss_getR g12_101 h217 r217_54 ?_
        refine sb_aload_n rfl ?_
        refine ss_getI g12_448 h217 ?_
        refine sb_iload_n rfl ?_
        obtain ⟨hgz4, h⟩ := gd h
        refine ss_iast h247 (by decide) hgz4 ?_
        refine sb_aload_n rfl ?_
        refine sb_aload_n rfl ?_
        refine ss_getI g12_448 h217 ?_
        refine sb_iconst cI1 ?_
        refine sb_iadd ?_
        refine ss_putI p12_448 h217 (by decide) ?_
        refine sb_aload_n rfl ?_
        refine ss_getI g12_448 h217 ?_
        cases h
        subst hr
        refine sb_ireturn ?_
        exact ⟨.int, rfl, rfl⟩
theorem tfM_spell {P : Px} {x1 : Int32} {M : Mm} {rr : (Int32 × Mm)} (h : fM_spell x1 M = some rr) : EX P 2 kX12_spell [.ref 217, .int x1] (S M) (some (.int rr.1), S rr.2) := ex_of oX12_spell (Nat.le_of_ble_eq_true rfl) (nfM_spell  h rfl)
set_option maxRecDepth 20000 in
theorem nfM_needOf {P : Px} {x1 : Int32} {x2 : Int32} {M : Mm} {rr : Int32} (h : fM_needOf x1 x2 M = some rr) {r : Option Value × Sg} (hr : r = (some (.int rr), S M)) : RN P 1 kX12_needOf 0 [(0, .ref 217), (1, .int x1), (2, .int x2)] [] (S M) r := by
  unfold fM_needOf at h
  refine sb_in [(0, .iconst 0, 1), (1, .istore_n 3, 1), (2, .iconst 0, 1), (3, .istore 4, 2)] 5 (by decide +kernel) ?_
  refine sb_iconst cI0 ?_
  refine sb_istore_n (by decide) rfl ?_
  refine sb_iconst cI0 ?_
  refine sb_istore (by decide) rfl ?_
  refine sb_end ?_
  obtain ⟨e5, hl5, h⟩ := bd h
  refine rn_sub [0, 1, 2, 3, 4] rfl ?_
  refine lp_ind (P := fun s => RN P 1 kX12_needOf 5 [(0, .ref 217), (1, .int x1), (2, .int x2), (3, .int s.1), (4, .int s.2)] [] (S M) r) (E := fun p => RN P 1 kX12_needOf 32 [(3, .int p)] [] (S M) r) ?_ _ _ _ hl5 ?_
  · intro s qx h hc
    obtain ⟨x3, x4⟩ := s
    replace h : fM_needOf_b5 x1 x2 M x3 x4 = some qx := h
    show RN P 1 kX12_needOf 5 [(0, .ref 217), (1, .int x1), (2, .int x2), (3, .int x3), (4, .int x4)] [] (S M) r
    unfold fM_needOf_b5 at h
    refine sb_in [(5, .iload 4, 2), (7, .iload_n 2, 1), (8, .if_icmp .ge 24, 3)] 11 (by decide +kernel) ?_
    refine sb_iload rfl ?_
    refine sb_iload_n rfl ?_
    rcases ife h with ⟨cz5, h⟩ | ⟨cz5, h⟩
    · refine sb_icmp_ge_t 32 cz5 (by decide) ?_
      cases h
      exact rn_sub [3] rfl hc
    · refine sb_icmp_ge_f 32 cz5 (by decide) ?_
      refine sb_in [(11, .aload_n 0, 1), (12, .getfield 101, 3), (15, .iload 4, 2), (17, .iaload, 1), (18, .iload_n 1, 1), (19, .if_icmp .ne 7, 3)] 22 (by decide +kernel) ?_
      refine sb_aload_n rfl ?_
      refine ss_getR g12_101 h217 r217_54 ?_
      refine sb_iload rfl ?_
      obtain ⟨hgz1, h⟩ := gd h
      refine ss_iald h247 hgz1 ?_
      refine sb_iload_n rfl ?_
      obtain ⟨yz3, hj26, h⟩ := bd h
      have hJ26 : RN P 1 kX12_needOf 26 [(0, .ref 217), (1, .int x1), (2, .int x2), (3, .int yz3), (4, .int x4)] [] (S M) r := by
        refine sb_in [(26, .iinc 4 1, 3), (29, .goto (-24), 3)] 32 (by decide +kernel) ?_
        refine ss_iinc cI1 rfl (by decide) rfl ?_
        refine sb_goto 5 (by decide) ?_
        cases h
        exact rn_sub [0, 1, 2, 3, 4] rfl hc
      clear h
      have h := hj26
      clear hj26
      rcases ife h with ⟨cz6, h⟩ | ⟨cz6, h⟩
      · refine sb_icmp_ne_f 26 cz6 (by decide) ?_
        refine sb_in [(22, .iload_n 3, 1), (23, .iconst 1, 1), (24, .iadd, 1), (25, .istore_n 3, 1)] 26 (by decide +kernel) ?_
        refine sb_iload_n rfl ?_
        refine sb_iconst cI1 ?_
        refine sb_iadd ?_
        refine sb_istore_n (by decide) rfl ?_
        refine sb_end ?_
        cases h
        exact rn_sub [0, 1, 2, 3, 4] rfl hJ26
      · refine sb_icmp_ne_t 26 cz6 (by decide) ?_
        cases h
        exact rn_sub [0, 1, 2, 3, 4] rfl hJ26
  · clear hl5
    obtain ⟨yz4, hey⟩ : ∃ z, z = e5 := ⟨_, rfl⟩
    subst hey
    show RN P 1 kX12_needOf 32 [(3, .int yz4)] [] (S M) r
    refine sb_in [(32, .iload_n 3, 1), (33, .ireturn, 1)] 34 (by decide +kernel) ?_
    refine sb_iload_n rfl ?_
    cases h
    subst hr
    refine sb_ireturn ?_
    exact ⟨.int, rfl, rfl⟩
theorem tfM_needOf {P : Px} {x1 : Int32} {x2 : Int32} {M : Mm} {rr : Int32} (h : fM_needOf x1 x2 M = some rr) : EX P 1 kX12_needOf [.ref 217, .int x1, .int x2] (S M) (some (.int rr), S M) := ex_of oX12_needOf (Nat.le_of_ble_eq_true rfl) (nfM_needOf  h rfl)
set_option maxRecDepth 20000 in
theorem nfM_lays {P : Px} {x1 : Int32} {M : Mm} {rr : (Int32 × Mm)} (h : fM_lays x1 M = some rr) {r : Option Value × Sg} (hr : r = (some (.int rr.1), S rr.2)) : RN P 2 kX12_lays 0 [(0, .ref 217), (1, .int x1)] [] (S M) r := by
  unfold fM_lays at h
  refine sb_in [(0, .aload_n 0, 1), (1, .iconst 0, 1), (2, .putfield 116, 3), (5, .aload_n 0, 1), (6, .iload_n 1, 1), (7, .iconst 0, 1), (8, .iconst 1, 1), (9, .invokevirtual 143, 3), (12, .ifCond .ne 5, 3)] 15 (by decide +kernel) ?_
  refine sb_aload_n rfl ?_
  refine sb_iconst cI0 ?_
  refine ss_putI p12_116 h217 (by decide) ?_
  refine sb_aload_n rfl ?_
  refine sb_iload_n rfl ?_
  refine sb_iconst cI0 ?_
  refine sb_iconst cI1 ?_
  refine sb_callVi 3 rfl oX12_isIn ln12_143 vX12_isIn (rc_own h217.1 (S_lt h217.2) (by decide)) (rnCk_of (by decide +kernel) rfl) (tfM_isIn) ?_
  rcases ife h with ⟨cz18, h⟩ | ⟨cz18, h⟩
  · refine sb_if_ne_f 17 cz18 (by decide) ?_
    refine sb_in [(15, .iconst (-1), 1), (16, .ireturn, 1)] 17 (by decide +kernel) ?_
    refine sb_iconst cIm1 ?_
    cases h
    subst hr
    refine sb_ireturn ?_
    exact ⟨.int, rfl, rfl⟩
  · refine sb_if_ne_t 17 cz18 (by decide) ?_
    refine sb_in [(17, .aload_n 0, 1), (18, .getfield 448, 3), (21, .ifCond .ne 7, 3)] 24 (by decide +kernel) ?_
    refine sb_aload_n rfl ?_
    refine ss_getI g12_448 h217 ?_
    have hJ31 : RN P 2 kX12_lays 31 [(0, .ref 217), (1, .int x1)] [.int (if ((mput M 217 0 0) 217 53) = 0 then (0 : Int32) else 100000000)] (S (mput M 217 0 0)) r := by
      refine sb_in [(31, .istore_n 2, 1), (32, .iconst 1, 1), (33, .istore_n 3, 1), (34, .iconst 0, 1), (35, .istore 4, 2)] 37 (by decide +kernel) ?_
      refine sb_istore_n (by decide) rfl ?_
      refine sb_iconst cI1 ?_
      refine sb_istore_n (by decide) rfl ?_
      refine sb_iconst cI0 ?_
      refine sb_istore (by decide) rfl ?_
      refine sb_end ?_
      obtain ⟨e37, hl37, h⟩ := bd h
      refine rn_sub [0, 1, 2, 3, 4] rfl ?_
      refine lp_ind (P := fun s => RN P 2 kX12_lays 37 [(0, .ref 217), (1, .int x1), (2, .int s.1), (3, .int s.2.1), (4, .int s.2.2)] [] (S (mput M 217 0 0)) r) (E := fun p => RN P 2 kX12_lays 109 [(1, .int x1), (2, .int p.1), (3, .int p.2)] [] (S (mput M 217 0 0)) r) ?_ _ _ _ hl37 ?_
      · intro s qx h hc
        obtain ⟨x2, x3, x4⟩ := s
        replace h : fM_lays_b37 x1 (mput M 217 0 0) x2 x3 x4 = some qx := h
        show RN P 2 kX12_lays 37 [(0, .ref 217), (1, .int x1), (2, .int x2), (3, .int x3), (4, .int x4)] [] (S (mput M 217 0 0)) r
        generalize (mput M 217 0 0) = M at h hc ⊢
        unfold fM_lays_b37 at h
        refine sb_in [(37, .iload 4, 2), (39, .aload_n 0, 1), (40, .getfield 448, 3), (43, .if_icmp .ge 66, 3)] 46 (by decide +kernel) ?_
        refine sb_iload rfl ?_
        refine sb_aload_n rfl ?_
        refine ss_getI g12_448 h217 ?_
        rcases ife h with ⟨cz19, h⟩ | ⟨cz19, h⟩
        · refine sb_icmp_ge_t 109 cz19 (by decide) ?_
          cases h
          exact rn_sub [1, 2, 3] rfl hc
        · refine sb_icmp_ge_f 109 cz19 (by decide) ?_
          refine sb_in [(46, .aload_n 0, 1), (47, .iload_n 2, 1), (48, .aload_n 0, 1), (49, .getfield 98, 3), (52, .aload_n 0, 1), (53, .getfield 101, 3), (56, .iload 4, 2), (58, .iaload, 1), (59, .iaload, 1), (60, .aload_n 0, 1), (61, .aload_n 0, 1), (62, .getfield 101, 3), (65, .iload 4, 2), (67, .iaload, 1), (68, .aload_n 0, 1), (69, .getfield 448, 3), (72, .invokevirtual 451, 3), (75, .idiv, 1), (76, .invokevirtual 353, 3), (79, .istore_n 2, 1), (80, .iload_n 3, 1), (81, .iload 4, 2), (83, .iconst 1, 1), (84, .iadd, 1), (85, .imul, 1), (86, .aload_n 0, 1), (87, .aload_n 0, 1), (88, .getfield 101, 3), (91, .iload 4, 2), (93, .iaload, 1), (94, .iload 4, 2), (96, .iconst 1, 1), (97, .iadd, 1), (98, .invokevirtual 451, 3), (101, .idiv, 1), (102, .istore_n 3, 1), (103, .iinc 4 1, 3), (106, .goto (-69), 3)] 109 (by decide +kernel) ?_
          refine sb_aload_n rfl ?_
          refine sb_iload_n rfl ?_
          refine sb_aload_n rfl ?_
          refine ss_getR g12_98 h217 r217_52 ?_
          refine sb_aload_n rfl ?_
          refine ss_getR g12_101 h217 r217_54 ?_
          refine sb_iload rfl ?_
          obtain ⟨hgz4, h⟩ := gd h
          refine ss_iald h247 hgz4 ?_
          obtain ⟨hgz5, h⟩ := gd h
          refine ss_iald h246 hgz5 ?_
          refine sb_aload_n rfl ?_
          refine sb_aload_n rfl ?_
          refine ss_getR g12_101 h217 r217_54 ?_
          refine sb_iload rfl ?_
          obtain ⟨hgz6, h⟩ := gd h
          refine ss_iald h247 hgz6 ?_
          refine sb_aload_n rfl ?_
          refine ss_getI g12_448 h217 ?_
          obtain ⟨qz8, hez7, h⟩ := bd h
          refine sb_callVi 2 rfl oX12_needOf ln12_451 vX12_needOf (rc_own h217.1 (S_lt h217.2) (by decide)) (rnCk_of (by decide +kernel) rfl) (tfM_needOf hez7) ?_
          obtain ⟨hgz9, h⟩ := gd h
          refine sb_idiv hgz9 ?_
          refine sb_callVi 2 rfl oX12_lesser ln12_353 vX12_lesser (rc_own h217.1 (S_lt h217.2) (by decide)) (rnCk_of (by decide +kernel) rfl) (tfM_lesser) ?_
          refine sb_istore_n (by decide) rfl ?_
          refine sb_iload_n rfl ?_
          refine sb_iload rfl ?_
          refine sb_iconst cI1 ?_
          refine sb_iadd ?_
          refine sb_imul ?_
          refine sb_aload_n rfl ?_
          refine sb_aload_n rfl ?_
          refine ss_getR g12_101 h217 r217_54 ?_
          refine sb_iload rfl ?_
          obtain ⟨hgz11, h⟩ := gd h
          refine ss_iald h247 hgz11 ?_
          refine sb_iload rfl ?_
          refine sb_iconst cI1 ?_
          refine sb_iadd ?_
          obtain ⟨qz13, hez12, h⟩ := bd h
          refine sb_callVi 2 rfl oX12_needOf ln12_451 vX12_needOf (rc_own h217.1 (S_lt h217.2) (by decide)) (rnCk_of (by decide +kernel) rfl) (tfM_needOf hez12) ?_
          obtain ⟨hgz14, h⟩ := gd h
          refine sb_idiv hgz14 ?_
          refine sb_istore_n (by decide) rfl ?_
          refine ss_iinc cI1 rfl (by decide) rfl ?_
          refine sb_goto 37 (by decide) ?_
          cases h
          exact rn_sub [0, 1, 2, 3, 4] rfl hc
      · clear hl37
        obtain ⟨yz16, yz17⟩ := e37
        show RN P 2 kX12_lays 109 [(1, .int x1), (2, .int yz16), (3, .int yz17)] [] (S (mput M 217 0 0)) r
        refine sb_in [(109, .iload_n 1, 1), (110, .ifCond .ne 7, 3)] 113 (by decide +kernel) ?_
        refine sb_iload_n rfl ?_
        rcases ife h with ⟨cz20, h⟩ | ⟨cz20, h⟩
        · refine sb_if_ne_f 117 cz20 (by decide) ?_
          refine sb_in [(113, .iload_n 2, 1), (114, .goto 4, 3)] 117 (by decide +kernel) ?_
          refine sb_iload_n rfl ?_
          refine sb_goto 118 (by decide) ?_
          refine sb_in [(118, .ireturn, 1)] 119 (by decide +kernel) ?_
          cases h
          subst hr
          refine sb_ireturn ?_
          exact ⟨.int, rfl, rfl⟩
        · refine sb_if_ne_t 117 cz20 (by decide) ?_
          refine sb_in [(117, .iload_n 3, 1)] 118 (by decide +kernel) ?_
          refine sb_iload_n rfl ?_
          refine sb_end ?_
          refine sb_in [(118, .ireturn, 1)] 119 (by decide +kernel) ?_
          cases h
          subst hr
          refine sb_ireturn ?_
          exact ⟨.int, rfl, rfl⟩
    rcases Decidable.em (((mput M 217 0 0) 217 53) = 0) with cz21 | cz21
    · refine sb_if_ne_f 28 cz21 (by decide) ?_
      refine sb_in [(24, .iconst 0, 1), (25, .goto 6, 3)] 28 (by decide +kernel) ?_
      refine sb_iconst cI0 ?_
      refine sb_goto 31 (by decide) ?_
      have hq := hJ31
      simp only [if_pos cz21] at hq
      exact rn_sub [0, 1] rfl hq
    · refine sb_if_ne_t 28 cz21 (by decide) ?_
      refine sb_in [(28, .ldc_w 405, 3)] 31 (by decide +kernel) ?_
      refine sb_ldcw (v := 100000000) rfl ?_
      refine sb_end ?_
      have hq := hJ31
      simp only [if_neg cz21] at hq
      exact rn_sub [0, 1] rfl hq
theorem tfM_lays {P : Px} {x1 : Int32} {M : Mm} {rr : (Int32 × Mm)} (h : fM_lays x1 M = some rr) : EX P 2 kX12_lays [.ref 217, .int x1] (S M) (some (.int rr.1), S rr.2) := ex_of oX12_lays (Nat.le_of_ble_eq_true rfl) (nfM_lays  h rfl)
set_option maxRecDepth 20000 in
theorem nfM_answer {P : Px} {x1 : Int32} {x2 : Int32} {M : Mm} {rr : (Int32 × Mm)} (h : fM_answer x1 x2 M = some rr) {r : Option Value × Sg} (hr : r = (some (.int rr.1), S rr.2)) : RN P 2 kX12_answer 0 [(0, .ref 217), (1, .int x1), (2, .int x2)] [] (S M) r := by
  unfold fM_answer at h
  refine sb_in [(0, .aload_n 0, 1), (1, .iconst 0, 1), (2, .putfield 116, 3), (5, .iload_n 1, 1), (6, .iconst (-1), 1), (7, .if_icmp .ne 31, 3)] 10 (by decide +kernel) ?_
  refine sb_aload_n rfl ?_
  refine sb_iconst cI0 ?_
  refine ss_putI p12_116 h217 (by decide) ?_
  refine sb_iload_n rfl ?_
  refine sb_iconst cIm1 ?_
  rcases ife h with ⟨cz12, h⟩ | ⟨cz12, h⟩
  · refine sb_icmp_ne_f 38 cz12 (by decide) ?_
    refine sb_in [(10, .aload_n 0, 1), (11, .iconst 0, 1), (12, .putfield 454, 3), (15, .iconst 0, 1), (16, .istore_n 3, 1)] 17 (by decide +kernel) ?_
    refine sb_aload_n rfl ?_
    refine sb_iconst cI0 ?_
    refine ss_putI p12_454 h217 (by decide) ?_
    refine sb_iconst cI0 ?_
    refine sb_istore_n (by decide) rfl ?_
    refine sb_end ?_
    obtain ⟨e17, hl17, h⟩ := bd h
    refine rn_sub [0, 3] rfl ?_
    refine lp_ind (P := fun s => RN P 2 kX12_answer 17 [(0, .ref 217), (3, .int s.1)] [] (S s.2) r) (E := fun p => RN P 2 kX12_answer 36 [] [] (S p) r) ?_ _ _ _ hl17 ?_
    · intro s qx h hc
      obtain ⟨x3, M⟩ := s
      replace h : fM_answer_b17 x3 M = some qx := h
      show RN P 2 kX12_answer 17 [(0, .ref 217), (3, .int x3)] [] (S M) r
      unfold fM_answer_b17 at h
      refine sb_in [(17, .iload_n 3, 1), (18, .bipush 49, 2), (20, .if_icmp .ge 16, 3)] 23 (by decide +kernel) ?_
      refine sb_iload_n rfl ?_
      refine sb_bipush cB49 ?_
      rcases ife h with ⟨cz13, h⟩ | ⟨cz13, h⟩
      · refine sb_icmp_ge_t 36 cz13 (by decide) ?_
        cases h
        exact rn_sub [] rfl hc
      · refine sb_icmp_ge_f 36 cz13 (by decide) ?_
        refine sb_in [(23, .aload_n 0, 1), (24, .getfield 104, 3), (27, .iload_n 3, 1), (28, .iconst 0, 1), (29, .iastore, 1), (30, .iinc 3 1, 3), (33, .goto (-16), 3)] 36 (by decide +kernel) ?_
        refine sb_aload_n rfl ?_
        refine ss_getR g12_104 h217 r217_56 ?_
        refine sb_iload_n rfl ?_
        refine sb_iconst cI0 ?_
        obtain ⟨hgz10, h⟩ := gd h
        refine ss_iast h248 (by decide) hgz10 ?_
        refine ss_iinc cI1 rfl (by decide) rfl ?_
        refine sb_goto 17 (by decide) ?_
        cases h
        exact rn_sub [0, 3] rfl hc
    · clear hl17
      obtain ⟨Mz11, hey⟩ : ∃ z, z = e17 := ⟨_, rfl⟩
      subst hey
      show RN P 2 kX12_answer 36 [] [] (S Mz11) r
      refine sb_in [(36, .iconst 0, 1), (37, .ireturn, 1)] 38 (by decide +kernel) ?_
      refine sb_iconst cI0 ?_
      cases h
      subst hr
      refine sb_ireturn ?_
      exact ⟨.int, rfl, rfl⟩
  · refine sb_icmp_ne_t 38 cz12 (by decide) ?_
    refine sb_in [(38, .aload_n 0, 1), (39, .iload_n 1, 1), (40, .iconst 0, 1), (41, .bipush 6, 2), (43, .invokevirtual 143, 3), (46, .ifCond .eq 23, 3)] 49 (by decide +kernel) ?_
    refine sb_aload_n rfl ?_
    refine sb_iload_n rfl ?_
    refine sb_iconst cI0 ?_
    refine sb_bipush cB6 ?_
    refine sb_callVi 3 rfl oX12_isIn ln12_143 vX12_isIn (rc_own h217.1 (S_lt h217.2) (by decide)) (rnCk_of (by decide +kernel) rfl) (tfM_isIn) ?_
    rcases ife h with ⟨cz14, h⟩ | ⟨cz14, h⟩
    · refine sb_if_eq_t 69 cz14 (by decide) ?_
      refine sb_in [(69, .iconst (-1), 1), (70, .ireturn, 1)] 71 (by decide +kernel) ?_
      refine sb_iconst cIm1 ?_
      cases h
      subst hr
      refine sb_ireturn ?_
      exact ⟨.int, rfl, rfl⟩
    · refine sb_if_eq_f 69 cz14 (by decide) ?_
      refine sb_in [(49, .aload_n 0, 1), (50, .iload_n 2, 1), (51, .iconst 0, 1), (52, .bipush 6, 2), (54, .invokevirtual 143, 3), (57, .ifCond .eq 12, 3)] 60 (by decide +kernel) ?_
      refine sb_aload_n rfl ?_
      refine sb_iload_n rfl ?_
      refine sb_iconst cI0 ?_
      refine sb_bipush cB6 ?_
      refine sb_callVi 3 rfl oX12_isIn ln12_143 vX12_isIn (rc_own h217.1 (S_lt h217.2) (by decide)) (rnCk_of (by decide +kernel) rfl) (tfM_isIn) ?_
      rcases ife h with ⟨cz15, h⟩ | ⟨cz15, h⟩
      · refine sb_if_eq_t 69 cz15 (by decide) ?_
        refine sb_in [(69, .iconst (-1), 1), (70, .ireturn, 1)] 71 (by decide +kernel) ?_
        refine sb_iconst cIm1 ?_
        cases h
        subst hr
        refine sb_ireturn ?_
        exact ⟨.int, rfl, rfl⟩
      · refine sb_if_eq_f 69 cz15 (by decide) ?_
        refine sb_in [(60, .aload_n 0, 1), (61, .getfield 454, 3), (64, .bipush 12, 2), (66, .if_icmp .ne 5, 3)] 69 (by decide +kernel) ?_
        refine sb_aload_n rfl ?_
        refine ss_getI g12_454 h217 ?_
        refine sb_bipush cB12 ?_
        rcases ife h with ⟨cz16, h⟩ | ⟨cz16, h⟩
        · refine sb_icmp_ne_f 71 cz16 (by decide) ?_
          refine sb_in [(69, .iconst (-1), 1), (70, .ireturn, 1)] 71 (by decide +kernel) ?_
          refine sb_iconst cIm1 ?_
          cases h
          subst hr
          refine sb_ireturn ?_
          exact ⟨.int, rfl, rfl⟩
        · refine sb_icmp_ne_t 71 cz16 (by decide) ?_
          refine sb_in [(71, .aload_n 0, 1), (72, .getfield 104, 3), (75, .bipush 7, 2), (77, .iload_n 1, 1), (78, .imul, 1), (79, .iload_n 2, 1), (80, .iadd, 1), (81, .aload_n 0, 1), (82, .getfield 104, 3), (85, .bipush 7, 2), (87, .iload_n 1, 1), (88, .imul, 1), (89, .iload_n 2, 1), (90, .iadd, 1), (91, .iaload, 1), (92, .iconst 1, 1), (93, .iadd, 1), (94, .iastore, 1), (95, .aload_n 0, 1), (96, .aload_n 0, 1), (97, .getfield 454, 3), (100, .iconst 1, 1), (101, .iadd, 1), (102, .putfield 454, 3), (105, .aload_n 0, 1), (106, .getfield 454, 3), (109, .ireturn, 1)] 110 (by decide +kernel) ?_
          refine sb_aload_n rfl ?_
          refine ss_getR g12_104 h217 r217_56 ?_
          refine sb_bipush cB7 ?_
          refine sb_iload_n rfl ?_
          refine sb_imul ?_
          refine sb_iload_n rfl ?_
          refine sb_iadd ?_
          refine sb_aload_n rfl ?_
          refine ss_getR g12_104 h217 r217_56 ?_
          refine sb_bipush cB7 ?_
          refine sb_iload_n rfl ?_
          refine sb_imul ?_
          refine sb_iload_n rfl ?_
          refine sb_iadd ?_
          obtain ⟨hgz4, h⟩ := gd h
          refine ss_iald h248 hgz4 ?_
          refine sb_iconst cI1 ?_
          refine sb_iadd ?_
          obtain ⟨hgz6, h⟩ := gd h
          refine ss_iast h248 (by decide) hgz6 ?_
          refine sb_aload_n rfl ?_
          refine sb_aload_n rfl ?_
          refine ss_getI g12_454 h217 ?_
          refine sb_iconst cI1 ?_
          refine sb_iadd ?_
          refine ss_putI p12_454 h217 (by decide) ?_
          refine sb_aload_n rfl ?_
          refine ss_getI g12_454 h217 ?_
          cases h
          subst hr
          refine sb_ireturn ?_
          exact ⟨.int, rfl, rfl⟩
theorem tfM_answer {P : Px} {x1 : Int32} {x2 : Int32} {M : Mm} {rr : (Int32 × Mm)} (h : fM_answer x1 x2 M = some rr) : EX P 2 kX12_answer [.ref 217, .int x1, .int x2] (S M) (some (.int rr.1), S rr.2) := ex_of oX12_answer (Nat.le_of_ble_eq_true rfl) (nfM_answer  h rfl)
set_option maxRecDepth 20000 in
theorem nfM_likelyOf {P : Px} {x1 : Int32} {M : Mm} {rr : Int32} (h : fM_likelyOf x1 M = some rr) {r : Option Value × Sg} (hr : r = (some (.int rr), S M)) : RN P 1 kX12_likelyOf 0 [(0, .ref 217), (1, .int x1)] [] (S M) r := by
  unfold fM_likelyOf at h
  refine sb_in [(0, .iconst (-1), 1), (1, .istore_n 2, 1), (2, .iconst 0, 1), (3, .istore_n 3, 1)] 4 (by decide +kernel) ?_
  refine sb_iconst cIm1 ?_
  refine sb_istore_n (by decide) rfl ?_
  refine sb_iconst cI0 ?_
  refine sb_istore_n (by decide) rfl ?_
  refine sb_end ?_
  obtain ⟨e4, hl4, h⟩ := bd h
  refine rn_sub [0, 1, 2, 3] rfl ?_
  refine lp_ind (P := fun s => RN P 1 kX12_likelyOf 4 [(0, .ref 217), (1, .int x1), (2, .int s.1), (3, .int s.2)] [] (S M) r) (E := fun p => RN P 1 kX12_likelyOf 52 [(2, .int p)] [] (S M) r) ?_ _ _ _ hl4 ?_
  · intro s qx h hc
    obtain ⟨x2, x3⟩ := s
    replace h : fM_likelyOf_b4 x1 M x2 x3 = some qx := h
    show RN P 1 kX12_likelyOf 4 [(0, .ref 217), (1, .int x1), (2, .int x2), (3, .int x3)] [] (S M) r
    unfold fM_likelyOf_b4 at h
    refine sb_in [(4, .iload_n 3, 1), (5, .bipush 7, 2), (7, .if_icmp .ge 45, 3)] 10 (by decide +kernel) ?_
    refine sb_iload_n rfl ?_
    refine sb_bipush cB7 ?_
    rcases ife h with ⟨cz5, h⟩ | ⟨cz5, h⟩
    · refine sb_icmp_ge_t 52 cz5 (by decide) ?_
      cases h
      exact rn_sub [2] rfl hc
    · refine sb_icmp_ge_f 52 cz5 (by decide) ?_
      refine sb_in [(10, .aload_n 0, 1), (11, .getfield 104, 3), (14, .bipush 7, 2), (16, .iload_n 1, 1), (17, .imul, 1), (18, .iload_n 3, 1), (19, .iadd, 1), (20, .iaload, 1), (21, .iload_n 2, 1), (22, .iconst (-1), 1), (23, .if_icmp .ne 7, 3)] 26 (by decide +kernel) ?_
      refine sb_aload_n rfl ?_
      refine ss_getR g12_104 h217 r217_56 ?_
      refine sb_bipush cB7 ?_
      refine sb_iload_n rfl ?_
      refine sb_imul ?_
      refine sb_iload_n rfl ?_
      refine sb_iadd ?_
      obtain ⟨hgz1, h⟩ := gd h
      refine ss_iald h248 hgz1 ?_
      refine sb_iload_n rfl ?_
      refine sb_iconst cIm1 ?_
      obtain ⟨yz3, hj41, h⟩ := bd h
      have hJ41 : RN P 1 kX12_likelyOf 41 [(0, .ref 217), (1, .int x1), (2, .int x2), (3, .int x3)] [.int yz3, .int (M 248 (jix ((7 * x1) + x3)))] (S M) r := by
        refine sb_in [(41, .if_icmp .le 5, 3)] 44 (by decide +kernel) ?_
        have hJ46 : RN P 1 kX12_likelyOf 46 [(0, .ref 217), (1, .int x1), (2, .int (if (M 248 (jix ((7 * x1) + x3))) ≤ yz3 then x2 else x3)), (3, .int x3)] [] (S M) r := by
          refine sb_in [(46, .iinc 3 1, 3), (49, .goto (-45), 3)] 52 (by decide +kernel) ?_
          refine ss_iinc cI1 rfl (by decide) rfl ?_
          refine sb_goto 4 (by decide) ?_
          cases h
          exact rn_sub [0, 1, 2, 3] rfl hc
        rcases Decidable.em ((M 248 (jix ((7 * x1) + x3))) ≤ yz3) with cz6 | cz6
        · refine sb_icmp_le_t 46 cz6 (by decide) ?_
          have hq := hJ46
          simp only [if_pos cz6] at hq
          exact rn_sub [0, 1, 2, 3] rfl hq
        · refine sb_icmp_le_f 46 cz6 (by decide) ?_
          refine sb_in [(44, .iload_n 3, 1), (45, .istore_n 2, 1)] 46 (by decide +kernel) ?_
          refine sb_iload_n rfl ?_
          refine sb_istore_n (by decide) rfl ?_
          refine sb_end ?_
          have hq := hJ46
          simp only [if_neg cz6] at hq
          exact rn_sub [0, 1, 2, 3] rfl hq
      clear h
      have h := hj41
      clear hj41
      rcases ife h with ⟨cz7, h⟩ | ⟨cz7, h⟩
      · refine sb_icmp_ne_f 30 cz7 (by decide) ?_
        refine sb_in [(26, .iconst 0, 1), (27, .goto 14, 3)] 30 (by decide +kernel) ?_
        refine sb_iconst cI0 ?_
        refine sb_goto 41 (by decide) ?_
        cases h
        exact rn_sub [0, 1, 2, 3] rfl hJ41
      · refine sb_icmp_ne_t 30 cz7 (by decide) ?_
        refine sb_in [(30, .aload_n 0, 1), (31, .getfield 104, 3), (34, .bipush 7, 2), (36, .iload_n 1, 1), (37, .imul, 1), (38, .iload_n 2, 1), (39, .iadd, 1), (40, .iaload, 1)] 41 (by decide +kernel) ?_
        refine sb_aload_n rfl ?_
        refine ss_getR g12_104 h217 r217_56 ?_
        refine sb_bipush cB7 ?_
        refine sb_iload_n rfl ?_
        refine sb_imul ?_
        refine sb_iload_n rfl ?_
        refine sb_iadd ?_
        obtain ⟨hgz2, h⟩ := gd h
        refine ss_iald h248 hgz2 ?_
        refine sb_end ?_
        cases h
        exact rn_sub [0, 1, 2, 3] rfl hJ41
  · clear hl4
    obtain ⟨yz4, hey⟩ : ∃ z, z = e4 := ⟨_, rfl⟩
    subst hey
    show RN P 1 kX12_likelyOf 52 [(2, .int yz4)] [] (S M) r
    refine sb_in [(52, .iload_n 2, 1), (53, .ireturn, 1)] 54 (by decide +kernel) ?_
    refine sb_iload_n rfl ?_
    cases h
    subst hr
    refine sb_ireturn ?_
    exact ⟨.int, rfl, rfl⟩
theorem tfM_likelyOf {P : Px} {x1 : Int32} {M : Mm} {rr : Int32} (h : fM_likelyOf x1 M = some rr) : EX P 1 kX12_likelyOf [.ref 217, .int x1] (S M) (some (.int rr), S M) := ex_of oX12_likelyOf (Nat.le_of_ble_eq_true rfl) (nfM_likelyOf  h rfl)
set_option maxRecDepth 20000 in
theorem nfM_followsOf {P : Px} {x1 : Int32} {M : Mm} {rr : Int32} (h : fM_followsOf x1 M = some rr) {r : Option Value × Sg} (hr : r = (some (.int rr), S M)) : RN P 2 kX12_followsOf 0 [(0, .ref 217), (1, .int x1)] [] (S M) r := by
  unfold fM_followsOf at h
  refine sb_in [(0, .aload_n 0, 1), (1, .iload_n 1, 1), (2, .invokevirtual 457, 3), (5, .iconst (-1), 1), (6, .if_icmp .ne 5, 3)] 9 (by decide +kernel) ?_
  refine sb_aload_n rfl ?_
  refine sb_iload_n rfl ?_
  obtain ⟨qz2, hez1, h⟩ := bd h
  refine sb_callVi 1 rfl oX12_likelyOf ln12_457 vX12_likelyOf (rc_own h217.1 (S_lt h217.2) (by decide)) (rnCk_of (by decide +kernel) rfl) (tfM_likelyOf hez1) ?_
  refine sb_iconst cIm1 ?_
  rcases ife h with ⟨cz9, h⟩ | ⟨cz9, h⟩
  · refine sb_icmp_ne_f 11 cz9 (by decide) ?_
    refine sb_in [(9, .iconst 0, 1), (10, .ireturn, 1)] 11 (by decide +kernel) ?_
    refine sb_iconst cI0 ?_
    cases h
    subst hr
    refine sb_ireturn ?_
    exact ⟨.int, rfl, rfl⟩
  · refine sb_icmp_ne_t 11 cz9 (by decide) ?_
    refine sb_in [(11, .iconst 0, 1), (12, .istore_n 2, 1), (13, .iload_n 1, 1), (14, .istore_n 3, 1), (15, .iconst 0, 1), (16, .istore 4, 2)] 18 (by decide +kernel) ?_
    refine sb_iconst cI0 ?_
    refine sb_istore_n (by decide) rfl ?_
    refine sb_iload_n rfl ?_
    refine sb_istore_n (by decide) rfl ?_
    refine sb_iconst cI0 ?_
    refine sb_istore (by decide) rfl ?_
    refine sb_end ?_
    obtain ⟨e18, hl18, h⟩ := bd h
    refine rn_sub [0, 2, 3, 4] rfl ?_
    refine lp_ind (P := fun s => RN P 2 kX12_followsOf 18 [(0, .ref 217), (2, .int s.1), (3, .int s.2.1), (4, .int s.2.2)] [] (S M) r) (E := fun e => match e with | Sum.inl p => RN P 2 kX12_followsOf 50 [] [] (S M) r | Sum.inr p => RN P 2 kX12_followsOf 52 [(4, .int p)] [] (S M) r) ?_ _ _ _ hl18 ?_
    · intro s qx h hc
      obtain ⟨x2, x3, x4⟩ := s
      replace h : fM_followsOf_b18 M x2 x3 x4 = some qx := h
      show RN P 2 kX12_followsOf 18 [(0, .ref 217), (2, .int x2), (3, .int x3), (4, .int x4)] [] (S M) r
      unfold fM_followsOf_b18 at h
      refine sb_in [(18, .aload_n 0, 1), (19, .iload_n 2, 1), (20, .iload_n 3, 1), (21, .invokevirtual 377, 3), (24, .ifCond .ne 28, 3)] 27 (by decide +kernel) ?_
      refine sb_aload_n rfl ?_
      refine sb_iload_n rfl ?_
      refine sb_iload_n rfl ?_
      refine sb_callVi 2 rfl oX12_lies ln12_377 vX12_lies (rc_own h217.1 (S_lt h217.2) (by decide)) (rnCk_of (by decide +kernel) rfl) (tfM_lies) ?_
      rcases ife h with ⟨cz10, h⟩ | ⟨cz10, h⟩
      · refine sb_if_ne_f 52 cz10 (by decide) ?_
        refine sb_in [(27, .iload_n 2, 1), (28, .iconst 1, 1), (29, .iload_n 3, 1), (30, .ishl, 1), (31, .ior, 1), (32, .istore_n 2, 1), (33, .aload_n 0, 1), (34, .iload_n 3, 1), (35, .invokevirtual 457, 3), (38, .istore_n 3, 1), (39, .iload 4, 2), (41, .iconst 1, 1), (42, .iadd, 1), (43, .istore 4, 2), (45, .iload_n 3, 1), (46, .iconst (-1), 1), (47, .if_icmp .ne (-29), 3)] 50 (by decide +kernel) ?_
        refine sb_iload_n rfl ?_
        refine sb_iconst cI1 ?_
        refine sb_iload_n rfl ?_
        refine sb_ishl ?_
        refine sb_ior ?_
        refine sb_istore_n (by decide) rfl ?_
        refine sb_aload_n rfl ?_
        refine sb_iload_n rfl ?_
        obtain ⟨qz6, hez5, h⟩ := bd h
        refine sb_callVi 1 rfl oX12_likelyOf ln12_457 vX12_likelyOf (rc_own h217.1 (S_lt h217.2) (by decide)) (rnCk_of (by decide +kernel) rfl) (tfM_likelyOf hez5) ?_
        refine sb_istore_n (by decide) rfl ?_
        refine sb_iload rfl ?_
        refine sb_iconst cI1 ?_
        refine sb_iadd ?_
        refine sb_istore (by decide) rfl ?_
        refine sb_iload_n rfl ?_
        refine sb_iconst cIm1 ?_
        rcases ife h with ⟨cz11, h⟩ | ⟨cz11, h⟩
        · refine sb_icmp_ne_f 18 cz11 (by decide) ?_
          cases h
          exact rn_sub [] rfl hc
        · refine sb_icmp_ne_t 18 cz11 (by decide) ?_
          cases h
          exact rn_sub [0, 2, 3, 4] rfl hc
      · refine sb_if_ne_t 52 cz10 (by decide) ?_
        cases h
        exact rn_sub [4] rfl hc
    · clear hl18
      rcases e18 with e18 | e18
      · skip
        show RN P 2 kX12_followsOf 50 [] [] (S M) r
        refine sb_in [(50, .iconst (-1), 1), (51, .ireturn, 1)] 52 (by decide +kernel) ?_
        refine sb_iconst cIm1 ?_
        cases h
        subst hr
        refine sb_ireturn ?_
        exact ⟨.int, rfl, rfl⟩
      · skip
        obtain ⟨yz8, hey⟩ : ∃ z, z = e18 := ⟨_, rfl⟩
        subst hey
        show RN P 2 kX12_followsOf 52 [(4, .int yz8)] [] (S M) r
        refine sb_in [(52, .iload 4, 2), (54, .ireturn, 1)] 55 (by decide +kernel) ?_
        refine sb_iload rfl ?_
        cases h
        subst hr
        refine sb_ireturn ?_
        exact ⟨.int, rfl, rfl⟩
theorem tfM_followsOf {P : Px} {x1 : Int32} {M : Mm} {rr : Int32} (h : fM_followsOf x1 M = some rr) : EX P 2 kX12_followsOf [.ref 217, .int x1] (S M) (some (.int rr), S M) := ex_of oX12_followsOf (Nat.le_of_ble_eq_true rfl) (nfM_followsOf  h rfl)
set_option maxRecDepth 20000 in
theorem nfM_likely {P : Px} {x1 : Int32} {x2 : Int32} {M : Mm} {rr : (Int32 × Mm)} (h : fM_likely x1 x2 M = some rr) {r : Option Value × Sg} (hr : r = (some (.int rr.1), S rr.2)) : RN P 3 kX12_likely 0 [(0, .ref 217), (1, .int x1), (2, .int x2)] [] (S M) r := by
  unfold fM_likely at h
  refine sb_in [(0, .aload_n 0, 1), (1, .iconst 0, 1), (2, .putfield 116, 3), (5, .aload_n 0, 1), (6, .iload_n 1, 1), (7, .iconst 0, 1), (8, .bipush 6, 2), (10, .invokevirtual 143, 3), (13, .ifCond .eq 13, 3)] 16 (by decide +kernel) ?_
  refine sb_aload_n rfl ?_
  refine sb_iconst cI0 ?_
  refine ss_putI p12_116 h217 (by decide) ?_
  refine sb_aload_n rfl ?_
  refine sb_iload_n rfl ?_
  refine sb_iconst cI0 ?_
  refine sb_bipush cB6 ?_
  refine sb_callVi 3 rfl oX12_isIn ln12_143 vX12_isIn (rc_own h217.1 (S_lt h217.2) (by decide)) (rnCk_of (by decide +kernel) rfl) (tfM_isIn) ?_
  rcases ife h with ⟨cz8, h⟩ | ⟨cz8, h⟩
  · refine sb_if_eq_t 26 cz8 (by decide) ?_
    refine sb_in [(26, .iconst (-1), 1), (27, .ireturn, 1)] 28 (by decide +kernel) ?_
    refine sb_iconst cIm1 ?_
    cases h
    subst hr
    refine sb_ireturn ?_
    exact ⟨.int, rfl, rfl⟩
  · refine sb_if_eq_f 26 cz8 (by decide) ?_
    refine sb_in [(16, .aload_n 0, 1), (17, .iload_n 2, 1), (18, .iconst 0, 1), (19, .iconst 1, 1), (20, .invokevirtual 143, 3), (23, .ifCond .ne 5, 3)] 26 (by decide +kernel) ?_
    refine sb_aload_n rfl ?_
    refine sb_iload_n rfl ?_
    refine sb_iconst cI0 ?_
    refine sb_iconst cI1 ?_
    refine sb_callVi 3 rfl oX12_isIn ln12_143 vX12_isIn (rc_own h217.1 (S_lt h217.2) (by decide)) (rnCk_of (by decide +kernel) rfl) (tfM_isIn) ?_
    rcases ife h with ⟨cz9, h⟩ | ⟨cz9, h⟩
    · refine sb_if_ne_f 28 cz9 (by decide) ?_
      refine sb_in [(26, .iconst (-1), 1), (27, .ireturn, 1)] 28 (by decide +kernel) ?_
      refine sb_iconst cIm1 ?_
      cases h
      subst hr
      refine sb_ireturn ?_
      exact ⟨.int, rfl, rfl⟩
    · refine sb_if_ne_t 28 cz9 (by decide) ?_
      refine sb_in [(28, .iload_n 2, 1), (29, .ifCond .ne 11, 3)] 32 (by decide +kernel) ?_
      refine sb_iload_n rfl ?_
      rcases ife h with ⟨cz10, h⟩ | ⟨cz10, h⟩
      · refine sb_if_ne_f 40 cz10 (by decide) ?_
        refine sb_in [(32, .aload_n 0, 1), (33, .iload_n 1, 1), (34, .invokevirtual 457, 3), (37, .goto 8, 3)] 40 (by decide +kernel) ?_
        refine sb_aload_n rfl ?_
        refine sb_iload_n rfl ?_
        obtain ⟨qz7, hez6, h⟩ := bd h
        refine sb_callVi 1 rfl oX12_likelyOf ln12_457 vX12_likelyOf (rc_own h217.1 (S_lt h217.2) (by decide)) (rnCk_of (by decide +kernel) rfl) (tfM_likelyOf hez6) ?_
        refine sb_goto 45 (by decide) ?_
        refine sb_in [(45, .ireturn, 1)] 46 (by decide +kernel) ?_
        cases h
        subst hr
        refine sb_ireturn ?_
        exact ⟨.int, rfl, rfl⟩
      · refine sb_if_ne_t 40 cz10 (by decide) ?_
        refine sb_in [(40, .aload_n 0, 1), (41, .iload_n 1, 1), (42, .invokevirtual 460, 3)] 45 (by decide +kernel) ?_
        refine sb_aload_n rfl ?_
        refine sb_iload_n rfl ?_
        obtain ⟨qz5, hez4, h⟩ := bd h
        refine sb_callVi 1 rfl oX12_followsOf ln12_460 vX12_followsOf (rc_own h217.1 (S_lt h217.2) (by decide)) (rnCk_of (by decide +kernel) rfl) (tfM_followsOf hez4) ?_
        refine sb_end ?_
        refine sb_in [(45, .ireturn, 1)] 46 (by decide +kernel) ?_
        cases h
        subst hr
        refine sb_ireturn ?_
        exact ⟨.int, rfl, rfl⟩
theorem tfM_likely {P : Px} {x1 : Int32} {x2 : Int32} {M : Mm} {rr : (Int32 × Mm)} (h : fM_likely x1 x2 M = some rr) : EX P 3 kX12_likely [.ref 217, .int x1, .int x2] (S M) (some (.int rr.1), S rr.2) := ex_of oX12_likely (Nat.le_of_ble_eq_true rfl) (nfM_likely  h rfl)
set_option maxRecDepth 20000 in
theorem nfM_face {P : Px} {x1 : Int32} {x2 : Int32} {M : Mm} {rr : (Int32 × Mm)} (h : fM_face x1 x2 M = some rr) {r : Option Value × Sg} (hr : r = (some (.int rr.1), S rr.2)) : RN P 2 kX12_face 0 [(0, .ref 217), (1, .int x1), (2, .int x2)] [] (S M) r := by
  unfold fM_face at h
  refine sb_in [(0, .aload_n 0, 1), (1, .iconst 0, 1), (2, .putfield 116, 3), (5, .iload_n 1, 1), (6, .iconst (-1), 1), (7, .if_icmp .ne 10, 3)] 10 (by decide +kernel) ?_
  refine sb_aload_n rfl ?_
  refine sb_iconst cI0 ?_
  refine ss_putI p12_116 h217 (by decide) ?_
  refine sb_iload_n rfl ?_
  refine sb_iconst cIm1 ?_
  rcases ife h with ⟨cz10, h⟩ | ⟨cz10, h⟩
  · refine sb_icmp_ne_f 17 cz10 (by decide) ?_
    refine sb_in [(10, .aload_n 0, 1), (11, .iconst 0, 1), (12, .putfield 463, 3), (15, .iconst 0, 1), (16, .ireturn, 1)] 17 (by decide +kernel) ?_
    refine sb_aload_n rfl ?_
    refine sb_iconst cI0 ?_
    refine ss_putI p12_463 h217 (by decide) ?_
    refine sb_iconst cI0 ?_
    cases h
    subst hr
    refine sb_ireturn ?_
    exact ⟨.int, rfl, rfl⟩
  · refine sb_icmp_ne_t 17 cz10 (by decide) ?_
    refine sb_in [(17, .aload_n 0, 1), (18, .iload_n 1, 1), (19, .iconst 0, 1), (20, .bipush 63, 2), (22, .invokevirtual 143, 3), (25, .ifCond .eq 23, 3)] 28 (by decide +kernel) ?_
    refine sb_aload_n rfl ?_
    refine sb_iload_n rfl ?_
    refine sb_iconst cI0 ?_
    refine sb_bipush cB63 ?_
    refine sb_callVi 3 rfl oX12_isIn ln12_143 vX12_isIn (rc_own h217.1 (S_lt h217.2) (by decide)) (rnCk_of (by decide +kernel) rfl) (tfM_isIn) ?_
    rcases ife h with ⟨cz11, h⟩ | ⟨cz11, h⟩
    · refine sb_if_eq_t 48 cz11 (by decide) ?_
      refine sb_in [(48, .iconst (-1), 1), (49, .ireturn, 1)] 50 (by decide +kernel) ?_
      refine sb_iconst cIm1 ?_
      cases h
      subst hr
      refine sb_ireturn ?_
      exact ⟨.int, rfl, rfl⟩
    · refine sb_if_eq_f 48 cz11 (by decide) ?_
      refine sb_in [(28, .aload_n 0, 1), (29, .iload_n 2, 1), (30, .bipush (-2), 2), (32, .iconst 2, 1), (33, .invokevirtual 143, 3), (36, .ifCond .eq 12, 3)] 39 (by decide +kernel) ?_
      refine sb_aload_n rfl ?_
      refine sb_iload_n rfl ?_
      refine sb_bipush cBm2 ?_
      refine sb_iconst cI2 ?_
      refine sb_callVi 3 rfl oX12_isIn ln12_143 vX12_isIn (rc_own h217.1 (S_lt h217.2) (by decide)) (rnCk_of (by decide +kernel) rfl) (tfM_isIn) ?_
      rcases ife h with ⟨cz12, h⟩ | ⟨cz12, h⟩
      · refine sb_if_eq_t 48 cz12 (by decide) ?_
        refine sb_in [(48, .iconst (-1), 1), (49, .ireturn, 1)] 50 (by decide +kernel) ?_
        refine sb_iconst cIm1 ?_
        cases h
        subst hr
        refine sb_ireturn ?_
        exact ⟨.int, rfl, rfl⟩
      · refine sb_if_eq_f 48 cz12 (by decide) ?_
        refine sb_in [(39, .aload_n 0, 1), (40, .getfield 463, 3), (43, .bipush 8, 2), (45, .if_icmp .ne 5, 3)] 48 (by decide +kernel) ?_
        refine sb_aload_n rfl ?_
        refine ss_getI g12_463 h217 ?_
        refine sb_bipush cB8 ?_
        rcases ife h with ⟨cz13, h⟩ | ⟨cz13, h⟩
        · refine sb_icmp_ne_f 50 cz13 (by decide) ?_
          refine sb_in [(48, .iconst (-1), 1), (49, .ireturn, 1)] 50 (by decide +kernel) ?_
          refine sb_iconst cIm1 ?_
          cases h
          subst hr
          refine sb_ireturn ?_
          exact ⟨.int, rfl, rfl⟩
        · refine sb_icmp_ne_t 50 cz13 (by decide) ?_
          refine sb_in [(50, .aload_n 0, 1), (51, .getfield 107, 3), (54, .aload_n 0, 1), (55, .getfield 463, 3), (58, .iload_n 1, 1), (59, .iastore, 1), (60, .aload_n 0, 1), (61, .getfield 110, 3), (64, .aload_n 0, 1), (65, .getfield 463, 3), (68, .iload_n 2, 1), (69, .iastore, 1), (70, .aload_n 0, 1), (71, .aload_n 0, 1), (72, .getfield 463, 3), (75, .iconst 1, 1), (76, .iadd, 1), (77, .putfield 463, 3), (80, .aload_n 0, 1), (81, .getfield 463, 3), (84, .ireturn, 1)] 85 (by decide +kernel) ?_
          refine sb_aload_n rfl ?_
          refine ss_getR g12_107 h217 r217_58 ?_
          refine sb_aload_n rfl ?_
          refine ss_getI g12_463 h217 ?_
          refine sb_iload_n rfl ?_
          obtain ⟨hgz5, h⟩ := gd h
          refine ss_iast h249 (by decide) hgz5 ?_
          refine sb_aload_n rfl ?_
          refine ss_getR g12_110 h217 r217_59 ?_
          refine sb_aload_n rfl ?_
          refine ss_getI g12_463 h217 ?_
          refine sb_iload_n rfl ?_
          obtain ⟨hgz7, h⟩ := gd h
          refine ss_iast h250 (by decide) hgz7 ?_
          refine sb_aload_n rfl ?_
          refine sb_aload_n rfl ?_
          refine ss_getI g12_463 h217 ?_
          refine sb_iconst cI1 ?_
          refine sb_iadd ?_
          refine ss_putI p12_463 h217 (by decide) ?_
          refine sb_aload_n rfl ?_
          refine ss_getI g12_463 h217 ?_
          cases h
          subst hr
          refine sb_ireturn ?_
          exact ⟨.int, rfl, rfl⟩
theorem tfM_face {P : Px} {x1 : Int32} {x2 : Int32} {M : Mm} {rr : (Int32 × Mm)} (h : fM_face x1 x2 M = some rr) : EX P 2 kX12_face [.ref 217, .int x1, .int x2] (S M) (some (.int rr.1), S rr.2) := ex_of oX12_face (Nat.le_of_ble_eq_true rfl) (nfM_face  h rfl)
set_option maxRecDepth 20000 in
theorem nfM_changeUp {P : Px} {x1 : Int32} {x2 : Int32} {M : Mm} {rr : Int32} (h : fM_changeUp x1 x2 = rr) {r : Option Value × Sg} (hr : r = (some (.int rr), S M)) : RN P 1 kX12_changeUp 0 [(0, .ref 217), (1, .int x1), (2, .int x2)] [] (S M) r := by
  unfold fM_changeUp at h
  refine sb_in [(0, .iload_n 1, 1), (1, .iconst 2, 1), (2, .iload_n 2, 1), (3, .imul, 1), (4, .ishr, 1), (5, .iconst 3, 1), (6, .iand, 1), (7, .ireturn, 1)] 8 (by decide +kernel) ?_
  refine sb_iload_n rfl ?_
  refine sb_iconst cI2 ?_
  refine sb_iload_n rfl ?_
  refine sb_imul ?_
  refine sb_ishr ?_
  refine sb_iconst cI3 ?_
  refine sb_iand ?_
  subst h
  subst hr
  refine sb_ireturn ?_
  exact ⟨.int, rfl, rfl⟩
theorem tfM_changeUp {P : Px} {x1 : Int32} {x2 : Int32} {M : Mm} : EX P 1 kX12_changeUp [.ref 217, .int x1, .int x2] (S M) (some (.int (fM_changeUp x1 x2)), S M) := ex_of oX12_changeUp (Nat.le_of_ble_eq_true rfl) (nfM_changeUp  rfl rfl)
set_option maxRecDepth 20000 in
theorem nfM_canBe {P : Px} {x1 : Int32} {M : Mm} {rr : Int32} (h : fM_canBe x1 M = some rr) {r : Option Value × Sg} (hr : r = (some (.int rr), S M)) : RN P 2 kX12_canBe 0 [(0, .ref 217), (1, .int x1)] [] (S M) r := by
  unfold fM_canBe at h
  refine sb_in [(0, .iconst 0, 1), (1, .istore_n 2, 1)] 2 (by decide +kernel) ?_
  refine sb_iconst cI0 ?_
  refine sb_istore_n (by decide) rfl ?_
  refine sb_end ?_
  obtain ⟨e2, hl2, h⟩ := bd h
  refine rn_sub [0, 1, 2] rfl ?_
  refine lp_ind (P := fun s => RN P 2 kX12_canBe 2 [(0, .ref 217), (1, .int x1), (2, .int s)] [] (S M) r) (E := fun e => match e with | Sum.inl p => RN P 2 kX12_canBe 65 [] [] (S M) r | Sum.inr p => RN P 2 kX12_canBe 73 [] [] (S M) r) ?_ _ _ _ hl2 ?_
  · intro x2 qx h hc
    replace h : fM_canBe_b2 x1 M x2 = some qx := h
    show RN P 2 kX12_canBe 2 [(0, .ref 217), (1, .int x1), (2, .int x2)] [] (S M) r
    unfold fM_canBe_b2 at h
    refine sb_in [(2, .iload_n 2, 1), (3, .aload_n 0, 1), (4, .getfield 463, 3), (7, .if_icmp .ge 66, 3)] 10 (by decide +kernel) ?_
    refine sb_iload_n rfl ?_
    refine sb_aload_n rfl ?_
    refine ss_getI g12_463 h217 ?_
    rcases ife h with ⟨cz8, h⟩ | ⟨cz8, h⟩
    · refine sb_icmp_ge_t 73 cz8 (by decide) ?_
      cases h
      exact rn_sub [] rfl hc
    · refine sb_icmp_ge_f 73 cz8 (by decide) ?_
      refine sb_in [(10, .iconst 0, 1), (11, .istore_n 3, 1), (12, .iconst 0, 1), (13, .istore 4, 2)] 15 (by decide +kernel) ?_
      refine sb_iconst cI0 ?_
      refine sb_istore_n (by decide) rfl ?_
      refine sb_iconst cI0 ?_
      refine sb_istore (by decide) rfl ?_
      refine sb_end ?_
      obtain ⟨e15, hl15, h⟩ := bd h
      refine rn_sub [0, 1, 2, 3, 4] rfl ?_
      refine lp_ind (P := fun s => RN P 2 kX12_canBe 15 [(0, .ref 217), (1, .int x1), (2, .int x2), (3, .int s.1), (4, .int s.2)] [] (S M) r) (E := fun p => RN P 2 kX12_canBe 55 [(0, .ref 217), (1, .int x1), (2, .int x2), (3, .int p)] [] (S M) r) ?_ _ _ _ hl15 ?_
      · intro s qx h hc
        obtain ⟨x3, x4⟩ := s
        replace h : fM_canBe_b15 x1 x2 M x3 x4 = some qx := h
        show RN P 2 kX12_canBe 15 [(0, .ref 217), (1, .int x1), (2, .int x2), (3, .int x3), (4, .int x4)] [] (S M) r
        unfold fM_canBe_b15 at h
        refine sb_in [(15, .iload 4, 2), (17, .bipush 6, 2), (19, .if_icmp .ge 36, 3)] 22 (by decide +kernel) ?_
        refine sb_iload rfl ?_
        refine sb_bipush cB6 ?_
        rcases ife h with ⟨cz9, h⟩ | ⟨cz9, h⟩
        · refine sb_icmp_ge_t 55 cz9 (by decide) ?_
          cases h
          exact rn_sub [0, 1, 2, 3] rfl hc
        · refine sb_icmp_ge_f 55 cz9 (by decide) ?_
          refine sb_in [(22, .aload_n 0, 1), (23, .aload_n 0, 1), (24, .getfield 107, 3), (27, .iload_n 2, 1), (28, .iaload, 1), (29, .iload 4, 2), (31, .invokevirtual 377, 3), (34, .ifCond .eq 15, 3)] 37 (by decide +kernel) ?_
          refine sb_aload_n rfl ?_
          refine sb_aload_n rfl ?_
          refine ss_getR g12_107 h217 r217_58 ?_
          refine sb_iload_n rfl ?_
          obtain ⟨hgz1, h⟩ := gd h
          refine ss_iald h249 hgz1 ?_
          refine sb_iload rfl ?_
          refine sb_callVi 2 rfl oX12_lies ln12_377 vX12_lies (rc_own h217.1 (S_lt h217.2) (by decide)) (rnCk_of (by decide +kernel) rfl) (tfM_lies) ?_
          obtain ⟨yz5, hj49, h⟩ := bd h
          have hJ49 : RN P 2 kX12_canBe 49 [(0, .ref 217), (1, .int x1), (2, .int x2), (3, .int yz5), (4, .int x4)] [] (S M) r := by
            refine sb_in [(49, .iinc 4 1, 3), (52, .goto (-37), 3)] 55 (by decide +kernel) ?_
            refine ss_iinc cI1 rfl (by decide) rfl ?_
            refine sb_goto 15 (by decide) ?_
            cases h
            exact rn_sub [0, 1, 2, 3, 4] rfl hc
          clear h
          have h := hj49
          clear hj49
          rcases ife h with ⟨cz10, h⟩ | ⟨cz10, h⟩
          · refine sb_if_eq_t 49 cz10 (by decide) ?_
            cases h
            exact rn_sub [0, 1, 2, 3, 4] rfl hJ49
          · refine sb_if_eq_f 49 cz10 (by decide) ?_
            refine sb_in [(37, .iload_n 3, 1), (38, .aload_n 0, 1), (39, .iload_n 1, 1), (40, .iload 4, 2), (42, .invokevirtual 466, 3), (45, .iadd, 1), (46, .iconst 1, 1), (47, .isub, 1), (48, .istore_n 3, 1)] 49 (by decide +kernel) ?_
            refine sb_iload_n rfl ?_
            refine sb_aload_n rfl ?_
            refine sb_iload_n rfl ?_
            refine sb_iload rfl ?_
            refine sb_callVi 2 rfl oX12_changeUp ln12_466 vX12_changeUp (rc_own h217.1 (S_lt h217.2) (by decide)) (rnCk_of (by decide +kernel) rfl) (tfM_changeUp) ?_
            refine sb_iadd ?_
            refine sb_iconst cI1 ?_
            refine sb_isub ?_
            refine sb_istore_n (by decide) rfl ?_
            refine sb_end ?_
            cases h
            exact rn_sub [0, 1, 2, 3, 4] rfl hJ49
      · clear hl15
        obtain ⟨yz6, hey⟩ : ∃ z, z = e15 := ⟨_, rfl⟩
        subst hey
        show RN P 2 kX12_canBe 55 [(0, .ref 217), (1, .int x1), (2, .int x2), (3, .int yz6)] [] (S M) r
        refine sb_in [(55, .iload_n 3, 1), (56, .aload_n 0, 1), (57, .getfield 110, 3), (60, .iload_n 2, 1), (61, .iaload, 1), (62, .if_icmp .eq 5, 3)] 65 (by decide +kernel) ?_
        refine sb_iload_n rfl ?_
        refine sb_aload_n rfl ?_
        refine ss_getR g12_110 h217 r217_59 ?_
        refine sb_iload_n rfl ?_
        obtain ⟨hgz7, h⟩ := gd h
        refine ss_iald h250 hgz7 ?_
        rcases ife h with ⟨cz11, h⟩ | ⟨cz11, h⟩
        · refine sb_icmp_eq_t 67 cz11 (by decide) ?_
          refine sb_in [(67, .iinc 2 1, 3), (70, .goto (-68), 3)] 73 (by decide +kernel) ?_
          refine ss_iinc cI1 rfl (by decide) rfl ?_
          refine sb_goto 2 (by decide) ?_
          cases h
          exact rn_sub [0, 1, 2] rfl hc
        · refine sb_icmp_eq_f 67 cz11 (by decide) ?_
          cases h
          exact rn_sub [] rfl hc
  · clear hl2
    rcases e2 with e2 | e2
    · skip
      show RN P 2 kX12_canBe 65 [] [] (S M) r
      refine sb_in [(65, .iconst 0, 1), (66, .ireturn, 1)] 67 (by decide +kernel) ?_
      refine sb_iconst cI0 ?_
      cases h
      subst hr
      refine sb_ireturn ?_
      exact ⟨.boolean, rfl, by decide⟩
    · skip
      show RN P 2 kX12_canBe 73 [] [] (S M) r
      refine sb_in [(73, .iconst 1, 1), (74, .ireturn, 1)] 75 (by decide +kernel) ?_
      refine sb_iconst cI1 ?_
      cases h
      subst hr
      refine sb_ireturn ?_
      exact ⟨.boolean, rfl, by decide⟩
theorem tfM_canBe {P : Px} {x1 : Int32} {M : Mm} {rr : Int32} (h : fM_canBe x1 M = some rr) : EX P 2 kX12_canBe [.ref 217, .int x1] (S M) (some (.int rr), S M) := ex_of oX12_canBe (Nat.le_of_ble_eq_true rfl) (nfM_canBe  h rfl)
set_option maxRecDepth 20000 in
theorem nfM_kindsFor {P : Px} {x1 : Int32} {M : Mm} {rr : Int32} (h : fM_kindsFor x1 = some rr) {r : Option Value × Sg} (hr : r = (some (.int rr), S M)) : RN P 2 kX12_kindsFor 0 [(0, .ref 217), (1, .int x1)] [] (S M) r := by
  unfold fM_kindsFor at h
  refine sb_in [(0, .iconst 1, 1), (1, .istore_n 2, 1), (2, .iconst 0, 1), (3, .istore_n 3, 1)] 4 (by decide +kernel) ?_
  refine sb_iconst cI1 ?_
  refine sb_istore_n (by decide) rfl ?_
  refine sb_iconst cI0 ?_
  refine sb_istore_n (by decide) rfl ?_
  refine sb_end ?_
  obtain ⟨e4, hl4, h⟩ := bd h
  refine rn_sub [0, 1, 2, 3] rfl ?_
  refine lp_ind (P := fun s => RN P 2 kX12_kindsFor 4 [(0, .ref 217), (1, .int x1), (2, .int s.1), (3, .int s.2)] [] (S M) r) (E := fun p => RN P 2 kX12_kindsFor 47 [(2, .int p)] [] (S M) r) ?_ _ _ _ hl4 ?_
  · intro s qx h hc
    obtain ⟨x2, x3⟩ := s
    replace h : fM_kindsFor_b4 x1 x2 x3 = some qx := h
    show RN P 2 kX12_kindsFor 4 [(0, .ref 217), (1, .int x1), (2, .int x2), (3, .int x3)] [] (S M) r
    unfold fM_kindsFor_b4 at h
    refine sb_in [(4, .iload_n 3, 1), (5, .bipush 6, 2), (7, .if_icmp .ge 40, 3)] 10 (by decide +kernel) ?_
    refine sb_iload_n rfl ?_
    refine sb_bipush cB6 ?_
    rcases ife h with ⟨cz6, h⟩ | ⟨cz6, h⟩
    · refine sb_icmp_ge_t 47 cz6 (by decide) ?_
      cases h
      exact rn_sub [2] rfl hc
    · refine sb_icmp_ge_f 47 cz6 (by decide) ?_
      refine sb_in [(10, .iload_n 2, 1), (11, .aload_n 0, 1), (12, .iload_n 1, 1), (13, .iload_n 3, 1), (14, .invokevirtual 466, 3), (17, .ifCond .ne 7, 3)] 20 (by decide +kernel) ?_
      refine sb_iload_n rfl ?_
      refine sb_aload_n rfl ?_
      refine sb_iload_n rfl ?_
      refine sb_iload_n rfl ?_
      refine sb_callVi 2 rfl oX12_changeUp ln12_466 vX12_changeUp (rc_own h217.1 (S_lt h217.2) (by decide)) (rnCk_of (by decide +kernel) rfl) (tfM_changeUp) ?_
      obtain ⟨yz3, hj39, h⟩ := bd h
      have hJ39 : RN P 2 kX12_kindsFor 39 [(0, .ref 217), (1, .int x1), (3, .int x3)] [.int yz3, .int x2] (S M) r := by
        refine sb_in [(39, .imul, 1), (40, .istore_n 2, 1), (41, .iinc 3 1, 3), (44, .goto (-40), 3)] 47 (by decide +kernel) ?_
        refine sb_imul ?_
        refine sb_istore_n (by decide) rfl ?_
        refine ss_iinc cI1 rfl (by decide) rfl ?_
        refine sb_goto 4 (by decide) ?_
        cases h
        exact rn_sub [0, 1, 2, 3] rfl hc
      clear h
      have h := hj39
      clear hj39
      rcases ife h with ⟨cz7, h⟩ | ⟨cz7, h⟩
      · refine sb_if_ne_f 24 cz7 (by decide) ?_
        refine sb_in [(20, .iconst 3, 1), (21, .goto 18, 3)] 24 (by decide +kernel) ?_
        refine sb_iconst cI3 ?_
        refine sb_goto 39 (by decide) ?_
        cases h
        exact rn_sub [0, 1, 3] rfl hJ39
      · refine sb_if_ne_t 24 cz7 (by decide) ?_
        refine sb_in [(24, .aload_n 0, 1), (25, .iload_n 1, 1), (26, .iload_n 3, 1), (27, .invokevirtual 466, 3), (30, .iconst 1, 1), (31, .if_icmp .ne 7, 3)] 34 (by decide +kernel) ?_
        refine sb_aload_n rfl ?_
        refine sb_iload_n rfl ?_
        refine sb_iload_n rfl ?_
        refine sb_callVi 2 rfl oX12_changeUp ln12_466 vX12_changeUp (rc_own h217.1 (S_lt h217.2) (by decide)) (rnCk_of (by decide +kernel) rfl) (tfM_changeUp) ?_
        refine sb_iconst cI1 ?_
        rcases ife h with ⟨cz8, h⟩ | ⟨cz8, h⟩
        · refine sb_icmp_ne_f 38 cz8 (by decide) ?_
          refine sb_in [(34, .iconst 2, 1), (35, .goto 4, 3)] 38 (by decide +kernel) ?_
          refine sb_iconst cI2 ?_
          refine sb_goto 39 (by decide) ?_
          cases h
          exact rn_sub [0, 1, 3] rfl hJ39
        · refine sb_icmp_ne_t 38 cz8 (by decide) ?_
          refine sb_in [(38, .iconst 1, 1)] 39 (by decide +kernel) ?_
          refine sb_iconst cI1 ?_
          refine sb_end ?_
          cases h
          exact rn_sub [0, 1, 3] rfl hJ39
  · clear hl4
    obtain ⟨yz5, hey⟩ : ∃ z, z = e4 := ⟨_, rfl⟩
    subst hey
    show RN P 2 kX12_kindsFor 47 [(2, .int yz5)] [] (S M) r
    refine sb_in [(47, .iload_n 2, 1), (48, .ireturn, 1)] 49 (by decide +kernel) ?_
    refine sb_iload_n rfl ?_
    cases h
    subst hr
    refine sb_ireturn ?_
    exact ⟨.int, rfl, rfl⟩
theorem tfM_kindsFor {P : Px} {x1 : Int32} {M : Mm} {rr : Int32} (h : fM_kindsFor x1 = some rr) : EX P 2 kX12_kindsFor [.ref 217, .int x1] (S M) (some (.int rr), S M) := ex_of oX12_kindsFor (Nat.le_of_ble_eq_true rfl) (nfM_kindsFor  h rfl)
set_option maxRecDepth 20000 in
theorem nfM_faces {P : Px} {x1 : Int32} {M : Mm} {rr : (Int32 × Mm)} (h : fM_faces x1 M = some rr) {r : Option Value × Sg} (hr : r = (some (.int rr.1), S rr.2)) : RN P 3 kX12_faces 0 [(0, .ref 217), (1, .int x1)] [] (S M) r := by
  unfold fM_faces at h
  refine sb_in [(0, .aload_n 0, 1), (1, .iconst 0, 1), (2, .putfield 116, 3), (5, .aload_n 0, 1), (6, .iload_n 1, 1), (7, .iconst 0, 1), (8, .iconst 1, 1), (9, .invokevirtual 143, 3), (12, .ifCond .ne 5, 3)] 15 (by decide +kernel) ?_
  refine sb_aload_n rfl ?_
  refine sb_iconst cI0 ?_
  refine ss_putI p12_116 h217 (by decide) ?_
  refine sb_aload_n rfl ?_
  refine sb_iload_n rfl ?_
  refine sb_iconst cI0 ?_
  refine sb_iconst cI1 ?_
  refine sb_callVi 3 rfl oX12_isIn ln12_143 vX12_isIn (rc_own h217.1 (S_lt h217.2) (by decide)) (rnCk_of (by decide +kernel) rfl) (tfM_isIn) ?_
  rcases ife h with ⟨cz19, h⟩ | ⟨cz19, h⟩
  · refine sb_if_ne_f 17 cz19 (by decide) ?_
    refine sb_in [(15, .iconst (-1), 1), (16, .ireturn, 1)] 17 (by decide +kernel) ?_
    refine sb_iconst cIm1 ?_
    cases h
    subst hr
    refine sb_ireturn ?_
    exact ⟨.int, rfl, rfl⟩
  · refine sb_if_ne_t 17 cz19 (by decide) ?_
    refine sb_in [(17, .iconst 0, 1), (18, .istore_n 2, 1), (19, .iconst (-1), 1), (20, .istore_n 3, 1), (21, .iconst 0, 1), (22, .istore 4, 2), (24, .iconst 0, 1), (25, .istore 5, 2)] 27 (by decide +kernel) ?_
    refine sb_iconst cI0 ?_
    refine sb_istore_n (by decide) rfl ?_
    refine sb_iconst cIm1 ?_
    refine sb_istore_n (by decide) rfl ?_
    refine sb_iconst cI0 ?_
    refine sb_istore (by decide) rfl ?_
    refine sb_iconst cI0 ?_
    refine sb_istore (by decide) rfl ?_
    refine sb_end ?_
    obtain ⟨e27, hl27, h⟩ := bd h
    refine rn_sub [0, 1, 2, 3, 4, 5] rfl ?_
    refine lp_ind (P := fun s => RN P 3 kX12_faces 27 [(0, .ref 217), (1, .int x1), (2, .int s.1), (3, .int s.2.1), (4, .int s.2.2.1), (5, .int s.2.2.2)] [] (S (mput M 217 0 0)) r) (E := fun p => RN P 3 kX12_faces 79 [(0, .ref 217), (1, .int x1), (2, .int p.1), (3, .int p.2.1), (4, .int p.2.2)] [] (S (mput M 217 0 0)) r) ?_ _ _ _ hl27 ?_
    · intro s qx h hc
      obtain ⟨x2, x3, x4, x5⟩ := s
      replace h : fM_faces_b27 x1 (mput M 217 0 0) x2 x3 x4 x5 = some qx := h
      show RN P 3 kX12_faces 27 [(0, .ref 217), (1, .int x1), (2, .int x2), (3, .int x3), (4, .int x4), (5, .int x5)] [] (S (mput M 217 0 0)) r
      generalize (mput M 217 0 0) = M at h hc ⊢
      unfold fM_faces_b27 at h
      refine sb_in [(27, .iload 5, 2), (29, .sipush 4096, 3), (32, .if_icmp .ge 47, 3)] 35 (by decide +kernel) ?_
      refine sb_iload rfl ?_
      refine sb_sipush cS4096 ?_
      rcases ife h with ⟨cz20, h⟩ | ⟨cz20, h⟩
      · refine sb_icmp_ge_t 79 cz20 (by decide) ?_
        cases h
        exact rn_sub [0, 1, 2, 3, 4] rfl hc
      · refine sb_icmp_ge_f 79 cz20 (by decide) ?_
        refine sb_in [(35, .aload_n 0, 1), (36, .iload 5, 2), (38, .invokevirtual 469, 3), (41, .ifCond .ne 6, 3)] 44 (by decide +kernel) ?_
        refine sb_aload_n rfl ?_
        refine sb_iload rfl ?_
        obtain ⟨qz4, hez3, h⟩ := bd h
        refine sb_callVi 1 rfl oX12_canBe ln12_469 vX12_canBe (rc_own h217.1 (S_lt h217.2) (by decide)) (rnCk_of (by decide +kernel) rfl) (tfM_canBe hez3) ?_
        obtain ⟨⟨yz9, yz10, yz11⟩, hj73, h⟩ := bd h
        have hJ73 : RN P 3 kX12_faces 73 [(0, .ref 217), (1, .int x1), (2, .int yz9), (3, .int yz10), (4, .int yz11), (5, .int x5)] [] (S M) r := by
          refine sb_in [(73, .iinc 5 1, 3), (76, .goto (-49), 3)] 79 (by decide +kernel) ?_
          refine ss_iinc cI1 rfl (by decide) rfl ?_
          refine sb_goto 27 (by decide) ?_
          cases h
          exact rn_sub [0, 1, 2, 3, 4, 5] rfl hc
        clear h
        have h := hj73
        clear hj73
        rcases ife h with ⟨cz21, h⟩ | ⟨cz21, h⟩
        · refine sb_if_ne_f 47 cz21 (by decide) ?_
          refine sb_in [(44, .goto 29, 3)] 47 (by decide +kernel) ?_
          refine sb_goto 73 (by decide) ?_
          cases h
          exact rn_sub [0, 1, 2, 3, 4, 5] rfl hJ73
        · refine sb_if_ne_t 47 cz21 (by decide) ?_
          refine sb_in [(47, .iload_n 3, 1), (48, .iconst (-1), 1), (49, .if_icmp .ne 6, 3)] 52 (by decide +kernel) ?_
          refine sb_iload_n rfl ?_
          refine sb_iconst cIm1 ?_
          have hJ55 : RN P 3 kX12_faces 55 [(0, .ref 217), (1, .int x1), (2, .int x2), (3, .int (if x3 = (-1) then x5 else x3)), (4, .int x4), (5, .int x5)] [] (S M) r := by
            refine sb_in [(55, .iload 4, 2), (57, .iload 5, 2), (59, .iload_n 3, 1), (60, .ixor, 1), (61, .ior, 1), (62, .istore 4, 2), (64, .iload_n 2, 1), (65, .aload_n 0, 1), (66, .iload 5, 2), (68, .invokevirtual 472, 3), (71, .iadd, 1), (72, .istore_n 2, 1)] 73 (by decide +kernel) ?_
            refine sb_iload rfl ?_
            refine sb_iload rfl ?_
            refine sb_iload_n rfl ?_
            refine sb_ixor ?_
            refine sb_ior ?_
            refine sb_istore (by decide) rfl ?_
            refine sb_iload_n rfl ?_
            refine sb_aload_n rfl ?_
            refine sb_iload rfl ?_
            obtain ⟨qz7, hez6, h⟩ := bd h
            refine sb_callVi 1 rfl oX12_kindsFor ln12_472 vX12_kindsFor (rc_own h217.1 (S_lt h217.2) (by decide)) (rnCk_of (by decide +kernel) rfl) (tfM_kindsFor hez6) ?_
            refine sb_iadd ?_
            refine sb_istore_n (by decide) rfl ?_
            refine sb_end ?_
            cases h
            exact rn_sub [0, 1, 2, 3, 4, 5] rfl hJ73
          rcases Decidable.em (x3 = (-1)) with cz22 | cz22
          · refine sb_icmp_ne_f 55 cz22 (by decide) ?_
            refine sb_in [(52, .iload 5, 2), (54, .istore_n 3, 1)] 55 (by decide +kernel) ?_
            refine sb_iload rfl ?_
            refine sb_istore_n (by decide) rfl ?_
            refine sb_end ?_
            have hq := hJ55
            simp only [if_pos cz22] at hq
            exact rn_sub [0, 1, 2, 3, 4, 5] rfl hq
          · refine sb_icmp_ne_t 55 cz22 (by decide) ?_
            have hq := hJ55
            simp only [if_neg cz22] at hq
            exact rn_sub [0, 1, 2, 3, 4, 5] rfl hq
    · clear hl27
      obtain ⟨yz12, yz13, yz14⟩ := e27
      show RN P 3 kX12_faces 79 [(0, .ref 217), (1, .int x1), (2, .int yz12), (3, .int yz13), (4, .int yz14)] [] (S (mput M 217 0 0)) r
      refine sb_in [(79, .iload_n 1, 1), (80, .ifCond .ne 5, 3)] 83 (by decide +kernel) ?_
      refine sb_iload_n rfl ?_
      rcases ife h with ⟨cz23, h⟩ | ⟨cz23, h⟩
      · refine sb_if_ne_f 85 cz23 (by decide) ?_
        refine sb_in [(83, .iload_n 2, 1), (84, .ireturn, 1)] 85 (by decide +kernel) ?_
        refine sb_iload_n rfl ?_
        cases h
        subst hr
        refine sb_ireturn ?_
        exact ⟨.int, rfl, rfl⟩
      · refine sb_if_ne_t 85 cz23 (by decide) ?_
        refine sb_in [(85, .iconst 0, 1), (86, .istore 5, 2), (88, .iconst 0, 1), (89, .istore 6, 2)] 91 (by decide +kernel) ?_
        refine sb_iconst cI0 ?_
        refine sb_istore (by decide) rfl ?_
        refine sb_iconst cI0 ?_
        refine sb_istore (by decide) rfl ?_
        refine sb_end ?_
        obtain ⟨e91, hl91, h⟩ := bd h
        refine rn_sub [0, 3, 4, 5, 6] rfl ?_
        refine lp_ind (P := fun s => RN P 3 kX12_faces 91 [(0, .ref 217), (3, .int yz13), (4, .int yz14), (5, .int s.1), (6, .int s.2)] [] (S (mput M 217 0 0)) r) (E := fun p => RN P 3 kX12_faces 129 [(5, .int p)] [] (S (mput M 217 0 0)) r) ?_ _ _ _ hl91 ?_
        · intro s qx h hc
          obtain ⟨x5, x6⟩ := s
          replace h : fM_faces_b91 yz13 yz14 (mput M 217 0 0) x5 x6 = some qx := h
          show RN P 3 kX12_faces 91 [(0, .ref 217), (3, .int yz13), (4, .int yz14), (5, .int x5), (6, .int x6)] [] (S (mput M 217 0 0)) r
          generalize yz13 = x3 at h hc ⊢
          generalize yz14 = x4 at h hc ⊢
          generalize (mput M 217 0 0) = M at h hc ⊢
          unfold fM_faces_b91 at h
          refine sb_in [(91, .iload 6, 2), (93, .bipush 6, 2), (95, .if_icmp .ge 34, 3)] 98 (by decide +kernel) ?_
          refine sb_iload rfl ?_
          refine sb_bipush cB6 ?_
          rcases ife h with ⟨cz24, h⟩ | ⟨cz24, h⟩
          · refine sb_icmp_ge_t 129 cz24 (by decide) ?_
            cases h
            exact rn_sub [5] rfl hc
          · refine sb_icmp_ge_f 129 cz24 (by decide) ?_
            refine sb_in [(98, .iload_n 3, 1), (99, .iconst (-1), 1), (100, .if_icmp .eq 23, 3)] 103 (by decide +kernel) ?_
            refine sb_iload_n rfl ?_
            refine sb_iconst cIm1 ?_
            obtain ⟨yz17, hj123, h⟩ := bd h
            have hJ123 : RN P 3 kX12_faces 123 [(0, .ref 217), (3, .int x3), (4, .int x4), (5, .int yz17), (6, .int x6)] [] (S M) r := by
              refine sb_in [(123, .iinc 6 1, 3), (126, .goto (-35), 3)] 129 (by decide +kernel) ?_
              refine ss_iinc cI1 rfl (by decide) rfl ?_
              refine sb_goto 91 (by decide) ?_
              cases h
              exact rn_sub [0, 3, 4, 5, 6] rfl hc
            clear h
            have h := hj123
            clear hj123
            rcases ife h with ⟨cz25, h⟩ | ⟨cz25, h⟩
            · refine sb_icmp_eq_t 123 cz25 (by decide) ?_
              cases h
              exact rn_sub [0, 3, 4, 5, 6] rfl hJ123
            · refine sb_icmp_eq_f 123 cz25 (by decide) ?_
              refine sb_in [(103, .aload_n 0, 1), (104, .iload 4, 2), (106, .iload 6, 2), (108, .invokevirtual 466, 3), (111, .ifCond .ne 12, 3)] 114 (by decide +kernel) ?_
              refine sb_aload_n rfl ?_
              refine sb_iload rfl ?_
              refine sb_iload rfl ?_
              refine sb_callVi 2 rfl oX12_changeUp ln12_466 vX12_changeUp (rc_own h217.1 (S_lt h217.2) (by decide)) (rnCk_of (by decide +kernel) rfl) (tfM_changeUp) ?_
              rcases ife h with ⟨cz26, h⟩ | ⟨cz26, h⟩
              · refine sb_if_ne_f 123 cz26 (by decide) ?_
                refine sb_in [(114, .iload 5, 2), (116, .iconst 1, 1), (117, .iload 6, 2), (119, .ishl, 1), (120, .ior, 1), (121, .istore 5, 2)] 123 (by decide +kernel) ?_
                refine sb_iload rfl ?_
                refine sb_iconst cI1 ?_
                refine sb_iload rfl ?_
                refine sb_ishl ?_
                refine sb_ior ?_
                refine sb_istore (by decide) rfl ?_
                refine sb_end ?_
                cases h
                exact rn_sub [0, 3, 4, 5, 6] rfl hJ123
              · refine sb_if_ne_t 123 cz26 (by decide) ?_
                cases h
                exact rn_sub [0, 3, 4, 5, 6] rfl hJ123
        · clear hl91
          obtain ⟨yz18, hey⟩ : ∃ z, z = e91 := ⟨_, rfl⟩
          subst hey
          show RN P 3 kX12_faces 129 [(5, .int yz18)] [] (S (mput M 217 0 0)) r
          refine sb_in [(129, .iload 5, 2), (131, .ireturn, 1)] 132 (by decide +kernel) ?_
          refine sb_iload rfl ?_
          cases h
          subst hr
          refine sb_ireturn ?_
          exact ⟨.int, rfl, rfl⟩
theorem tfM_faces {P : Px} {x1 : Int32} {M : Mm} {rr : (Int32 × Mm)} (h : fM_faces x1 M = some rr) : EX P 3 kX12_faces [.ref 217, .int x1] (S M) (some (.int rr.1), S rr.2) := ex_of oX12_faces (Nat.le_of_ble_eq_true rfl) (nfM_faces  h rfl)
set_option maxRecDepth 20000 in
theorem nfM_joy {P : Px} {x1 : Int32} {M : Mm} {rr : (Int32 × Mm)} (h : fM_joy x1 M = some rr) {r : Option Value × Sg} (hr : r = (some (.int rr.1), S rr.2)) : RN P 2 kX12_joy 0 [(0, .ref 217), (1, .int x1)] [] (S M) r := by
  unfold fM_joy at h
  refine sb_in [(0, .aload_n 0, 1), (1, .iconst 0, 1), (2, .putfield 116, 3), (5, .aload_n 0, 1), (6, .getfield 129, 3), (9, .ifCond .eq 13, 3)] 12 (by decide +kernel) ?_
  refine sb_aload_n rfl ?_
  refine sb_iconst cI0 ?_
  refine ss_putI p12_116 h217 (by decide) ?_
  refine sb_aload_n rfl ?_
  refine ss_getI g12_129 h217 ?_
  rcases ife h with ⟨cz11, h⟩ | ⟨cz11, h⟩
  · refine sb_if_eq_t 22 cz11 (by decide) ?_
    refine sb_in [(22, .bipush (-100), 2), (24, .ireturn, 1)] 25 (by decide +kernel) ?_
    refine sb_bipush cBm100 ?_
    cases h
    subst hr
    refine sb_ireturn ?_
    exact ⟨.int, rfl, rfl⟩
  · refine sb_if_eq_f 22 cz11 (by decide) ?_
    refine sb_in [(12, .aload_n 0, 1), (13, .iload_n 1, 1), (14, .iconst 0, 1), (15, .iconst 1, 1), (16, .invokevirtual 143, 3), (19, .ifCond .ne 6, 3)] 22 (by decide +kernel) ?_
    refine sb_aload_n rfl ?_
    refine sb_iload_n rfl ?_
    refine sb_iconst cI0 ?_
    refine sb_iconst cI1 ?_
    refine sb_callVi 3 rfl oX12_isIn ln12_143 vX12_isIn (rc_own h217.1 (S_lt h217.2) (by decide)) (rnCk_of (by decide +kernel) rfl) (tfM_isIn) ?_
    rcases ife h with ⟨cz12, h⟩ | ⟨cz12, h⟩
    · refine sb_if_ne_f 25 cz12 (by decide) ?_
      refine sb_in [(22, .bipush (-100), 2), (24, .ireturn, 1)] 25 (by decide +kernel) ?_
      refine sb_bipush cBm100 ?_
      cases h
      subst hr
      refine sb_ireturn ?_
      exact ⟨.int, rfl, rfl⟩
    · refine sb_if_ne_t 25 cz12 (by decide) ?_
      refine sb_in [(25, .ldc_w 475, 3), (28, .istore_n 2, 1), (29, .iconst 0, 1), (30, .istore_n 3, 1), (31, .iconst 0, 1), (32, .istore 4, 2)] 34 (by decide +kernel) ?_
      refine sb_ldcw (v := (-100000000)) rfl ?_
      refine sb_istore_n (by decide) rfl ?_
      refine sb_iconst cI0 ?_
      refine sb_istore_n (by decide) rfl ?_
      refine sb_iconst cI0 ?_
      refine sb_istore (by decide) rfl ?_
      refine sb_end ?_
      obtain ⟨e34, hl34, h⟩ := bd h
      refine rn_sub [0, 1, 2, 3, 4] rfl ?_
      refine lp_ind (P := fun s => RN P 2 kX12_joy 34 [(0, .ref 217), (1, .int x1), (2, .int s.1), (3, .int s.2.1), (4, .int s.2.2)] [] (S (mput M 217 0 0)) r) (E := fun p => RN P 2 kX12_joy 107 [(1, .int x1), (2, .int p.1), (3, .int p.2)] [] (S (mput M 217 0 0)) r) ?_ _ _ _ hl34 ?_
      · intro s qx h hc
        obtain ⟨x2, x3, x4⟩ := s
        replace h : fM_joy_b34 x1 (mput M 217 0 0) x2 x3 x4 = some qx := h
        show RN P 2 kX12_joy 34 [(0, .ref 217), (1, .int x1), (2, .int x2), (3, .int x3), (4, .int x4)] [] (S (mput M 217 0 0)) r
        generalize (mput M 217 0 0) = M at h hc ⊢
        unfold fM_joy_b34 at h
        refine sb_in [(34, .iload 4, 2), (36, .aload_n 0, 1), (37, .getfield 129, 3), (40, .if_icmp .ge 67, 3)] 43 (by decide +kernel) ?_
        refine sb_iload rfl ?_
        refine sb_aload_n rfl ?_
        refine ss_getI g12_129 h217 ?_
        rcases ife h with ⟨cz13, h⟩ | ⟨cz13, h⟩
        · refine sb_icmp_ge_t 107 cz13 (by decide) ?_
          cases h
          exact rn_sub [1, 2, 3] rfl hc
        · refine sb_icmp_ge_f 107 cz13 (by decide) ?_
          refine sb_in [(43, .iconst 0, 1), (44, .istore 5, 2), (46, .iload 4, 2), (48, .istore 6, 2)] 50 (by decide +kernel) ?_
          refine sb_iconst cI0 ?_
          refine sb_istore (by decide) rfl ?_
          refine sb_iload rfl ?_
          refine sb_istore (by decide) rfl ?_
          refine sb_end ?_
          obtain ⟨e50, hl50, h⟩ := bd h
          refine rn_sub [0, 1, 2, 3, 4, 5, 6] rfl ?_
          refine lp_ind (P := fun s => RN P 2 kX12_joy 50 [(0, .ref 217), (1, .int x1), (2, .int s.1), (3, .int s.2.1), (4, .int x4), (5, .int s.2.2.1), (6, .int s.2.2.2)] [] (S M) r) (E := fun p => RN P 2 kX12_joy 101 [(0, .ref 217), (1, .int x1), (2, .int p.1), (3, .int p.2), (4, .int x4)] [] (S M) r) ?_ _ _ _ hl50 ?_
          · intro s qx h hc
            obtain ⟨x2, x3, x5, x6⟩ := s
            replace h : fM_joy_b50 x1 x4 M x2 x3 x5 x6 = some qx := h
            show RN P 2 kX12_joy 50 [(0, .ref 217), (1, .int x1), (2, .int x2), (3, .int x3), (4, .int x4), (5, .int x5), (6, .int x6)] [] (S M) r
            unfold fM_joy_b50 at h
            refine sb_in [(50, .iload 6, 2), (52, .aload_n 0, 1), (53, .getfield 129, 3), (56, .if_icmp .ge 45, 3)] 59 (by decide +kernel) ?_
            refine sb_iload rfl ?_
            refine sb_aload_n rfl ?_
            refine ss_getI g12_129 h217 ?_
            rcases ife h with ⟨cz14, h⟩ | ⟨cz14, h⟩
            · refine sb_icmp_ge_t 101 cz14 (by decide) ?_
              cases h
              exact rn_sub [0, 1, 2, 3, 4] rfl hc
            · refine sb_icmp_ge_f 101 cz14 (by decide) ?_
              refine sb_in [(59, .iload 5, 2), (61, .aload_n 0, 1), (62, .getfield 7, 3), (65, .bipush 18, 2), (67, .iload 6, 2), (69, .iadd, 1), (70, .iaload, 1), (71, .iadd, 1), (72, .istore 5, 2), (74, .iload 5, 2), (76, .iload_n 2, 1), (77, .if_icmp .le 8, 3)] 80 (by decide +kernel) ?_
              refine sb_iload rfl ?_
              refine sb_aload_n rfl ?_
              refine ss_getR g12_7 h217 r217_1 ?_
              refine sb_bipush cB18 ?_
              refine sb_iload rfl ?_
              refine sb_iadd ?_
              obtain ⟨hgz3, h⟩ := gd h
              refine ss_iald h218 hgz3 ?_
              refine sb_iadd ?_
              refine sb_istore (by decide) rfl ?_
              refine sb_iload rfl ?_
              refine sb_iload_n rfl ?_
              have hJ86 : RN P 2 kX12_joy 86 [(0, .ref 217), (1, .int x1), (2, .int x2), (4, .int x4), (5, .int ((x5 + (M 218 (jix (18 + x6)))))), (6, .int x6)] [.int (if ((x5 + (M 218 (jix (18 + x6))))) ≤ x2 then x3 else x4)] (S M) r := by
                refine sb_in [(86, .istore_n 3, 1), (87, .aload_n 0, 1), (88, .iload_n 2, 1), (89, .iload 5, 2), (91, .invokevirtual 332, 3), (94, .istore_n 2, 1), (95, .iinc 6 1, 3), (98, .goto (-48), 3)] 101 (by decide +kernel) ?_
                refine sb_istore_n (by decide) rfl ?_
                refine sb_aload_n rfl ?_
                refine sb_iload_n rfl ?_
                refine sb_iload rfl ?_
                refine sb_callVi 2 rfl oX12_greater ln12_332 vX12_greater (rc_own h217.1 (S_lt h217.2) (by decide)) (rnCk_of (by decide +kernel) rfl) (tfM_greater) ?_
                refine sb_istore_n (by decide) rfl ?_
                refine ss_iinc cI1 rfl (by decide) rfl ?_
                refine sb_goto 50 (by decide) ?_
                cases h
                exact rn_sub [0, 1, 2, 3, 4, 5, 6] rfl hc
              rcases Decidable.em (((x5 + (M 218 (jix (18 + x6))))) ≤ x2) with cz15 | cz15
              · refine sb_icmp_le_t 85 cz15 (by decide) ?_
                refine sb_in [(85, .iload_n 3, 1)] 86 (by decide +kernel) ?_
                refine sb_iload_n rfl ?_
                refine sb_end ?_
                have hq := hJ86
                simp only [if_pos cz15] at hq
                exact rn_sub [0, 1, 2, 4, 5, 6] rfl hq
              · refine sb_icmp_le_f 85 cz15 (by decide) ?_
                refine sb_in [(80, .iload 4, 2), (82, .goto 4, 3)] 85 (by decide +kernel) ?_
                refine sb_iload rfl ?_
                refine sb_goto 86 (by decide) ?_
                have hq := hJ86
                simp only [if_neg cz15] at hq
                exact rn_sub [0, 1, 2, 4, 5, 6] rfl hq
          · clear hl50
            obtain ⟨yz7, yz8⟩ := e50
            show RN P 2 kX12_joy 101 [(0, .ref 217), (1, .int x1), (2, .int yz7), (3, .int yz8), (4, .int x4)] [] (S M) r
            refine sb_in [(101, .iinc 4 1, 3), (104, .goto (-70), 3)] 107 (by decide +kernel) ?_
            refine ss_iinc cI1 rfl (by decide) rfl ?_
            refine sb_goto 34 (by decide) ?_
            cases h
            exact rn_sub [0, 1, 2, 3, 4] rfl hc
      · clear hl34
        obtain ⟨yz9, yz10⟩ := e34
        show RN P 2 kX12_joy 107 [(1, .int x1), (2, .int yz9), (3, .int yz10)] [] (S (mput M 217 0 0)) r
        refine sb_in [(107, .iload_n 1, 1), (108, .ifCond .ne 7, 3)] 111 (by decide +kernel) ?_
        refine sb_iload_n rfl ?_
        rcases ife h with ⟨cz16, h⟩ | ⟨cz16, h⟩
        · refine sb_if_ne_f 115 cz16 (by decide) ?_
          refine sb_in [(111, .iload_n 2, 1), (112, .goto 4, 3)] 115 (by decide +kernel) ?_
          refine sb_iload_n rfl ?_
          refine sb_goto 116 (by decide) ?_
          refine sb_in [(116, .ireturn, 1)] 117 (by decide +kernel) ?_
          cases h
          subst hr
          refine sb_ireturn ?_
          exact ⟨.int, rfl, rfl⟩
        · refine sb_if_ne_t 115 cz16 (by decide) ?_
          refine sb_in [(115, .iload_n 3, 1)] 116 (by decide +kernel) ?_
          refine sb_iload_n rfl ?_
          refine sb_end ?_
          refine sb_in [(116, .ireturn, 1)] 117 (by decide +kernel) ?_
          cases h
          subst hr
          refine sb_ireturn ?_
          exact ⟨.int, rfl, rfl⟩
theorem tfM_joy {P : Px} {x1 : Int32} {M : Mm} {rr : (Int32 × Mm)} (h : fM_joy x1 M = some rr) : EX P 2 kX12_joy [.ref 217, .int x1] (S M) (some (.int rr.1), S rr.2) := ex_of oX12_joy (Nat.le_of_ble_eq_true rfl) (nfM_joy  h rfl)
end RnT
