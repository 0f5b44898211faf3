section RnT
set_option maxRecDepth 20000 in
theorem nfR_relation {P : Px} {M : Mm} {rr : (Int32 × Mm)} (h : fR_relation M = some rr) {r : Option Value × Sg} (hr : r = (some (.int rr.1), S rr.2)) : RN P 2 kX5_relation 0 [(0, .ref 146)] [] (S M) r := by
  unfold fR_relation at h
  refine sb_in [(0, .aload_n 0, 1), (1, .invokevirtual 50, 3), (4, .istore_n 1, 1), (5, .iload_n 1, 1), (6, .bipush 60, 2), (8, .if_icmp .eq 24, 3)] 11 (by decide +kernel) ?_
  refine sb_aload_n rfl ?_
  obtain ⟨qz2, hez1, h⟩ := bd h
  refine sb_callVi 0 rfl oX5_sort ln5_50 vX5_sort (rc_own h146.1 (S_lt h146.2) (by decide)) (rnCk_of (by decide +kernel) rfl) (tfR_sort hez1) ?_
  refine sb_istore_n (by decide) rfl ?_
  refine sb_iload_n rfl ?_
  refine sb_bipush cB60 ?_
  have hJ32 : ∀ (z1 : Int32) (M : Mm), fR_relation_j32 z1 M = some rr → RN P 2 kX5_relation 32 [(0, .ref 146), (1, .int z1)] [] (S M) r := by
    intro z1 M h
    unfold fR_relation_j32 at h
    refine sb_in [(32, .aload_n 0, 1), (33, .dup, 1), (34, .getfield 44, 3), (37, .iconst 1, 1), (38, .iadd, 1), (39, .putfield 44, 3), (42, .iload_n 1, 1), (43, .bipush 61, 2), (45, .if_icmp .ne 7, 3)] 48 (by decide +kernel) ?_
    refine sb_aload_n rfl ?_
    refine sb_dup rfl ?_
    refine ss_getI g5_44 h146 ?_
    refine sb_iconst cI1 ?_
    refine sb_iadd ?_
    refine ss_putI p5_44 h146 (by decide) ?_
    refine sb_iload_n rfl ?_
    refine sb_bipush cB61 ?_
    rcases ife h with ⟨cz6, h⟩ | ⟨cz6, h⟩
    · refine sb_icmp_ne_f 52 cz6 (by decide) ?_
      refine sb_in [(48, .sipush 20009, 3), (51, .ireturn, 1)] 52 (by decide +kernel) ?_
      refine sb_sipush cS20009 ?_
      cases h
      subst hr
      refine sb_ireturn ?_
      exact ⟨.int, rfl, rfl⟩
    · refine sb_icmp_ne_t 52 cz6 (by decide) ?_
      refine sb_in [(52, .iload_n 1, 1), (53, .bipush 60, 2), (55, .if_icmp .ne 9, 3)] 58 (by decide +kernel) ?_
      refine sb_iload_n rfl ?_
      refine sb_bipush cB60 ?_
      rcases ife h with ⟨cz7, h⟩ | ⟨cz7, h⟩
      · refine sb_icmp_ne_f 64 cz7 (by decide) ?_
        refine sb_in [(58, .sipush 20008, 3), (61, .goto 6, 3)] 64 (by decide +kernel) ?_
        refine sb_sipush cS20008 ?_
        refine sb_goto 67 (by decide) ?_
        refine sb_in [(67, .ireturn, 1)] 68 (by decide +kernel) ?_
        cases h
        subst hr
        refine sb_ireturn ?_
        exact ⟨.int, rfl, rfl⟩
      · refine sb_icmp_ne_t 64 cz7 (by decide) ?_
        refine sb_in [(64, .sipush 20010, 3)] 67 (by decide +kernel) ?_
        refine sb_sipush cS20010 ?_
        refine sb_end ?_
        refine sb_in [(67, .ireturn, 1)] 68 (by decide +kernel) ?_
        cases h
        subst hr
        refine sb_ireturn ?_
        exact ⟨.int, rfl, rfl⟩
  rcases ife h with ⟨cz8, h⟩ | ⟨cz8, h⟩
  · refine sb_icmp_eq_t 32 cz8 (by decide) ?_
    exact rn_sub [0, 1] rfl (hJ32 _ _ h)
  · refine sb_icmp_eq_f 32 cz8 (by decide) ?_
    refine sb_in [(11, .iload_n 1, 1), (12, .bipush 61, 2), (14, .if_icmp .eq 18, 3)] 17 (by decide +kernel) ?_
    refine sb_iload_n rfl ?_
    refine sb_bipush cB61 ?_
    rcases ife h with ⟨cz9, h⟩ | ⟨cz9, h⟩
    · refine sb_icmp_eq_t 32 cz9 (by decide) ?_
      exact rn_sub [0, 1] rfl (hJ32 _ _ h)
    · refine sb_icmp_eq_f 32 cz9 (by decide) ?_
      refine sb_in [(17, .iload_n 1, 1), (18, .bipush 62, 2), (20, .if_icmp .eq 12, 3)] 23 (by decide +kernel) ?_
      refine sb_iload_n rfl ?_
      refine sb_bipush cB62 ?_
      rcases ife h with ⟨cz10, h⟩ | ⟨cz10, h⟩
      · refine sb_icmp_eq_t 32 cz10 (by decide) ?_
        exact rn_sub [0, 1] rfl (hJ32 _ _ h)
      · refine sb_icmp_eq_f 32 cz10 (by decide) ?_
        refine sb_in [(23, .aload_n 0, 1), (24, .iconst 1, 1), (25, .invokevirtual 73, 3), (28, .sipush 20009, 3), (31, .ireturn, 1)] 32 (by decide +kernel) ?_
        refine sb_aload_n rfl ?_
        refine sb_iconst cI1 ?_
        obtain ⟨Mz4, hez3, h⟩ := bd h
        refine sb_callVv 1 rfl oX5_blame ln5_73 vX5_blame (rc_own h146.1 (S_lt h146.2) (by decide)) (rnCk_of (by decide +kernel) rfl) (tfR_blame hez3) ?_
        refine sb_sipush cS20009 ?_
        cases h
        subst hr
        refine sb_ireturn ?_
        exact ⟨.int, rfl, rfl⟩
theorem tfR_relation {P : Px} {M : Mm} {rr : (Int32 × Mm)} (h : fR_relation M = some rr) : EX P 2 kX5_relation [.ref 146] (S M) (some (.int rr.1), S rr.2) := ex_of oX5_relation (Nat.le_of_ble_eq_true rfl) (nfR_relation  h rfl)
set_option maxRecDepth 20000 in
theorem nfR_settle {P : Px} {x1 : Int32} {M : Mm} {rr : Mm} (h : fR_settle x1 M = some rr) {r : Option Value × Sg} (hr : r = (none, S rr)) : RN P 2 kX5_settle 0 [(0, .ref 146), (1, .int x1)] [] (S M) r := by
  unfold fR_settle at h
  refine sb_in [(0, .aload_n 0, 1), (1, .getfield 151, 3), (4, .iconst 1, 1), (5, .isub, 1), (6, .istore_n 2, 1)] 7 (by decide +kernel) ?_
  refine sb_aload_n rfl ?_
  refine ss_getI g5_151 h146 ?_
  refine sb_iconst cI1 ?_
  refine sb_isub ?_
  refine sb_istore_n (by decide) rfl ?_
  refine sb_end ?_
  obtain ⟨e7, hl7, h⟩ := bd h
  refine rn_sub [0, 1, 2] rfl ?_
  refine lp_ind (P := fun s => RN P 2 kX5_settle 7 [(0, .ref 146), (1, .int x1), (2, .int s.1)] [] (S s.2) r) (E := fun p => RN P 2 kX5_settle 70 [] [] (S p) r) ?_ _ _ _ hl7 ?_
  · intro s qx h hc
    obtain ⟨x2, M⟩ := s
    replace h : fR_settle_b7 x1 x2 M = some qx := h
    show RN P 2 kX5_settle 7 [(0, .ref 146), (1, .int x1), (2, .int x2)] [] (S M) r
    unfold fR_settle_b7 at h
    refine sb_in [(7, .iload_n 2, 1), (8, .ifCond .lt 62, 3)] 11 (by decide +kernel) ?_
    refine sb_iload_n rfl ?_
    rcases ife h with ⟨cz11, h⟩ | ⟨cz11, h⟩
    · refine sb_if_lt_t 70 cz11 (by decide) ?_
      cases h
      exact rn_sub [] rfl hc
    · refine sb_if_lt_f 70 cz11 (by decide) ?_
      refine sb_in [(11, .aload_n 0, 1), (12, .getfield 29, 3), (15, .iload_n 2, 1), (16, .iaload, 1), (17, .iload_n 1, 1), (18, .if_icmp .lt 52, 3)] 21 (by decide +kernel) ?_
      refine sb_aload_n rfl ?_
      refine ss_getR g5_29 h146 r146_6 ?_
      refine sb_iload_n rfl ?_
      obtain ⟨hgz2, h⟩ := gd h
      refine ss_iald h167 hgz2 ?_
      refine sb_iload_n rfl ?_
      rcases ife h with ⟨cz12, h⟩ | ⟨cz12, h⟩
      · refine sb_icmp_lt_t 70 cz12 (by decide) ?_
        cases h
        exact rn_sub [] rfl hc
      · refine sb_icmp_lt_f 70 cz12 (by decide) ?_
        refine sb_in [(21, .aload_n 0, 1), (22, .getfield 12, 3), (25, .getfield 80, 3), (28, .aload_n 0, 1), (29, .getfield 29, 3), (32, .iload_n 2, 1), (33, .iaload, 1), (34, .invokevirtual 163, 3), (37, .aload_n 0, 1), (38, .getfield 29, 3), (41, .iload_n 2, 1), (42, .iaload, 1), (43, .sipush 20003, 3), (46, .if_icmp .ne 13, 3)] 49 (by decide +kernel) ?_
        refine sb_aload_n rfl ?_
        refine ss_getR g5_12 h146 r146_0 ?_
        refine ss_getR g5_80 h147 r147_0 ?_
        refine sb_aload_n rfl ?_
        refine ss_getR g5_29 h146 r146_6 ?_
        refine sb_iload_n rfl ?_
        obtain ⟨hgz3, h⟩ := gd h
        refine ss_iald h167 hgz3 ?_
        obtain ⟨Mz5, hez4, h⟩ := bd h
        refine sb_callVv 1 rfl oX2_addStep ln5_163 vX2_addStep (rc_own h148.1 (S_lt h148.2) (by decide)) (rnCk_of (by decide +kernel) rfl) (tfL_addStep hez4) ?_
        refine sb_aload_n rfl ?_
        refine ss_getR g5_29 h146 r146_6 ?_
        refine sb_iload_n rfl ?_
        obtain ⟨hgz6, h⟩ := gd h
        refine ss_iald h167 hgz6 ?_
        refine sb_sipush cS20003 ?_
        obtain ⟨Mz8, hj59, h⟩ := bd h
        have hJ59 : RN P 2 kX5_settle 59 [(0, .ref 146), (1, .int x1), (2, .int x2)] [] (S Mz8) r := by
          refine sb_in [(59, .aload_n 0, 1), (60, .iload_n 2, 1), (61, .putfield 151, 3), (64, .iinc 2 (-1), 3), (67, .goto (-60), 3)] 70 (by decide +kernel) ?_
          refine sb_aload_n rfl ?_
          refine sb_iload_n rfl ?_
          refine ss_putI p5_151 h146 (by decide) ?_
          refine ss_iinc cIm1 rfl (by decide) rfl ?_
          refine sb_goto 7 (by decide) ?_
          cases h
          exact rn_sub [0, 1, 2] rfl hc
        clear h
        have h := hj59
        clear hj59
        rcases ife h with ⟨cz13, h⟩ | ⟨cz13, h⟩
        · refine sb_icmp_ne_f 59 cz13 (by decide) ?_
          refine sb_in [(49, .aload_n 0, 1), (50, .dup, 1), (51, .getfield 154, 3), (54, .iconst 1, 1), (55, .isub, 1), (56, .putfield 154, 3)] 59 (by decide +kernel) ?_
          refine sb_aload_n rfl ?_
          refine sb_dup rfl ?_
          refine ss_getI g5_154 h146 ?_
          refine sb_iconst cI1 ?_
          refine sb_isub ?_
          refine ss_putI p5_154 h146 (by decide) ?_
          refine sb_end ?_
          cases h
          exact rn_sub [0, 1, 2] rfl hJ59
        · refine sb_icmp_ne_t 59 cz13 (by decide) ?_
          cases h
          exact rn_sub [0, 1, 2] rfl hJ59
  · clear hl7
    obtain ⟨Mz10, hey⟩ : ∃ z, z = e7 := ⟨_, rfl⟩
    subst hey
    show RN P 2 kX5_settle 70 [] [] (S Mz10) r
    refine sb_in [(70, .return_, 1)] 71 (by decide +kernel) ?_
    cases h
    subst hr
    refine sb_return ?_
    exact rfl
theorem tfR_settle {P : Px} {x1 : Int32} {M : Mm} {rr : Mm} (h : fR_settle x1 M = some rr) : EX P 2 kX5_settle [.ref 146, .int x1] (S M) (none, S rr) := ex_of oX5_settle (Nat.le_of_ble_eq_true rfl) (nfR_settle  h rfl)
set_option maxRecDepth 20000 in
theorem nfR_closeAll {P : Px} {M : Mm} {rr : Mm} (h : fR_closeAll M = some rr) {r : Option Value × Sg} (hr : r = (none, S rr)) : RN P 3 kX5_closeAll 0 [(0, .ref 146)] [] (S M) r := by
  unfold fR_closeAll at h
  refine sb_in [(0, .iconst 0, 1), (1, .istore_n 1, 1)] 2 (by decide +kernel) ?_
  refine sb_iconst cI0 ?_
  refine sb_istore_n (by decide) rfl ?_
  refine sb_end ?_
  obtain ⟨e2, hl2, h⟩ := bd h
  refine rn_sub [0, 1] rfl ?_
  refine lp_ind (P := fun s => RN P 3 kX5_closeAll 2 [(0, .ref 146), (1, .int s.1)] [] (S s.2) r) (E := fun e => match e with | Sum.inl p => RN P 3 kX5_closeAll 31 [] [] (S p) r | Sum.inr p => RN P 3 kX5_closeAll 70 [] [] (S p) r) ?_ _ _ _ hl2 ?_
  · intro s qx h hc
    obtain ⟨x1, M⟩ := s
    replace h : fR_closeAll_b2 x1 M = some qx := h
    show RN P 3 kX5_closeAll 2 [(0, .ref 146), (1, .int x1)] [] (S M) r
    unfold fR_closeAll_b2 at h
    refine sb_in [(2, .iload_n 1, 1), (3, .bipush 8, 2), (5, .if_icmp .ge 65, 3)] 8 (by decide +kernel) ?_
    refine sb_iload_n rfl ?_
    refine sb_bipush cB8 ?_
    rcases ife h with ⟨cz10, h⟩ | ⟨cz10, h⟩
    · refine sb_icmp_ge_t 70 cz10 (by decide) ?_
      cases h
      exact rn_sub [] rfl hc
    · refine sb_icmp_ge_f 70 cz10 (by decide) ?_
      refine sb_in [(8, .aload_n 0, 1), (9, .invokevirtual 50, 3), (12, .bipush 41, 2), (14, .if_icmp .ne 56, 3)] 17 (by decide +kernel) ?_
      refine sb_aload_n rfl ?_
      obtain ⟨qz2, hez1, h⟩ := bd h
      refine sb_callVi 0 rfl oX5_sort ln5_50 vX5_sort (rc_own h146.1 (S_lt h146.2) (by decide)) (rnCk_of (by decide +kernel) rfl) (tfR_sort hez1) ?_
      refine sb_bipush cB41 ?_
      rcases ife h with ⟨cz11, h⟩ | ⟨cz11, h⟩
      · refine sb_icmp_ne_f 70 cz11 (by decide) ?_
        refine sb_in [(17, .aload_n 0, 1), (18, .sipush 20001, 3), (21, .invokevirtual 176, 3), (24, .aload_n 0, 1), (25, .getfield 151, 3), (28, .ifCond .ne 6, 3)] 31 (by decide +kernel) ?_
        refine sb_aload_n rfl ?_
        refine sb_sipush cS20001 ?_
        obtain ⟨Mz4, hez3, h⟩ := bd h
        refine sb_callVv 1 rfl oX5_settle ln5_176 vX5_settle (rc_own h146.1 (S_lt h146.2) (by decide)) (rnCk_of (by decide +kernel) rfl) (tfR_settle hez3) ?_
        refine sb_aload_n rfl ?_
        refine ss_getI g5_151 h146 ?_
        rcases ife h with ⟨cz12, h⟩ | ⟨cz12, h⟩
        · refine sb_if_ne_f 34 cz12 (by decide) ?_
          cases h
          exact rn_sub [] rfl hc
        · refine sb_if_ne_t 34 cz12 (by decide) ?_
          refine sb_in [(34, .aload_n 0, 1), (35, .dup, 1), (36, .getfield 151, 3), (39, .iconst 1, 1), (40, .isub, 1), (41, .putfield 151, 3), (44, .aload_n 0, 1), (45, .dup, 1), (46, .getfield 154, 3), (49, .iconst 1, 1), (50, .isub, 1), (51, .putfield 154, 3), (54, .aload_n 0, 1), (55, .dup, 1), (56, .getfield 44, 3), (59, .iconst 1, 1), (60, .iadd, 1), (61, .putfield 44, 3), (64, .iinc 1 1, 3), (67, .goto (-65), 3)] 70 (by decide +kernel) ?_
          refine sb_aload_n rfl ?_
          refine sb_dup rfl ?_
          refine ss_getI g5_151 h146 ?_
          refine sb_iconst cI1 ?_
          refine sb_isub ?_
          refine ss_putI p5_151 h146 (by decide) ?_
          refine sb_aload_n rfl ?_
          refine sb_dup rfl ?_
          refine ss_getI g5_154 h146 ?_
          refine sb_iconst cI1 ?_
          refine sb_isub ?_
          refine ss_putI p5_154 h146 (by decide) ?_
          refine sb_aload_n rfl ?_
          refine sb_dup rfl ?_
          refine ss_getI g5_44 h146 ?_
          refine sb_iconst cI1 ?_
          refine sb_iadd ?_
          refine ss_putI p5_44 h146 (by decide) ?_
          refine ss_iinc cI1 rfl (by decide) rfl ?_
          refine sb_goto 2 (by decide) ?_
          cases h
          exact rn_sub [0, 1] rfl hc
      · refine sb_icmp_ne_t 70 cz11 (by decide) ?_
        cases h
        exact rn_sub [] rfl hc
  · clear hl2
    rcases e2 with e2 | e2
    · skip
      obtain ⟨Mz8, hey⟩ : ∃ z, z = e2 := ⟨_, rfl⟩
      subst hey
      show RN P 3 kX5_closeAll 31 [] [] (S Mz8) r
      refine sb_in [(31, .goto 39, 3)] 34 (by decide +kernel) ?_
      refine sb_goto 70 (by decide) ?_
      refine sb_in [(70, .return_, 1)] 71 (by decide +kernel) ?_
      cases h
      subst hr
      refine sb_return ?_
      exact rfl
    · skip
      obtain ⟨Mz9, hey⟩ : ∃ z, z = e2 := ⟨_, rfl⟩
      subst hey
      show RN P 3 kX5_closeAll 70 [] [] (S Mz9) r
      refine sb_in [(70, .return_, 1)] 71 (by decide +kernel) ?_
      cases h
      subst hr
      refine sb_return ?_
      exact rfl
theorem tfR_closeAll {P : Px} {M : Mm} {rr : Mm} (h : fR_closeAll M = some rr) : EX P 3 kX5_closeAll [.ref 146] (S M) (none, S rr) := ex_of oX5_closeAll (Nat.le_of_ble_eq_true rfl) (nfR_closeAll  h rfl)
set_option maxRecDepth 20000 in
theorem nfR_putOff {P : Px} {x1 : Int32} {M : Mm} {rr : Mm} (h : fR_putOff x1 M = some rr) {r : Option Value × Sg} (hr : r = (none, S rr)) : RN P 1 kX5_putOff 0 [(0, .ref 146), (1, .int x1)] [] (S M) r := by
  unfold fR_putOff at h
  refine sb_in [(0, .aload_n 0, 1), (1, .getfield 151, 3), (4, .bipush 32, 2), (6, .if_icmp .ge 23, 3)] 9 (by decide +kernel) ?_
  refine sb_aload_n rfl ?_
  refine ss_getI g5_151 h146 ?_
  refine sb_bipush cB32 ?_
  obtain ⟨Mz4, hj29, h⟩ := bd h
  have hJ29 : RN P 1 kX5_putOff 29 [(0, .ref 146)] [] (S Mz4) r := by
    refine sb_in [(29, .aload_n 0, 1), (30, .dup, 1), (31, .getfield 44, 3), (34, .iconst 1, 1), (35, .iadd, 1), (36, .putfield 44, 3), (39, .return_, 1)] 40 (by decide +kernel) ?_
    refine sb_aload_n rfl ?_
    refine sb_dup rfl ?_
    refine ss_getI g5_44 h146 ?_
    refine sb_iconst cI1 ?_
    refine sb_iadd ?_
    refine ss_putI p5_44 h146 (by decide) ?_
    cases h
    subst hr
    refine sb_return ?_
    exact rfl
  clear h
  have h := hj29
  clear hj29
  rcases ife h with ⟨cz6, h⟩ | ⟨cz6, h⟩
  · refine sb_icmp_ge_t 29 cz6 (by decide) ?_
    cases h
    exact rn_sub [0] rfl hJ29
  · refine sb_icmp_ge_f 29 cz6 (by decide) ?_
    refine sb_in [(9, .aload_n 0, 1), (10, .getfield 29, 3), (13, .aload_n 0, 1), (14, .getfield 151, 3), (17, .iload_n 1, 1), (18, .iastore, 1), (19, .aload_n 0, 1), (20, .dup, 1), (21, .getfield 151, 3), (24, .iconst 1, 1), (25, .iadd, 1), (26, .putfield 151, 3)] 29 (by decide +kernel) ?_
    refine sb_aload_n rfl ?_
    refine ss_getR g5_29 h146 r146_6 ?_
    refine sb_aload_n rfl ?_
    refine ss_getI g5_151 h146 ?_
    refine sb_iload_n rfl ?_
    obtain ⟨hgz2, h⟩ := gd h
    refine ss_iast h167 (by decide) hgz2 ?_
    refine sb_aload_n rfl ?_
    refine sb_dup rfl ?_
    refine ss_getI g5_151 h146 ?_
    refine sb_iconst cI1 ?_
    refine sb_iadd ?_
    refine ss_putI p5_151 h146 (by decide) ?_
    refine sb_end ?_
    cases h
    exact rn_sub [0] rfl hJ29
theorem tfR_putOff {P : Px} {x1 : Int32} {M : Mm} {rr : Mm} (h : fR_putOff x1 M = some rr) : EX P 1 kX5_putOff [.ref 146, .int x1] (S M) (none, S rr) := ex_of oX5_putOff (Nat.le_of_ble_eq_true rfl) (nfR_putOff  h rfl)
set_option maxRecDepth 20000 in
theorem nfR_goesOn {P : Px} {M : Mm} {rr : (Int32 × Mm)} (h : fR_goesOn M = some rr) {r : Option Value × Sg} (hr : r = (some (.int rr.1), S rr.2)) : RN P 3 kX5_goesOn 0 [(0, .ref 146)] [] (S M) r := by
  unfold fR_goesOn at h
  refine sb_in [(0, .aload_n 0, 1), (1, .invokevirtual 50, 3), (4, .sipush 261, 3), (7, .if_icmp .ne 19, 3)] 10 (by decide +kernel) ?_
  refine sb_aload_n rfl ?_
  obtain ⟨qz2, hez1, h⟩ := bd h
  refine sb_callVi 0 rfl oX5_sort ln5_50 vX5_sort (rc_own h146.1 (S_lt h146.2) (by decide)) (rnCk_of (by decide +kernel) rfl) (tfR_sort hez1) ?_
  refine sb_sipush cS261 ?_
  rcases ife h with ⟨cz15, h⟩ | ⟨cz15, h⟩
  · refine sb_icmp_ne_f 26 cz15 (by decide) ?_
    refine sb_in [(10, .aload_n 0, 1), (11, .sipush 20002, 3), (14, .invokevirtual 176, 3), (17, .aload_n 0, 1), (18, .sipush 20002, 3), (21, .invokevirtual 173, 3), (24, .iconst 1, 1), (25, .ireturn, 1)] 26 (by decide +kernel) ?_
    refine sb_aload_n rfl ?_
    refine sb_sipush cS20002 ?_
    obtain ⟨Mz12, hez11, h⟩ := bd h
    refine sb_callVv 1 rfl oX5_settle ln5_176 vX5_settle (rc_own h146.1 (S_lt h146.2) (by decide)) (rnCk_of (by decide +kernel) rfl) (tfR_settle hez11) ?_
    refine sb_aload_n rfl ?_
    refine sb_sipush cS20002 ?_
    obtain ⟨Mz14, hez13, h⟩ := bd h
    refine sb_callVv 1 rfl oX5_putOff ln5_173 vX5_putOff (rc_own h146.1 (S_lt h146.2) (by decide)) (rnCk_of (by decide +kernel) rfl) (tfR_putOff hez13) ?_
    refine sb_iconst cI1 ?_
    cases h
    subst hr
    refine sb_ireturn ?_
    exact ⟨.boolean, rfl, by decide⟩
  · refine sb_icmp_ne_t 26 cz15 (by decide) ?_
    refine sb_in [(26, .aload_n 0, 1), (27, .sipush 20001, 3), (30, .invokevirtual 176, 3), (33, .aload_n 0, 1), (34, .invokevirtual 50, 3), (37, .sipush 260, 3), (40, .if_icmp .ne 12, 3)] 43 (by decide +kernel) ?_
    refine sb_aload_n rfl ?_
    refine sb_sipush cS20001 ?_
    obtain ⟨Mz4, hez3, h⟩ := bd h
    refine sb_callVv 1 rfl oX5_settle ln5_176 vX5_settle (rc_own h146.1 (S_lt h146.2) (by decide)) (rnCk_of (by decide +kernel) rfl) (tfR_settle hez3) ?_
    refine sb_aload_n rfl ?_
    obtain ⟨qz6, hez5, h⟩ := bd h
    refine sb_callVi 0 rfl oX5_sort ln5_50 vX5_sort (rc_own h146.1 (S_lt h146.2) (by decide)) (rnCk_of (by decide +kernel) rfl) (tfR_sort hez5) ?_
    refine sb_sipush cS260 ?_
    rcases ife h with ⟨cz16, h⟩ | ⟨cz16, h⟩
    · refine sb_icmp_ne_f 52 cz16 (by decide) ?_
      refine sb_in [(43, .aload_n 0, 1), (44, .sipush 20001, 3), (47, .invokevirtual 173, 3), (50, .iconst 1, 1), (51, .ireturn, 1)] 52 (by decide +kernel) ?_
      refine sb_aload_n rfl ?_
      refine sb_sipush cS20001 ?_
      obtain ⟨Mz10, hez9, h⟩ := bd h
      refine sb_callVv 1 rfl oX5_putOff ln5_173 vX5_putOff (rc_own h146.1 (S_lt h146.2) (by decide)) (rnCk_of (by decide +kernel) rfl) (tfR_putOff hez9) ?_
      refine sb_iconst cI1 ?_
      cases h
      subst hr
      refine sb_ireturn ?_
      exact ⟨.boolean, rfl, by decide⟩
    · refine sb_icmp_ne_t 52 cz16 (by decide) ?_
      refine sb_in [(52, .aload_n 0, 1), (53, .getfield 151, 3), (56, .ifCond .le 8, 3)] 59 (by decide +kernel) ?_
      refine sb_aload_n rfl ?_
      refine ss_getI g5_151 h146 ?_
      rcases ife h with ⟨cz17, h⟩ | ⟨cz17, h⟩
      · refine sb_if_le_t 64 cz17 (by decide) ?_
        refine sb_in [(64, .iconst 0, 1), (65, .ireturn, 1)] 66 (by decide +kernel) ?_
        refine sb_iconst cI0 ?_
        cases h
        subst hr
        refine sb_ireturn ?_
        exact ⟨.boolean, rfl, by decide⟩
      · refine sb_if_le_f 64 cz17 (by decide) ?_
        refine sb_in [(59, .aload_n 0, 1), (60, .iconst 1, 1), (61, .invokevirtual 73, 3)] 64 (by decide +kernel) ?_
        refine sb_aload_n rfl ?_
        refine sb_iconst cI1 ?_
        obtain ⟨Mz8, hez7, h⟩ := bd h
        refine sb_callVv 1 rfl oX5_blame ln5_73 vX5_blame (rc_own h146.1 (S_lt h146.2) (by decide)) (rnCk_of (by decide +kernel) rfl) (tfR_blame hez7) ?_
        refine sb_end ?_
        refine sb_in [(64, .iconst 0, 1), (65, .ireturn, 1)] 66 (by decide +kernel) ?_
        refine sb_iconst cI0 ?_
        cases h
        subst hr
        refine sb_ireturn ?_
        exact ⟨.boolean, rfl, by decide⟩
theorem tfR_goesOn {P : Px} {M : Mm} {rr : (Int32 × Mm)} (h : fR_goesOn M = some rr) : EX P 3 kX5_goesOn [.ref 146] (S M) (some (.int rr.1), S rr.2) := ex_of oX5_goesOn (Nat.le_of_ble_eq_true rfl) (nfR_goesOn  h rfl)
set_option maxRecDepth 20000 in
theorem nfR_openOne {P : Px} {M : Mm} {rr : Mm} (h : fR_openOne M = some rr) {r : Option Value × Sg} (hr : r = (none, S rr)) : RN P 2 kX5_openOne 0 [(0, .ref 146)] [] (S M) r := by
  unfold fR_openOne at h
  refine sb_in [(0, .aload_n 0, 1), (1, .getfield 154, 3), (4, .bipush 8, 2), (6, .if_icmp .lt 9, 3)] 9 (by decide +kernel) ?_
  refine sb_aload_n rfl ?_
  refine ss_getI g5_154 h146 ?_
  refine sb_bipush cB8 ?_
  rcases ife h with ⟨cz10, h⟩ | ⟨cz10, h⟩
  · refine sb_icmp_lt_t 15 cz10 (by decide) ?_
    refine sb_in [(15, .aload_n 0, 1), (16, .dup, 1), (17, .getfield 154, 3), (20, .iconst 1, 1), (21, .iadd, 1), (22, .putfield 154, 3), (25, .aload_n 0, 1), (26, .aload_n 0, 1), (27, .invokevirtual 50, 3), (30, .sipush 262, 3), (33, .if_icmp .ne 9, 3)] 36 (by decide +kernel) ?_
    refine sb_aload_n rfl ?_
    refine sb_dup rfl ?_
    refine ss_getI g5_154 h146 ?_
    refine sb_iconst cI1 ?_
    refine sb_iadd ?_
    refine ss_putI p5_154 h146 (by decide) ?_
    refine sb_aload_n rfl ?_
    refine sb_aload_n rfl ?_
    obtain ⟨qz3, hez2, h⟩ := bd h
    refine sb_callVi 0 rfl oX5_sort ln5_50 vX5_sort (rc_own h146.1 (S_lt h146.2) (by decide)) (rnCk_of (by decide +kernel) rfl) (tfR_sort hez2) ?_
    refine sb_sipush cS262 ?_
    rcases ife h with ⟨cz11, h⟩ | ⟨cz11, h⟩
    · refine sb_icmp_ne_f 42 cz11 (by decide) ?_
      refine sb_in [(36, .sipush 20003, 3), (39, .goto 4, 3)] 42 (by decide +kernel) ?_
      refine sb_sipush cS20003 ?_
      refine sb_goto 43 (by decide) ?_
      refine sb_in [(43, .invokevirtual 173, 3), (46, .return_, 1)] 47 (by decide +kernel) ?_
      obtain ⟨Mz7, hez6, h⟩ := bd h
      refine sb_callVv 1 rfl oX5_putOff ln5_173 vX5_putOff (rc_own h146.1 (S_lt h146.2) (by decide)) (rnCk_of (by decide +kernel) rfl) (tfR_putOff hez6) ?_
      cases h
      subst hr
      refine sb_return ?_
      exact rfl
    · refine sb_icmp_ne_t 42 cz11 (by decide) ?_
      refine sb_in [(42, .iconst 0, 1)] 43 (by decide +kernel) ?_
      refine sb_iconst cI0 ?_
      refine sb_end ?_
      refine sb_in [(43, .invokevirtual 173, 3), (46, .return_, 1)] 47 (by decide +kernel) ?_
      obtain ⟨Mz5, hez4, h⟩ := bd h
      refine sb_callVv 1 rfl oX5_putOff ln5_173 vX5_putOff (rc_own h146.1 (S_lt h146.2) (by decide)) (rnCk_of (by decide +kernel) rfl) (tfR_putOff hez4) ?_
      cases h
      subst hr
      refine sb_return ?_
      exact rfl
  · refine sb_icmp_lt_f 15 cz10 (by decide) ?_
    refine sb_in [(9, .aload_n 0, 1), (10, .iconst 3, 1), (11, .invokevirtual 73, 3), (14, .return_, 1)] 15 (by decide +kernel) ?_
    refine sb_aload_n rfl ?_
    refine sb_iconst cI3 ?_
    obtain ⟨Mz9, hez8, h⟩ := bd h
    refine sb_callVv 1 rfl oX5_blame ln5_73 vX5_blame (rc_own h146.1 (S_lt h146.2) (by decide)) (rnCk_of (by decide +kernel) rfl) (tfR_blame hez8) ?_
    cases h
    subst hr
    refine sb_return ?_
    exact rfl
theorem tfR_openOne {P : Px} {M : Mm} {rr : Mm} (h : fR_openOne M = some rr) : EX P 2 kX5_openOne [.ref 146] (S M) (none, S rr) := ex_of oX5_openOne (Nat.le_of_ble_eq_true rfl) (nfR_openOne  h rfl)
set_option maxRecDepth 20000 in
theorem nfR_condition {P : Px} {M : Mm} {rr : Mm} (h : fR_condition M = some rr) {r : Option Value × Sg} (hr : r = (none, S rr)) : RN P 5 kX5_condition 0 [(0, .ref 146)] [] (S M) r := by
  unfold fR_condition at h
  refine sb_in [(0, .aload_n 0, 1), (1, .iconst 0, 1), (2, .putfield 151, 3), (5, .aload_n 0, 1), (6, .iconst 0, 1), (7, .putfield 154, 3), (10, .iconst 0, 1), (11, .istore_n 1, 1)] 12 (by decide +kernel) ?_
  refine sb_aload_n rfl ?_
  refine sb_iconst cI0 ?_
  refine ss_putI p5_151 h146 (by decide) ?_
  refine sb_aload_n rfl ?_
  refine sb_iconst cI0 ?_
  refine ss_putI p5_154 h146 (by decide) ?_
  refine sb_iconst cI0 ?_
  refine sb_istore_n (by decide) rfl ?_
  refine sb_end ?_
  obtain ⟨e12, hl12, h⟩ := bd h
  refine rn_sub [0, 1] rfl ?_
  refine lp_ind (P := fun s => RN P 5 kX5_condition 12 [(0, .ref 146), (1, .int s.1)] [] (S s.2) r) (E := fun e => match e with | Sum.inl p => RN P 5 kX5_condition 87 [] [] (S p) r | Sum.inr p => RN P 5 kX5_condition 96 [] [] (S p) r) ?_ _ _ _ hl12 ?_
  · intro s qx h hc
    obtain ⟨x1, M⟩ := s
    replace h : fR_condition_b12 x1 M = some qx := h
    show RN P 5 kX5_condition 12 [(0, .ref 146), (1, .int x1)] [] (S M) r
    unfold fR_condition_b12 at h
    refine sb_in [(12, .iload_n 1, 1), (13, .sipush 400, 3), (16, .if_icmp .ge 80, 3)] 19 (by decide +kernel) ?_
    refine sb_iload_n rfl ?_
    refine sb_sipush cS400 ?_
    rcases ife h with ⟨cz23, h⟩ | ⟨cz23, h⟩
    · refine sb_icmp_ge_t 96 cz23 (by decide) ?_
      cases h
      exact rn_sub [] rfl hc
    · refine sb_icmp_ge_f 96 cz23 (by decide) ?_
      refine sb_in [(19, .aload_n 0, 1), (20, .getfield 33, 3), (23, .ifCond .ne 73, 3)] 26 (by decide +kernel) ?_
      refine sb_aload_n rfl ?_
      refine ss_getI g5_33 h146 ?_
      rcases ife h with ⟨cz24, h⟩ | ⟨cz24, h⟩
      · refine sb_if_ne_f 96 cz24 (by decide) ?_
        refine sb_in [(26, .aload_n 0, 1), (27, .invokevirtual 50, 3), (30, .sipush 262, 3), (33, .if_icmp .eq 12, 3)] 36 (by decide +kernel) ?_
        refine sb_aload_n rfl ?_
        obtain ⟨qz4, hez3, h⟩ := bd h
        refine sb_callVi 0 rfl oX5_sort ln5_50 vX5_sort (rc_own h146.1 (S_lt h146.2) (by decide)) (rnCk_of (by decide +kernel) rfl) (tfR_sort hez3) ?_
        refine sb_sipush cS262 ?_
        have hJ90 : ∀ (z1 : Int32) (M : Mm), fR_condition_j90 z1 M = some qx → RN P 5 kX5_condition 90 [(0, .ref 146), (1, .int z1)] [] (S M) r := by
          intro z1 M h
          unfold fR_condition_j90 at h
          refine sb_in [(90, .iinc 1 1, 3), (93, .goto (-81), 3)] 96 (by decide +kernel) ?_
          refine ss_iinc cI1 rfl (by decide) rfl ?_
          refine sb_goto 12 (by decide) ?_
          cases h
          exact rn_sub [0, 1] rfl hc
        have hJ45 : ∀ (z1 : Int32) (M : Mm), fR_condition_j45 z1 M = some qx → RN P 5 kX5_condition 45 [(0, .ref 146), (1, .int z1)] [] (S M) r := by
          intro z1 M h
          unfold fR_condition_j45 at h
          refine sb_in [(45, .aload_n 0, 1), (46, .invokevirtual 157, 3), (49, .goto 41, 3)] 52 (by decide +kernel) ?_
          refine sb_aload_n rfl ?_
          obtain ⟨Mz20, hez19, h⟩ := bd h
          refine sb_callVv 0 rfl oX5_openOne ln5_157 vX5_openOne (rc_own h146.1 (S_lt h146.2) (by decide)) (rnCk_of (by decide +kernel) rfl) (tfR_openOne hez19) ?_
          refine sb_goto 90 (by decide) ?_
          exact rn_sub [0, 1] rfl (hJ90 _ _ h)
        rcases ife h with ⟨cz25, h⟩ | ⟨cz25, h⟩
        · refine sb_icmp_eq_t 45 cz25 (by decide) ?_
          exact rn_sub [0, 1] rfl (hJ45 _ _ h)
        · refine sb_icmp_eq_f 45 cz25 (by decide) ?_
          refine sb_in [(36, .aload_n 0, 1), (37, .invokevirtual 50, 3), (40, .bipush 40, 2), (42, .if_icmp .ne 10, 3)] 45 (by decide +kernel) ?_
          refine sb_aload_n rfl ?_
          obtain ⟨qz6, hez5, h⟩ := bd h
          refine sb_callVi 0 rfl oX5_sort ln5_50 vX5_sort (rc_own h146.1 (S_lt h146.2) (by decide)) (rnCk_of (by decide +kernel) rfl) (tfR_sort hez5) ?_
          refine sb_bipush cB40 ?_
          rcases ife h with ⟨cz26, h⟩ | ⟨cz26, h⟩
          · refine sb_icmp_ne_f 52 cz26 (by decide) ?_
            exact rn_sub [0, 1] rfl (hJ45 _ _ h)
          · refine sb_icmp_ne_t 52 cz26 (by decide) ?_
            refine sb_in [(52, .aload_n 0, 1), (53, .invokevirtual 95, 3), (56, .aload_n 0, 1), (57, .invokevirtual 160, 3), (60, .istore_n 2, 1), (61, .aload_n 0, 1), (62, .invokevirtual 95, 3), (65, .aload_n 0, 1), (66, .getfield 12, 3), (69, .getfield 80, 3), (72, .iload_n 2, 1), (73, .invokevirtual 163, 3), (76, .aload_n 0, 1), (77, .invokevirtual 166, 3), (80, .aload_n 0, 1), (81, .invokevirtual 169, 3), (84, .ifCond .ne 6, 3)] 87 (by decide +kernel) ?_
            refine sb_aload_n rfl ?_
            obtain ⟨Mz8, hez7, h⟩ := bd h
            refine sb_callVv 0 rfl oX5_sum ln5_95 vX5_sum (rc_own h146.1 (S_lt h146.2) (by decide)) (rnCk_of (by decide +kernel) rfl) (tfR_sum hez7) ?_
            refine sb_aload_n rfl ?_
            obtain ⟨qz10, hez9, h⟩ := bd h
            refine sb_callVi 0 rfl oX5_relation ln5_160 vX5_relation (rc_own h146.1 (S_lt h146.2) (by decide)) (rnCk_of (by decide +kernel) rfl) (tfR_relation hez9) ?_
            refine sb_istore_n (by decide) rfl ?_
            refine sb_aload_n rfl ?_
            obtain ⟨Mz12, hez11, h⟩ := bd h
            refine sb_callVv 0 rfl oX5_sum ln5_95 vX5_sum (rc_own h146.1 (S_lt h146.2) (by decide)) (rnCk_of (by decide +kernel) rfl) (tfR_sum hez11) ?_
            refine sb_aload_n rfl ?_
            refine ss_getR g5_12 h146 r146_0 ?_
            refine ss_getR g5_80 h147 r147_0 ?_
            refine sb_iload_n rfl ?_
            obtain ⟨Mz14, hez13, h⟩ := bd h
            refine sb_callVv 1 rfl oX2_addStep ln5_163 vX2_addStep (rc_own h148.1 (S_lt h148.2) (by decide)) (rnCk_of (by decide +kernel) rfl) (tfL_addStep hez13) ?_
            refine sb_aload_n rfl ?_
            obtain ⟨Mz16, hez15, h⟩ := bd h
            refine sb_callVv 0 rfl oX5_closeAll ln5_166 vX5_closeAll (rc_own h146.1 (S_lt h146.2) (by decide)) (rnCk_of (by decide +kernel) rfl) (tfR_closeAll hez15) ?_
            refine sb_aload_n rfl ?_
            obtain ⟨qz18, hez17, h⟩ := bd h
            refine sb_callVi 0 rfl oX5_goesOn ln5_169 vX5_goesOn (rc_own h146.1 (S_lt h146.2) (by decide)) (rnCk_of (by decide +kernel) rfl) (tfR_goesOn hez17) ?_
            rcases ife h with ⟨cz27, h⟩ | ⟨cz27, h⟩
            · refine sb_if_ne_f 90 cz27 (by decide) ?_
              cases h
              exact rn_sub [] rfl hc
            · refine sb_if_ne_t 90 cz27 (by decide) ?_
              exact rn_sub [0, 1] rfl (hJ90 _ _ h)
      · refine sb_if_ne_t 96 cz24 (by decide) ?_
        cases h
        exact rn_sub [] rfl hc
  · clear hl12
    rcases e12 with e12 | e12
    · skip
      obtain ⟨Mz21, hey⟩ : ∃ z, z = e12 := ⟨_, rfl⟩
      subst hey
      show RN P 5 kX5_condition 87 [] [] (S Mz21) r
      refine sb_in [(87, .goto 9, 3)] 90 (by decide +kernel) ?_
      refine sb_goto 96 (by decide) ?_
      refine sb_in [(96, .return_, 1)] 97 (by decide +kernel) ?_
      cases h
      subst hr
      refine sb_return ?_
      exact rfl
    · skip
      obtain ⟨Mz22, hey⟩ : ∃ z, z = e12 := ⟨_, rfl⟩
      subst hey
      show RN P 5 kX5_condition 96 [] [] (S Mz22) r
      refine sb_in [(96, .return_, 1)] 97 (by decide +kernel) ?_
      cases h
      subst hr
      refine sb_return ?_
      exact rfl
theorem tfR_condition {P : Px} {M : Mm} {rr : Mm} (h : fR_condition M = some rr) : EX P 5 kX5_condition [.ref 146] (S M) (none, S rr) := ex_of oX5_condition (Nat.le_of_ble_eq_true rfl) (nfR_condition  h rfl)
set_option maxRecDepth 20000 in
theorem nfR_need {P : Px} {x1 : Int32} {M : Mm} {rr : Mm} (h : fR_need x1 M = some rr) {r : Option Value × Sg} (hr : r = (none, S rr)) : RN P 2 kX5_need 0 [(0, .ref 146), (1, .int x1)] [] (S M) r := by
  unfold fR_need at h
  refine sb_in [(0, .aload_n 0, 1), (1, .invokevirtual 50, 3), (4, .iload_n 1, 1), (5, .if_icmp .ne 16, 3)] 8 (by decide +kernel) ?_
  refine sb_aload_n rfl ?_
  obtain ⟨qz2, hez1, h⟩ := bd h
  refine sb_callVi 0 rfl oX5_sort ln5_50 vX5_sort (rc_own h146.1 (S_lt h146.2) (by decide)) (rnCk_of (by decide +kernel) rfl) (tfR_sort hez1) ?_
  refine sb_iload_n rfl ?_
  rcases ife h with ⟨cz6, h⟩ | ⟨cz6, h⟩
  · refine sb_icmp_ne_f 21 cz6 (by decide) ?_
    refine sb_in [(8, .aload_n 0, 1), (9, .dup, 1), (10, .getfield 44, 3), (13, .iconst 1, 1), (14, .iadd, 1), (15, .putfield 44, 3), (18, .goto 8, 3)] 21 (by decide +kernel) ?_
    refine sb_aload_n rfl ?_
    refine sb_dup rfl ?_
    refine ss_getI g5_44 h146 ?_
    refine sb_iconst cI1 ?_
    refine sb_iadd ?_
    refine ss_putI p5_44 h146 (by decide) ?_
    refine sb_goto 26 (by decide) ?_
    refine sb_in [(26, .return_, 1)] 27 (by decide +kernel) ?_
    cases h
    subst hr
    refine sb_return ?_
    exact rfl
  · refine sb_icmp_ne_t 21 cz6 (by decide) ?_
    refine sb_in [(21, .aload_n 0, 1), (22, .iconst 1, 1), (23, .invokevirtual 73, 3)] 26 (by decide +kernel) ?_
    refine sb_aload_n rfl ?_
    refine sb_iconst cI1 ?_
    obtain ⟨Mz4, hez3, h⟩ := bd h
    refine sb_callVv 1 rfl oX5_blame ln5_73 vX5_blame (rc_own h146.1 (S_lt h146.2) (by decide)) (rnCk_of (by decide +kernel) rfl) (tfR_blame hez3) ?_
    refine sb_end ?_
    refine sb_in [(26, .return_, 1)] 27 (by decide +kernel) ?_
    cases h
    subst hr
    refine sb_return ?_
    exact rfl
theorem tfR_need {P : Px} {x1 : Int32} {M : Mm} {rr : Mm} (h : fR_need x1 M = some rr) : EX P 2 kX5_need [.ref 146, .int x1] (S M) (none, S rr) := ex_of oX5_need (Nat.le_of_ble_eq_true rfl) (nfR_need  h rfl)
set_option maxRecDepth 20000 in
theorem nfR_lawLine {P : Px} {x1 : Int32} {M : Mm} {rr : Mm} (h : fR_lawLine x1 M = some rr) {r : Option Value × Sg} (hr : r = (none, S rr)) : RN P 6 kX5_lawLine 0 [(0, .ref 146), (1, .int x1)] [] (S M) r := by
  unfold fR_lawLine at h
  refine sb_in [(0, .aload_n 0, 1), (1, .getfield 12, 3), (4, .getfield 80, 3), (7, .astore_n 2, 1), (8, .aload_n 2, 1), (9, .getfield 84, 3), (12, .iload_n 1, 1), (13, .aload_n 0, 1), (14, .invokevirtual 50, 3), (17, .sipush 256, 3), (20, .isub, 1), (21, .iastore, 1), (22, .aload_n 0, 1), (23, .dup, 1), (24, .getfield 44, 3), (27, .iconst 1, 1), (28, .iadd, 1), (29, .putfield 44, 3), (32, .aload_n 2, 1), (33, .getfield 89, 3), (36, .iload_n 1, 1), (37, .aload_n 2, 1), (38, .getfield 92, 3), (41, .iastore, 1), (42, .aload_n 0, 1), (43, .invokevirtual 95, 3), (46, .aload_n 2, 1), (47, .getfield 98, 3), (50, .iload_n 1, 1), (51, .aload_n 2, 1), (52, .getfield 92, 3), (55, .iastore, 1), (56, .aload_n 0, 1), (57, .invokevirtual 50, 3), (60, .sipush 259, 3), (63, .if_icmp .ne 17, 3)] 66 (by decide +kernel) ?_
  refine sb_aload_n rfl ?_
  refine ss_getR g5_12 h146 r146_0 ?_
  refine ss_getR g5_80 h147 r147_0 ?_
  refine sb_astore_n (by decide) rfl ?_
  refine sb_aload_n rfl ?_
  refine ss_getR g5_84 h148 r148_2 ?_
  refine sb_iload_n rfl ?_
  refine sb_aload_n rfl ?_
  obtain ⟨qz2, hez1, h⟩ := bd h
  refine sb_callVi 0 rfl oX5_sort ln5_50 vX5_sort (rc_own h146.1 (S_lt h146.2) (by decide)) (rnCk_of (by decide +kernel) rfl) (tfR_sort hez1) ?_
  refine sb_sipush cS256 ?_
  refine sb_isub ?_
  obtain ⟨hgz4, h⟩ := gd h
  refine ss_iast h149 (by decide) hgz4 ?_
  refine sb_aload_n rfl ?_
  refine sb_dup rfl ?_
  refine ss_getI g5_44 h146 ?_
  refine sb_iconst cI1 ?_
  refine sb_iadd ?_
  refine ss_putI p5_44 h146 (by decide) ?_
  refine sb_aload_n rfl ?_
  refine ss_getR g5_89 h148 r148_3 ?_
  refine sb_iload_n rfl ?_
  refine sb_aload_n rfl ?_
  refine ss_getI g5_92 h148 ?_
  obtain ⟨hgz7, h⟩ := gd h
  refine ss_iast h150 (by decide) hgz7 ?_
  refine sb_aload_n rfl ?_
  obtain ⟨Mz9, hez8, h⟩ := bd h
  refine sb_callVv 0 rfl oX5_sum ln5_95 vX5_sum (rc_own h146.1 (S_lt h146.2) (by decide)) (rnCk_of (by decide +kernel) rfl) (tfR_sum hez8) ?_
  refine sb_aload_n rfl ?_
  refine ss_getR g5_98 h148 r148_4 ?_
  refine sb_iload_n rfl ?_
  refine sb_aload_n rfl ?_
  refine ss_getI g5_92 h148 ?_
  obtain ⟨hgz11, h⟩ := gd h
  refine ss_iast h151 (by decide) hgz11 ?_
  refine sb_aload_n rfl ?_
  obtain ⟨qz13, hez12, h⟩ := bd h
  refine sb_callVi 0 rfl oX5_sort ln5_50 vX5_sort (rc_own h146.1 (S_lt h146.2) (by decide)) (rnCk_of (by decide +kernel) rfl) (tfR_sort hez12) ?_
  refine sb_sipush cS259 ?_
  obtain ⟨Mz17, hj80, h⟩ := bd h
  have hJ80 : RN P 6 kX5_lawLine 80 [(0, .ref 146), (1, .int x1), (2, .ref 148)] [] (S Mz17) r := by
    refine sb_in [(80, .aload_n 2, 1), (81, .getfield 104, 3), (84, .iload_n 1, 1), (85, .aload_n 2, 1), (86, .getfield 92, 3), (89, .iastore, 1), (90, .aload_n 0, 1), (91, .bipush 59, 2), (93, .invokevirtual 107, 3), (96, .aload_n 2, 1), (97, .iload_n 1, 1), (98, .iconst 1, 1), (99, .iadd, 1), (100, .putfield 110, 3), (103, .return_, 1)] 104 (by decide +kernel) ?_
    refine sb_aload_n rfl ?_
    refine ss_getR g5_104 h148 r148_5 ?_
    refine sb_iload_n rfl ?_
    refine sb_aload_n rfl ?_
    refine ss_getI g5_92 h148 ?_
    obtain ⟨hgz19, h⟩ := gd h
    refine ss_iast h152 (by decide) hgz19 ?_
    refine sb_aload_n rfl ?_
    refine sb_bipush cB59 ?_
    obtain ⟨Mz21, hez20, h⟩ := bd h
    refine sb_callVv 1 rfl oX5_need ln5_107 vX5_need (rc_own h146.1 (S_lt h146.2) (by decide)) (rnCk_of (by decide +kernel) rfl) (tfR_need hez20) ?_
    refine sb_aload_n rfl ?_
    refine sb_iload_n rfl ?_
    refine sb_iconst cI1 ?_
    refine sb_iadd ?_
    refine ss_putI p5_110 h148 (by decide) ?_
    cases h
    subst hr
    refine sb_return ?_
    exact rfl
  clear h
  have h := hj80
  clear hj80
  rcases ife h with ⟨cz23, h⟩ | ⟨cz23, h⟩
  · refine sb_icmp_ne_f 80 cz23 (by decide) ?_
    refine sb_in [(66, .aload_n 0, 1), (67, .dup, 1), (68, .getfield 44, 3), (71, .iconst 1, 1), (72, .iadd, 1), (73, .putfield 44, 3), (76, .aload_n 0, 1), (77, .invokevirtual 101, 3)] 80 (by decide +kernel) ?_
    refine sb_aload_n rfl ?_
    refine sb_dup rfl ?_
    refine ss_getI g5_44 h146 ?_
    refine sb_iconst cI1 ?_
    refine sb_iadd ?_
    refine ss_putI p5_44 h146 (by decide) ?_
    refine sb_aload_n rfl ?_
    obtain ⟨Mz16, hez15, h⟩ := bd h
    refine sb_callVv 0 rfl oX5_condition ln5_101 vX5_condition (rc_own h146.1 (S_lt h146.2) (by decide)) (rnCk_of (by decide +kernel) rfl) (tfR_condition hez15) ?_
    refine sb_end ?_
    cases h
    exact rn_sub [0, 1, 2] rfl hJ80
  · refine sb_icmp_ne_t 80 cz23 (by decide) ?_
    cases h
    exact rn_sub [0, 1, 2] rfl hJ80
theorem tfR_lawLine {P : Px} {x1 : Int32} {M : Mm} {rr : Mm} (h : fR_lawLine x1 M = some rr) : EX P 6 kX5_lawLine [.ref 146, .int x1] (S M) (none, S rr) := ex_of oX5_lawLine (Nat.le_of_ble_eq_true rfl) (nfR_lawLine  h rfl)
set_option maxRecDepth 20000 in
theorem nfR_kindWord {P : Px} {M : Mm} {rr : (Int32 × Mm)} (h : fR_kindWord M = some rr) {r : Option Value × Sg} (hr : r = (some (.int rr.1), S rr.2)) : RN P 3 kX5_kindWord 0 [(0, .ref 146)] [] (S M) r := by
  unfold fR_kindWord at h
  refine sb_in [(0, .aload_n 0, 1), (1, .invokevirtual 50, 3), (4, .sipush 276, 3), (7, .isub, 1), (8, .istore_n 1, 1), (9, .iload_n 1, 1), (10, .invokestatic 185, 3), (13, .ifCond .ne 10, 3)] 16 (by decide +kernel) ?_
  refine sb_aload_n rfl ?_
  obtain ⟨qz2, hez1, h⟩ := bd h
  refine sb_callVi 0 rfl oX5_sort ln5_50 vX5_sort (rc_own h146.1 (S_lt h146.2) (by decide)) (rnCk_of (by decide +kernel) rfl) (tfR_sort hez1) ?_
  refine sb_sipush cS276 ?_
  refine sb_isub ?_
  refine sb_istore_n (by decide) rfl ?_
  refine sb_iload_n rfl ?_
  obtain ⟨qz5, hez4, h⟩ := bd h
  refine sb_callSNi 1 rfl oX11_isKind ln5_185 vX11_isKind (rnCk_of (by decide +kernel) rfl) (tfK_isKind hez4) ?_
  rcases ife h with ⟨cz9, h⟩ | ⟨cz9, h⟩
  · refine sb_if_ne_f 23 cz9 (by decide) ?_
    refine sb_in [(16, .aload_n 0, 1), (17, .iconst 1, 1), (18, .invokevirtual 73, 3), (21, .iconst 0, 1), (22, .ireturn, 1)] 23 (by decide +kernel) ?_
    refine sb_aload_n rfl ?_
    refine sb_iconst cI1 ?_
    obtain ⟨Mz8, hez7, h⟩ := bd h
    refine sb_callVv 1 rfl oX5_blame ln5_73 vX5_blame (rc_own h146.1 (S_lt h146.2) (by decide)) (rnCk_of (by decide +kernel) rfl) (tfR_blame hez7) ?_
    refine sb_iconst cI0 ?_
    cases h
    subst hr
    refine sb_ireturn ?_
    exact ⟨.int, rfl, rfl⟩
  · refine sb_if_ne_t 23 cz9 (by decide) ?_
    refine sb_in [(23, .aload_n 0, 1), (24, .dup, 1), (25, .getfield 44, 3), (28, .iconst 1, 1), (29, .iadd, 1), (30, .putfield 44, 3), (33, .iload_n 1, 1), (34, .ireturn, 1)] 35 (by decide +kernel) ?_
    refine sb_aload_n rfl ?_
    refine sb_dup rfl ?_
    refine ss_getI g5_44 h146 ?_
    refine sb_iconst cI1 ?_
    refine sb_iadd ?_
    refine ss_putI p5_44 h146 (by decide) ?_
    refine sb_iload_n rfl ?_
    cases h
    subst hr
    refine sb_ireturn ?_
    exact ⟨.int, rfl, rfl⟩
theorem tfR_kindWord {P : Px} {M : Mm} {rr : (Int32 × Mm)} (h : fR_kindWord M = some rr) : EX P 3 kX5_kindWord [.ref 146] (S M) (some (.int rr.1), S rr.2) := ex_of oX5_kindWord (Nat.le_of_ble_eq_true rfl) (nfR_kindWord  h rfl)
set_option maxRecDepth 20000 in
theorem nfR_postLine {P : Px} {x1 : Int32} {M : Mm} {rr : Mm} (h : fR_postLine x1 M = some rr) {r : Option Value × Sg} (hr : r = (none, S rr)) : RN P 4 kX5_postLine 0 [(0, .ref 146), (1, .int x1)] [] (S M) r := by
  unfold fR_postLine at h
  refine sb_in [(0, .aload_n 0, 1), (1, .sipush 274, 3), (4, .invokevirtual 107, 3), (7, .aload_n 0, 1), (8, .getfield 12, 3), (11, .getfield 113, 3), (14, .iload_n 1, 1), (15, .aload_n 0, 1), (16, .iconst 0, 1), (17, .sipush 999, 3), (20, .invokevirtual 116, 3), (23, .iastore, 1), (24, .aload_n 0, 1), (25, .sipush 275, 3), (28, .invokevirtual 107, 3), (31, .aload_n 0, 1), (32, .getfield 12, 3), (35, .getfield 120, 3), (38, .iload_n 1, 1), (39, .aload_n 0, 1), (40, .iconst 0, 1), (41, .aload_n 0, 1), (42, .getfield 47, 3), (45, .iconst 1, 1), (46, .isub, 1), (47, .invokevirtual 116, 3), (50, .iastore, 1), (51, .aload_n 0, 1), (52, .getfield 12, 3), (55, .getfield 123, 3), (58, .iload_n 1, 1), (59, .aload_n 0, 1), (60, .invokevirtual 126, 3), (63, .iastore, 1), (64, .aload_n 0, 1), (65, .getfield 12, 3), (68, .getfield 129, 3), (71, .iload_n 1, 1), (72, .aload_n 0, 1), (73, .iconst 1, 1), (74, .bipush 99, 2), (76, .invokevirtual 116, 3), (79, .iastore, 1), (80, .aload_n 0, 1), (81, .bipush 59, 2), (83, .invokevirtual 107, 3), (86, .aload_n 0, 1), (87, .getfield 12, 3), (90, .iload_n 1, 1), (91, .iconst 1, 1), (92, .iadd, 1), (93, .putfield 132, 3), (96, .return_, 1)] 97 (by decide +kernel) ?_
  refine sb_aload_n rfl ?_
  refine sb_sipush cS274 ?_
  obtain ⟨Mz2, hez1, h⟩ := bd h
  refine sb_callVv 1 rfl oX5_need ln5_107 vX5_need (rc_own h146.1 (S_lt h146.2) (by decide)) (rnCk_of (by decide +kernel) rfl) (tfR_need hez1) ?_
  refine sb_aload_n rfl ?_
  refine ss_getR g5_12 h146 r146_0 ?_
  refine ss_getR g5_113 h147 r147_2 ?_
  refine sb_iload_n rfl ?_
  refine sb_aload_n rfl ?_
  refine sb_iconst cI0 ?_
  refine sb_sipush cS999 ?_
  obtain ⟨qz4, hez3, h⟩ := bd h
  refine sb_callVi 2 rfl oX5_number ln5_116 vX5_number (rc_own h146.1 (S_lt h146.2) (by decide)) (rnCk_of (by decide +kernel) rfl) (tfR_number hez3) ?_
  obtain ⟨hgz6, h⟩ := gd h
  refine ss_iast h156 (by decide) hgz6 ?_
  refine sb_aload_n rfl ?_
  refine sb_sipush cS275 ?_
  obtain ⟨Mz8, hez7, h⟩ := bd h
  refine sb_callVv 1 rfl oX5_need ln5_107 vX5_need (rc_own h146.1 (S_lt h146.2) (by decide)) (rnCk_of (by decide +kernel) rfl) (tfR_need hez7) ?_
  refine sb_aload_n rfl ?_
  refine ss_getR g5_12 h146 r146_0 ?_
  refine ss_getR g5_120 h147 r147_3 ?_
  refine sb_iload_n rfl ?_
  refine sb_aload_n rfl ?_
  refine sb_iconst cI0 ?_
  refine sb_aload_n rfl ?_
  refine ss_getI g5_47 h146 ?_
  refine sb_iconst cI1 ?_
  refine sb_isub ?_
  obtain ⟨qz10, hez9, h⟩ := bd h
  refine sb_callVi 2 rfl oX5_number ln5_116 vX5_number (rc_own h146.1 (S_lt h146.2) (by decide)) (rnCk_of (by decide +kernel) rfl) (tfR_number hez9) ?_
  obtain ⟨hgz12, h⟩ := gd h
  refine ss_iast h157 (by decide) hgz12 ?_
  refine sb_aload_n rfl ?_
  refine ss_getR g5_12 h146 r146_0 ?_
  refine ss_getR g5_123 h147 r147_4 ?_
  refine sb_iload_n rfl ?_
  refine sb_aload_n rfl ?_
  obtain ⟨qz14, hez13, h⟩ := bd h
  refine sb_callVi 0 rfl oX5_kindWord ln5_126 vX5_kindWord (rc_own h146.1 (S_lt h146.2) (by decide)) (rnCk_of (by decide +kernel) rfl) (tfR_kindWord hez13) ?_
  obtain ⟨hgz16, h⟩ := gd h
  refine ss_iast h158 (by decide) hgz16 ?_
  refine sb_aload_n rfl ?_
  refine ss_getR g5_12 h146 r146_0 ?_
  refine ss_getR g5_129 h147 r147_5 ?_
  refine sb_iload_n rfl ?_
  refine sb_aload_n rfl ?_
  refine sb_iconst cI1 ?_
  refine sb_bipush cB99 ?_
  obtain ⟨qz18, hez17, h⟩ := bd h
  refine sb_callVi 2 rfl oX5_number ln5_116 vX5_number (rc_own h146.1 (S_lt h146.2) (by decide)) (rnCk_of (by decide +kernel) rfl) (tfR_number hez17) ?_
  obtain ⟨hgz20, h⟩ := gd h
  refine ss_iast h159 (by decide) hgz20 ?_
  refine sb_aload_n rfl ?_
  refine sb_bipush cB59 ?_
  obtain ⟨Mz22, hez21, h⟩ := bd h
  refine sb_callVv 1 rfl oX5_need ln5_107 vX5_need (rc_own h146.1 (S_lt h146.2) (by decide)) (rnCk_of (by decide +kernel) rfl) (tfR_need hez21) ?_
  refine sb_aload_n rfl ?_
  refine ss_getR g5_12 h146 r146_0 ?_
  refine sb_iload_n rfl ?_
  refine sb_iconst cI1 ?_
  refine sb_iadd ?_
  refine ss_putI p5_132 h147 (by decide) ?_
  cases h
  subst hr
  refine sb_return ?_
  exact rfl
theorem tfR_postLine {P : Px} {x1 : Int32} {M : Mm} {rr : Mm} (h : fR_postLine x1 M = some rr) : EX P 4 kX5_postLine [.ref 146, .int x1] (S M) (none, S rr) := ex_of oX5_postLine (Nat.le_of_ble_eq_true rfl) (nfR_postLine  h rfl)
set_option maxRecDepth 20000 in
theorem nfR_walkLine {P : Px} {x1 : Int32} {M : Mm} {rr : Mm} (h : fR_walkLine x1 M = some rr) {r : Option Value × Sg} (hr : r = (none, S rr)) : RN P 3 kX5_walkLine 0 [(0, .ref 146), (1, .int x1)] [] (S M) r := by
  unfold fR_walkLine at h
  refine sb_in [(0, .aload_n 0, 1), (1, .sipush 283, 3), (4, .invokevirtual 107, 3), (7, .aload_n 0, 1), (8, .getfield 12, 3), (11, .getfield 135, 3), (14, .iload_n 1, 1), (15, .aload_n 0, 1), (16, .iconst 0, 1), (17, .aload_n 0, 1), (18, .getfield 47, 3), (21, .iconst 1, 1), (22, .isub, 1), (23, .invokevirtual 116, 3), (26, .iastore, 1), (27, .aload_n 0, 1), (28, .bipush 59, 2), (30, .invokevirtual 107, 3), (33, .aload_n 0, 1), (34, .getfield 12, 3), (37, .iload_n 1, 1), (38, .iconst 1, 1), (39, .iadd, 1), (40, .putfield 138, 3), (43, .return_, 1)] 44 (by decide +kernel) ?_
  refine sb_aload_n rfl ?_
  refine sb_sipush cS283 ?_
  obtain ⟨Mz2, hez1, h⟩ := bd h
  refine sb_callVv 1 rfl oX5_need ln5_107 vX5_need (rc_own h146.1 (S_lt h146.2) (by decide)) (rnCk_of (by decide +kernel) rfl) (tfR_need hez1) ?_
  refine sb_aload_n rfl ?_
  refine ss_getR g5_12 h146 r146_0 ?_
  refine ss_getR g5_135 h147 r147_7 ?_
  refine sb_iload_n rfl ?_
  refine sb_aload_n rfl ?_
  refine sb_iconst cI0 ?_
  refine sb_aload_n rfl ?_
  refine ss_getI g5_47 h146 ?_
  refine sb_iconst cI1 ?_
  refine sb_isub ?_
  obtain ⟨qz4, hez3, h⟩ := bd h
  refine sb_callVi 2 rfl oX5_number ln5_116 vX5_number (rc_own h146.1 (S_lt h146.2) (by decide)) (rnCk_of (by decide +kernel) rfl) (tfR_number hez3) ?_
  obtain ⟨hgz6, h⟩ := gd h
  refine ss_iast h160 (by decide) hgz6 ?_
  refine sb_aload_n rfl ?_
  refine sb_bipush cB59 ?_
  obtain ⟨Mz8, hez7, h⟩ := bd h
  refine sb_callVv 1 rfl oX5_need ln5_107 vX5_need (rc_own h146.1 (S_lt h146.2) (by decide)) (rnCk_of (by decide +kernel) rfl) (tfR_need hez7) ?_
  refine sb_aload_n rfl ?_
  refine ss_getR g5_12 h146 r146_0 ?_
  refine sb_iload_n rfl ?_
  refine sb_iconst cI1 ?_
  refine sb_iadd ?_
  refine ss_putI p5_138 h147 (by decide) ?_
  cases h
  subst hr
  refine sb_return ?_
  exact rfl
theorem tfR_walkLine {P : Px} {x1 : Int32} {M : Mm} {rr : Mm} (h : fR_walkLine x1 M = some rr) : EX P 3 kX5_walkLine [.ref 146, .int x1] (S M) (none, S rr) := ex_of oX5_walkLine (Nat.le_of_ble_eq_true rfl) (nfR_walkLine  h rfl)
set_option maxRecDepth 20000 in
theorem nfT_addStreet {P : Px} {x1 : Int32} {x2 : Int32} {x3 : Int32} {M : Mm} {rr : Mm} (h : fT_addStreet x1 x2 x3 M = some rr) {r : Option Value × Sg} (hr : r = (none, S rr)) : RN P 1 kX6_addStreet 0 [(0, .ref 147), (1, .int x1), (2, .int x2), (3, .int x3)] [] (S M) r := by
  unfold fT_addStreet at h
  refine sb_in [(0, .aload_n 0, 1), (1, .getfield 34, 3), (4, .iload_n 1, 1), (5, .bipush 12, 2), (7, .imul, 1), (8, .iload_n 2, 1), (9, .iadd, 1), (10, .iaload, 1), (11, .istore 4, 2), (13, .iload 4, 2), (15, .ifCond .eq 9, 3)] 18 (by decide +kernel) ?_
  refine sb_aload_n rfl ?_
  refine ss_getR g6_34 h147 r147_9 ?_
  refine sb_iload_n rfl ?_
  refine sb_bipush cB12 ?_
  refine sb_imul ?_
  refine sb_iload_n rfl ?_
  refine sb_iadd ?_
  obtain ⟨hgz1, h⟩ := gd h
  refine ss_iald h161 hgz1 ?_
  refine sb_istore (by decide) rfl ?_
  refine sb_iload rfl ?_
  have hJ24 : ∀ (z1 : Int32) (z2 : Int32) (z3 : Int32) (M : Mm), fT_addStreet_j24 z1 z2 z3 M = some rr → RN P 1 kX6_addStreet 24 [(0, .ref 147), (1, .int z1), (2, .int z2), (3, .int z3)] [] (S M) r := by
    intro z1 z2 z3 M h
    unfold fT_addStreet_j24 at h
    refine sb_in [(24, .aload_n 0, 1), (25, .getfield 34, 3), (28, .iload_n 1, 1), (29, .bipush 12, 2), (31, .imul, 1), (32, .iload_n 2, 1), (33, .iadd, 1), (34, .iload_n 3, 1), (35, .iastore, 1), (36, .aload_n 0, 1), (37, .getfield 34, 3), (40, .iload_n 2, 1), (41, .bipush 12, 2), (43, .imul, 1), (44, .iload_n 1, 1), (45, .iadd, 1), (46, .iload_n 3, 1), (47, .iastore, 1)] 48 (by decide +kernel) ?_
    refine sb_aload_n rfl ?_
    refine ss_getR g6_34 h147 r147_9 ?_
    refine sb_iload_n rfl ?_
    refine sb_bipush cB12 ?_
    refine sb_imul ?_
    refine sb_iload_n rfl ?_
    refine sb_iadd ?_
    refine sb_iload_n rfl ?_
    obtain ⟨hgz4, h⟩ := gd h
    refine ss_iast h161 (by decide) hgz4 ?_
    refine sb_aload_n rfl ?_
    refine ss_getR g6_34 h147 r147_9 ?_
    refine sb_iload_n rfl ?_
    refine sb_bipush cB12 ?_
    refine sb_imul ?_
    refine sb_iload_n rfl ?_
    refine sb_iadd ?_
    refine sb_iload_n rfl ?_
    obtain ⟨hgz6, h⟩ := gd h
    refine ss_iast h161 (by decide) hgz6 ?_
    refine sb_end ?_
    refine sb_in [(48, .return_, 1)] 49 (by decide +kernel) ?_
    cases h
    subst hr
    refine sb_return ?_
    exact rfl
  rcases ife h with ⟨cz7, h⟩ | ⟨cz7, h⟩
  · refine sb_if_eq_t 24 cz7 (by decide) ?_
    exact rn_sub [0, 1, 2, 3] rfl (hJ24 _ _ _ _ h)
  · refine sb_if_eq_f 24 cz7 (by decide) ?_
    refine sb_in [(18, .iload_n 3, 1), (19, .iload 4, 2), (21, .if_icmp .ge 27, 3)] 24 (by decide +kernel) ?_
    refine sb_iload_n rfl ?_
    refine sb_iload rfl ?_
    rcases ife h with ⟨cz8, h⟩ | ⟨cz8, h⟩
    · refine sb_icmp_ge_t 48 cz8 (by decide) ?_
      refine sb_in [(48, .return_, 1)] 49 (by decide +kernel) ?_
      cases h
      subst hr
      refine sb_return ?_
      exact rfl
    · refine sb_icmp_ge_f 48 cz8 (by decide) ?_
      exact rn_sub [0, 1, 2, 3] rfl (hJ24 _ _ _ _ h)
theorem tfT_addStreet {P : Px} {x1 : Int32} {x2 : Int32} {x3 : Int32} {M : Mm} {rr : Mm} (h : fT_addStreet x1 x2 x3 M = some rr) : EX P 1 kX6_addStreet [.ref 147, .int x1, .int x2, .int x3] (S M) (none, S rr) := ex_of oX6_addStreet (Nat.le_of_ble_eq_true rfl) (nfT_addStreet  h rfl)
set_option maxRecDepth 20000 in
theorem nfR_streetLine {P : Px} {x1 : Int32} {M : Mm} {rr : Mm} (h : fR_streetLine x1 M = some rr) {r : Option Value × Sg} (hr : r = (none, S rr)) : RN P 3 kX5_streetLine 0 [(0, .ref 146), (1, .int x1)] [] (S M) r := by
  unfold fR_streetLine at h
  refine sb_in [(0, .aload_n 0, 1), (1, .sipush 284, 3), (4, .invokevirtual 107, 3), (7, .aload_n 0, 1), (8, .iconst 0, 1), (9, .aload_n 0, 1), (10, .getfield 47, 3), (13, .iconst 1, 1), (14, .isub, 1), (15, .invokevirtual 116, 3), (18, .istore_n 2, 1), (19, .aload_n 0, 1), (20, .invokevirtual 50, 3), (23, .iconst 1, 1), (24, .if_icmp .ne 24, 3)] 27 (by decide +kernel) ?_
  refine sb_aload_n rfl ?_
  refine sb_sipush cS284 ?_
  obtain ⟨Mz2, hez1, h⟩ := bd h
  refine sb_callVv 1 rfl oX5_need ln5_107 vX5_need (rc_own h146.1 (S_lt h146.2) (by decide)) (rnCk_of (by decide +kernel) rfl) (tfR_need hez1) ?_
  refine sb_aload_n rfl ?_
  refine sb_iconst cI0 ?_
  refine sb_aload_n rfl ?_
  refine ss_getI g5_47 h146 ?_
  refine sb_iconst cI1 ?_
  refine sb_isub ?_
  obtain ⟨qz4, hez3, h⟩ := bd h
  refine sb_callVi 2 rfl oX5_number ln5_116 vX5_number (rc_own h146.1 (S_lt h146.2) (by decide)) (rnCk_of (by decide +kernel) rfl) (tfR_number hez3) ?_
  refine sb_istore_n (by decide) rfl ?_
  refine sb_aload_n rfl ?_
  obtain ⟨qz6, hez5, h⟩ := bd h
  refine sb_callVi 0 rfl oX5_sort ln5_50 vX5_sort (rc_own h146.1 (S_lt h146.2) (by decide)) (rnCk_of (by decide +kernel) rfl) (tfR_sort hez5) ?_
  refine sb_iconst cI1 ?_
  obtain ⟨Mz10, hj48, h⟩ := bd h
  have hJ48 : RN P 3 kX5_streetLine 48 [(0, .ref 146), (1, .int x1), (2, .int qz4.1)] [] (S Mz10) r := by
    refine sb_in [(48, .aload_n 0, 1), (49, .iconst 0, 1), (50, .aload_n 0, 1), (51, .getfield 47, 3), (54, .iconst 1, 1), (55, .isub, 1), (56, .invokevirtual 116, 3), (59, .istore_n 3, 1), (60, .aload_n 0, 1), (61, .iconst 1, 1), (62, .bipush 99, 2), (64, .invokevirtual 116, 3), (67, .istore 4, 2), (69, .aload_n 0, 1), (70, .bipush 59, 2), (72, .invokevirtual 107, 3), (75, .aload_n 0, 1), (76, .getfield 33, 3), (79, .ifCond .ne 14, 3)] 82 (by decide +kernel) ?_
    refine sb_aload_n rfl ?_
    refine sb_iconst cI0 ?_
    refine sb_aload_n rfl ?_
    refine ss_getI g5_47 h146 ?_
    refine sb_iconst cI1 ?_
    refine sb_isub ?_
    obtain ⟨qz12, hez11, h⟩ := bd h
    refine sb_callVi 2 rfl oX5_number ln5_116 vX5_number (rc_own h146.1 (S_lt h146.2) (by decide)) (rnCk_of (by decide +kernel) rfl) (tfR_number hez11) ?_
    refine sb_istore_n (by decide) rfl ?_
    refine sb_aload_n rfl ?_
    refine sb_iconst cI1 ?_
    refine sb_bipush cB99 ?_
    obtain ⟨qz14, hez13, h⟩ := bd h
    refine sb_callVi 2 rfl oX5_number ln5_116 vX5_number (rc_own h146.1 (S_lt h146.2) (by decide)) (rnCk_of (by decide +kernel) rfl) (tfR_number hez13) ?_
    refine sb_istore (by decide) rfl ?_
    refine sb_aload_n rfl ?_
    refine sb_bipush cB59 ?_
    obtain ⟨Mz16, hez15, h⟩ := bd h
    refine sb_callVv 1 rfl oX5_need ln5_107 vX5_need (rc_own h146.1 (S_lt h146.2) (by decide)) (rnCk_of (by decide +kernel) rfl) (tfR_need hez15) ?_
    refine sb_aload_n rfl ?_
    refine ss_getI g5_33 h146 ?_
    obtain ⟨Mz19, hj93, h⟩ := bd h
    have hJ93 : RN P 3 kX5_streetLine 93 [(0, .ref 146), (1, .int x1)] [] (S Mz19) r := by
      refine sb_in [(93, .aload_n 0, 1), (94, .getfield 12, 3), (97, .iload_n 1, 1), (98, .iconst 1, 1), (99, .iadd, 1), (100, .putfield 148, 3), (103, .return_, 1)] 104 (by decide +kernel) ?_
      refine sb_aload_n rfl ?_
      refine ss_getR g5_12 h146 r146_0 ?_
      refine sb_iload_n rfl ?_
      refine sb_iconst cI1 ?_
      refine sb_iadd ?_
      refine ss_putI p5_148 h147 (by decide) ?_
      cases h
      subst hr
      refine sb_return ?_
      exact rfl
    clear h
    have h := hj93
    clear hj93
    rcases ife h with ⟨cz21, h⟩ | ⟨cz21, h⟩
    · refine sb_if_ne_f 93 cz21 (by decide) ?_
      refine sb_in [(82, .aload_n 0, 1), (83, .getfield 12, 3), (86, .iload_n 2, 1), (87, .iload_n 3, 1), (88, .iload 4, 2), (90, .invokevirtual 144, 3)] 93 (by decide +kernel) ?_
      refine sb_aload_n rfl ?_
      refine ss_getR g5_12 h146 r146_0 ?_
      refine sb_iload_n rfl ?_
      refine sb_iload_n rfl ?_
      refine sb_iload rfl ?_
      obtain ⟨Mz18, hez17, h⟩ := bd h
      refine sb_callVv 3 rfl oX6_addStreet ln5_144 vX6_addStreet (rc_own h147.1 (S_lt h147.2) (by decide)) (rnCk_of (by decide +kernel) rfl) (tfT_addStreet hez17) ?_
      refine sb_end ?_
      cases h
      exact rn_sub [0, 1] rfl hJ93
    · refine sb_if_ne_t 93 cz21 (by decide) ?_
      cases h
      exact rn_sub [0, 1] rfl hJ93
  clear h
  have h := hj48
  clear hj48
  rcases ife h with ⟨cz22, h⟩ | ⟨cz22, h⟩
  · refine sb_icmp_ne_f 48 cz22 (by decide) ?_
    refine sb_in [(27, .aload_n 0, 1), (28, .getfield 25, 3), (31, .getfield 141, 3), (34, .aload_n 0, 1), (35, .getfield 44, 3), (38, .iaload, 1), (39, .iload_n 2, 1), (40, .if_icmp .ne 8, 3)] 43 (by decide +kernel) ?_
    refine sb_aload_n rfl ?_
    refine ss_getR g5_25 h146 r146_3 ?_
    refine ss_getR g5_141 h162 r162_2 ?_
    refine sb_aload_n rfl ?_
    refine ss_getI g5_44 h146 ?_
    obtain ⟨hgz7, h⟩ := gd h
    refine ss_iald h164 hgz7 ?_
    refine sb_iload_n rfl ?_
    rcases ife h with ⟨cz23, h⟩ | ⟨cz23, h⟩
    · refine sb_icmp_ne_f 48 cz23 (by decide) ?_
      refine sb_in [(43, .aload_n 0, 1), (44, .iconst 2, 1), (45, .invokevirtual 73, 3)] 48 (by decide +kernel) ?_
      refine sb_aload_n rfl ?_
      refine sb_iconst cI2 ?_
      obtain ⟨Mz9, hez8, h⟩ := bd h
      refine sb_callVv 1 rfl oX5_blame ln5_73 vX5_blame (rc_own h146.1 (S_lt h146.2) (by decide)) (rnCk_of (by decide +kernel) rfl) (tfR_blame hez8) ?_
      refine sb_end ?_
      cases h
      exact rn_sub [0, 1, 2] rfl hJ48
    · refine sb_icmp_ne_t 48 cz23 (by decide) ?_
      cases h
      exact rn_sub [0, 1, 2] rfl hJ48
  · refine sb_icmp_ne_t 48 cz22 (by decide) ?_
    cases h
    exact rn_sub [0, 1, 2] rfl hJ48
theorem tfR_streetLine {P : Px} {x1 : Int32} {M : Mm} {rr : Mm} (h : fR_streetLine x1 M = some rr) : EX P 3 kX5_streetLine [.ref 146, .int x1] (S M) (none, S rr) := ex_of oX5_streetLine (Nat.le_of_ble_eq_true rfl) (nfR_streetLine  h rfl)
set_option maxRecDepth 20000 in
theorem nfR_read {P : Px} {x1 : Int32} {x3 : Int32} {x4 : Int32} {M : Mm} {rr : (Int32 × Mm)} (h : fR_read x1 x3 x4 M = some rr) {r : Option Value × Sg} (hr : r = (some (.int rr.1), S rr.2)) : RN P 9 kX5_read 0 [(0, .ref 146), (1, .int x1), (2, .ref 178), (3, .int x3), (4, .int x4)] [] (S M) r := by
  unfold fR_read at h
  refine sb_in [(0, .aload_n 0, 1), (1, .getfield 25, 3), (4, .aload_n 2, 1), (5, .iload_n 3, 1), (6, .invokevirtual 36, 3), (9, .aload_n 0, 1), (10, .getfield 12, 3), (13, .iload_n 1, 1), (14, .invokevirtual 40, 3), (17, .aload_n 0, 1), (18, .iconst 0, 1), (19, .putfield 44, 3), (22, .aload_n 0, 1), (23, .iload 4, 2), (25, .putfield 47, 3), (28, .iconst 0, 1), (29, .istore 5, 2)] 31 (by decide +kernel) ?_
  refine sb_aload_n rfl ?_
  refine ss_getR g5_25 h146 r146_3 ?_
  refine sb_aload_n rfl ?_
  refine sb_iload_n rfl ?_
  obtain ⟨Mz2, hez1, h⟩ := bd h
  refine sb_callVv 2 rfl oX7_scan ln5_36 vX7_scan (rc_own h162.1 (S_lt h162.2) (by decide)) (rnCk_of (by decide +kernel) rfl) (tfO_scan hez1) ?_
  refine sb_aload_n rfl ?_
  refine ss_getR g5_12 h146 r146_0 ?_
  refine sb_iload_n rfl ?_
  obtain ⟨Mz4, hez3, h⟩ := bd h
  refine sb_callVv 1 rfl oX6_clearOne ln5_40 vX6_clearOne (rc_own h147.1 (S_lt h147.2) (by decide)) (rnCk_of (by decide +kernel) rfl) (tfT_clearOne hez3) ?_
  refine sb_aload_n rfl ?_
  refine sb_iconst cI0 ?_
  refine ss_putI p5_44 h146 (by decide) ?_
  refine sb_aload_n rfl ?_
  refine sb_iload rfl ?_
  refine ss_putI p5_47 h146 (by decide) ?_
  refine sb_iconst cI0 ?_
  refine sb_istore (by decide) rfl ?_
  refine sb_end ?_
  obtain ⟨e31, hl31, h⟩ := bd h
  refine rn_sub [0, 1, 5] rfl ?_
  refine lp_ind (P := fun s => RN P 9 kX5_read 31 [(0, .ref 146), (1, .int x1), (5, .int s.1)] [] (S s.2) r) (E := fun e => match e with | Sum.inl p => RN P 9 kX5_read 56 [(0, .ref 146)] [] (S p) r | Sum.inr p => RN P 9 kX5_read 127 [(0, .ref 146)] [] (S p) r) ?_ _ _ _ hl31 ?_
  · intro s qx h hc
    obtain ⟨x5, M⟩ := s
    replace h : fR_read_b31 x1 x5 M = some qx := h
    show RN P 9 kX5_read 31 [(0, .ref 146), (1, .int x1), (5, .int x5)] [] (S M) r
    unfold fR_read_b31 at h
    refine sb_in [(31, .iload 5, 2), (33, .bipush 16, 2), (35, .if_icmp .gt 92, 3)] 38 (by decide +kernel) ?_
    refine sb_iload rfl ?_
    refine sb_bipush cB16 ?_
    rcases ife h with ⟨cz22, h⟩ | ⟨cz22, h⟩
    · refine sb_icmp_gt_t 127 cz22 (by decide) ?_
      cases h
      exact rn_sub [0] rfl hc
    · refine sb_icmp_gt_f 127 cz22 (by decide) ?_
      refine sb_in [(38, .aload_n 0, 1), (39, .invokevirtual 50, 3), (42, .iconst 2, 1), (43, .if_icmp .eq 84, 3)] 46 (by decide +kernel) ?_
      refine sb_aload_n rfl ?_
      obtain ⟨qz8, hez7, h⟩ := bd h
      refine sb_callVi 0 rfl oX5_sort ln5_50 vX5_sort (rc_own h146.1 (S_lt h146.2) (by decide)) (rnCk_of (by decide +kernel) rfl) (tfR_sort hez7) ?_
      refine sb_iconst cI2 ?_
      rcases ife h with ⟨cz23, h⟩ | ⟨cz23, h⟩
      · refine sb_icmp_eq_t 127 cz23 (by decide) ?_
        cases h
        exact rn_sub [0] rfl hc
      · refine sb_icmp_eq_f 127 cz23 (by decide) ?_
        refine sb_in [(46, .aload_n 0, 1), (47, .iload_n 1, 1), (48, .iload 5, 2), (50, .invokevirtual 54, 3), (53, .ifCond .ne 6, 3)] 56 (by decide +kernel) ?_
        refine sb_aload_n rfl ?_
        refine sb_iload_n rfl ?_
        refine sb_iload rfl ?_
        obtain ⟨qz10, hez9, h⟩ := bd h
        refine sb_callVi 2 rfl oX5_begins ln5_54 vX5_begins (rc_own h146.1 (S_lt h146.2) (by decide)) (rnCk_of (by decide +kernel) rfl) (tfR_begins hez9) ?_
        rcases ife h with ⟨cz24, h⟩ | ⟨cz24, h⟩
        · refine sb_if_ne_f 59 cz24 (by decide) ?_
          cases h
          exact rn_sub [0] rfl hc
        · refine sb_if_ne_t 59 cz24 (by decide) ?_
          refine sb_in [(59, .iload_n 1, 1), (60, .tableswitch 55 0 2 #[28, 37, 46], 28)] 88 (by decide +kernel) ?_
          refine sb_iload_n rfl ?_
          obtain ⟨Mz19, hj121, h⟩ := bd h
          have hJ121 : RN P 9 kX5_read 121 [(0, .ref 146), (1, .int x1), (5, .int x5)] [] (S Mz19) r := by
            refine sb_in [(121, .iinc 5 1, 3), (124, .goto (-93), 3)] 127 (by decide +kernel) ?_
            refine ss_iinc cI1 rfl (by decide) rfl ?_
            refine sb_goto 31 (by decide) ?_
            cases h
            exact rn_sub [0, 1, 5] rfl hc
          clear h
          have h := hj121
          clear hj121
          rcases ife h with ⟨cz25, h⟩ | ⟨cz25, h⟩
          · refine sb_tsw_in (off := 28) 0 88 cz25 (by decide +kernel) ?_
            refine sb_in [(88, .aload_n 0, 1), (89, .iload 5, 2), (91, .invokevirtual 58, 3), (94, .goto 27, 3)] 97 (by decide +kernel) ?_
            refine sb_aload_n rfl ?_
            refine sb_iload rfl ?_
            obtain ⟨Mz12, hez11, h⟩ := bd h
            refine sb_callVv 1 rfl oX5_lawLine ln5_58 vX5_lawLine (rc_own h146.1 (S_lt h146.2) (by decide)) (rnCk_of (by decide +kernel) rfl) (tfR_lawLine hez11) ?_
            refine sb_goto 121 (by decide) ?_
            cases h
            exact rn_sub [0, 1, 5] rfl hJ121
          rcases ife h with ⟨cz26, h⟩ | ⟨cz26, h⟩
          · refine sb_tsw_in (off := 37) 1 97 cz26 (by decide +kernel) ?_
            refine sb_in [(97, .aload_n 0, 1), (98, .iload 5, 2), (100, .invokevirtual 61, 3), (103, .goto 18, 3)] 106 (by decide +kernel) ?_
            refine sb_aload_n rfl ?_
            refine sb_iload rfl ?_
            obtain ⟨Mz14, hez13, h⟩ := bd h
            refine sb_callVv 1 rfl oX5_postLine ln5_61 vX5_postLine (rc_own h146.1 (S_lt h146.2) (by decide)) (rnCk_of (by decide +kernel) rfl) (tfR_postLine hez13) ?_
            refine sb_goto 121 (by decide) ?_
            cases h
            exact rn_sub [0, 1, 5] rfl hJ121
          rcases ife h with ⟨cz27, h⟩ | ⟨cz27, h⟩
          · refine sb_tsw_in (off := 46) 2 106 cz27 (by decide +kernel) ?_
            refine sb_in [(106, .aload_n 0, 1), (107, .iload 5, 2), (109, .invokevirtual 64, 3), (112, .goto 9, 3)] 115 (by decide +kernel) ?_
            refine sb_aload_n rfl ?_
            refine sb_iload rfl ?_
            obtain ⟨Mz16, hez15, h⟩ := bd h
            refine sb_callVv 1 rfl oX5_walkLine ln5_64 vX5_walkLine (rc_own h146.1 (S_lt h146.2) (by decide)) (rnCk_of (by decide +kernel) rfl) (tfR_walkLine hez15) ?_
            refine sb_goto 121 (by decide) ?_
            cases h
            exact rn_sub [0, 1, 5] rfl hJ121
          refine sb_tsw_out 0 3 115 ((lt_s (lt_s (lt_s lt_0 cz25) cz26) cz27)) (by decide +kernel) ?_
          refine sb_in [(115, .aload_n 0, 1), (116, .iload 5, 2), (118, .invokevirtual 67, 3)] 121 (by decide +kernel) ?_
          refine sb_aload_n rfl ?_
          refine sb_iload rfl ?_
          obtain ⟨Mz18, hez17, h⟩ := bd h
          refine sb_callVv 1 rfl oX5_streetLine ln5_67 vX5_streetLine (rc_own h146.1 (S_lt h146.2) (by decide)) (rnCk_of (by decide +kernel) rfl) (tfR_streetLine hez17) ?_
          refine sb_end ?_
          cases h
          exact rn_sub [0, 1, 5] rfl hJ121
  · clear hl31
    rcases e31 with e31 | e31
    · skip
      obtain ⟨Mz20, hey⟩ : ∃ z, z = e31 := ⟨_, rfl⟩
      subst hey
      show RN P 9 kX5_read 56 [(0, .ref 146)] [] (S Mz20) r
      refine sb_in [(56, .goto 71, 3)] 59 (by decide +kernel) ?_
      refine sb_goto 127 (by decide) ?_
      refine sb_in [(127, .aload_n 0, 1), (128, .getfield 33, 3), (131, .ifCond .ne 7, 3)] 134 (by decide +kernel) ?_
      refine sb_aload_n rfl ?_
      refine ss_getI g5_33 h146 ?_
      rcases ife h with ⟨cz28, h⟩ | ⟨cz28, h⟩
      · refine sb_if_ne_f 138 cz28 (by decide) ?_
        refine sb_in [(134, .iconst 1, 1), (135, .goto 4, 3)] 138 (by decide +kernel) ?_
        refine sb_iconst cI1 ?_
        refine sb_goto 139 (by decide) ?_
        refine sb_in [(139, .ireturn, 1)] 140 (by decide +kernel) ?_
        cases h
        subst hr
        refine sb_ireturn ?_
        exact ⟨.boolean, rfl, by decide⟩
      · refine sb_if_ne_t 138 cz28 (by decide) ?_
        refine sb_in [(138, .iconst 0, 1)] 139 (by decide +kernel) ?_
        refine sb_iconst cI0 ?_
        refine sb_end ?_
        refine sb_in [(139, .ireturn, 1)] 140 (by decide +kernel) ?_
        cases h
        subst hr
        refine sb_ireturn ?_
        exact ⟨.boolean, rfl, by decide⟩
    · skip
      obtain ⟨Mz21, hey⟩ : ∃ z, z = e31 := ⟨_, rfl⟩
      subst hey
      show RN P 9 kX5_read 127 [(0, .ref 146)] [] (S Mz21) r
      refine sb_in [(127, .aload_n 0, 1), (128, .getfield 33, 3), (131, .ifCond .ne 7, 3)] 134 (by decide +kernel) ?_
      refine sb_aload_n rfl ?_
      refine ss_getI g5_33 h146 ?_
      rcases ife h with ⟨cz29, h⟩ | ⟨cz29, h⟩
      · refine sb_if_ne_f 138 cz29 (by decide) ?_
        refine sb_in [(134, .iconst 1, 1), (135, .goto 4, 3)] 138 (by decide +kernel) ?_
        refine sb_iconst cI1 ?_
        refine sb_goto 139 (by decide) ?_
        refine sb_in [(139, .ireturn, 1)] 140 (by decide +kernel) ?_
        cases h
        subst hr
        refine sb_ireturn ?_
        exact ⟨.boolean, rfl, by decide⟩
      · refine sb_if_ne_t 138 cz29 (by decide) ?_
        refine sb_in [(138, .iconst 0, 1)] 139 (by decide +kernel) ?_
        refine sb_iconst cI0 ?_
        refine sb_end ?_
        refine sb_in [(139, .ireturn, 1)] 140 (by decide +kernel) ?_
        cases h
        subst hr
        refine sb_ireturn ?_
        exact ⟨.boolean, rfl, by decide⟩
theorem tfR_read {P : Px} {x1 : Int32} {x3 : Int32} {x4 : Int32} {M : Mm} {rr : (Int32 × Mm)} (h : fR_read x1 x3 x4 M = some rr) : EX P 9 kX5_read [.ref 146, .int x1, .ref 178, .int x3, .int x4] (S M) (some (.int rr.1), S rr.2) := ex_of oX5_read (Nat.le_of_ble_eq_true rfl) (nfR_read  h rfl)
set_option maxRecDepth 20000 in
theorem nfL_copyFrom {P : Px} {w : Nat} (hw : Lw w) {v : Nat} (hv : Lw v) {M : Mm} {rr : Mm} (h : fL_copyFrom w v M = rr) {r : Option Value × Sg} (hr : r = (none, S rr)) : RN P 1 kX2_copyFrom 0 [(0, .ref w), (1, .ref v)] [] (S M) r := by
  unfold fL_copyFrom at h
  refine sb_in [(0, .aload_n 0, 1), (1, .aload_n 1, 1), (2, .getfield 37, 3), (5, .putfield 37, 3), (8, .aload_n 0, 1), (9, .aload_n 1, 1), (10, .getfield 49, 3), (13, .putfield 49, 3), (16, .aload_n 1, 1), (17, .getfield 11, 3), (20, .iconst 0, 1), (21, .aload_n 0, 1), (22, .getfield 11, 3), (25, .iconst 0, 1), (26, .bipush 16, 2), (28, .invokestatic 52, 3), (31, .aload_n 1, 1), (32, .getfield 15, 3), (35, .iconst 0, 1), (36, .aload_n 0, 1), (37, .getfield 15, 3), (40, .iconst 0, 1), (41, .bipush 16, 2), (43, .invokestatic 52, 3), (46, .aload_n 1, 1), (47, .getfield 18, 3), (50, .iconst 0, 1), (51, .aload_n 0, 1), (52, .getfield 18, 3), (55, .iconst 0, 1), (56, .bipush 16, 2), (58, .invokestatic 52, 3), (61, .aload_n 1, 1), (62, .getfield 21, 3), (65, .iconst 0, 1), (66, .aload_n 0, 1), (67, .getfield 21, 3), (70, .iconst 0, 1), (71, .bipush 16, 2), (73, .invokestatic 52, 3), (76, .aload_n 1, 1), (77, .getfield 24, 3), (80, .iconst 0, 1), (81, .aload_n 0, 1), (82, .getfield 24, 3), (85, .iconst 0, 1), (86, .sipush 400, 3), (89, .invokestatic 52, 3), (92, .return_, 1)] 93 (by decide +kernel) ?_
  refine sb_aload_n rfl ?_
  refine sb_aload_n rfl ?_
  refine ss_getI g2_37 (hLw0 hv) ?_
  refine ss_putI p2_37 (hLw0 hw) (fun q => (nzLw hw) q.1) ?_
  refine sb_aload_n rfl ?_
  refine sb_aload_n rfl ?_
  refine ss_getI g2_49 (hLw0 hv) ?_
  refine ss_putI p2_49 (hLw0 hw) (fun q => (nzLw hw) q.1) ?_
  refine sb_aload_n rfl ?_
  refine ss_getR g2_11 (hLw0 hv) (rLw2 hv) ?_
  refine sb_iconst cI0 ?_
  refine sb_aload_n rfl ?_
  refine ss_getR g2_11 (hLw0 hw) (rLw2 hw) ?_
  refine sb_iconst cI0 ?_
  refine sb_bipush cB16 ?_
  refine ss_copyL 16 lc2_52 acN acS acI (hLw1 hv) (hLw1 hw) (Nat.succ_ne_zero _) iL16 rfl rfl (by decide) rfl ?_
  refine sb_aload_n rfl ?_
  refine ss_getR g2_15 (hLw0 hv) (rLw3 hv) ?_
  refine sb_iconst cI0 ?_
  refine sb_aload_n rfl ?_
  refine ss_getR g2_15 (hLw0 hw) (rLw3 hw) ?_
  refine sb_iconst cI0 ?_
  refine sb_bipush cB16 ?_
  refine ss_copyL 16 lc2_52 acN acS acI (hLw2 hv) (hLw2 hw) (Nat.succ_ne_zero _) iL16 rfl rfl (by decide) rfl ?_
  refine sb_aload_n rfl ?_
  refine ss_getR g2_18 (hLw0 hv) (rLw4 hv) ?_
  refine sb_iconst cI0 ?_
  refine sb_aload_n rfl ?_
  refine ss_getR g2_18 (hLw0 hw) (rLw4 hw) ?_
  refine sb_iconst cI0 ?_
  refine sb_bipush cB16 ?_
  refine ss_copyL 16 lc2_52 acN acS acI (hLw3 hv) (hLw3 hw) (Nat.succ_ne_zero _) iL16 rfl rfl (by decide) rfl ?_
  refine sb_aload_n rfl ?_
  refine ss_getR g2_21 (hLw0 hv) (rLw5 hv) ?_
  refine sb_iconst cI0 ?_
  refine sb_aload_n rfl ?_
  refine ss_getR g2_21 (hLw0 hw) (rLw5 hw) ?_
  refine sb_iconst cI0 ?_
  refine sb_bipush cB16 ?_
  refine ss_copyL 16 lc2_52 acN acS acI (hLw4 hv) (hLw4 hw) (Nat.succ_ne_zero _) iL16 rfl rfl (by decide) rfl ?_
  refine sb_aload_n rfl ?_
  refine ss_getR g2_24 (hLw0 hv) (rLw6 hv) ?_
  refine sb_iconst cI0 ?_
  refine sb_aload_n rfl ?_
  refine ss_getR g2_24 (hLw0 hw) (rLw6 hw) ?_
  refine sb_iconst cI0 ?_
  refine sb_sipush cS400 ?_
  refine ss_copyL 400 lc2_52 acN acS acI (hLw5 hv) (hLw5 hw) (Nat.succ_ne_zero _) iL400 rfl rfl (by decide) rfl ?_
  subst h
  subst hr
  refine sb_return ?_
  exact rfl
theorem tfL_copyFrom {P : Px} {w : Nat} (hw : Lw w) {v : Nat} (hv : Lw v) {M : Mm} : EX P 1 kX2_copyFrom [.ref w, .ref v] (S M) (none, S (fL_copyFrom w v M)) := ex_of oX2_copyFrom (Nat.le_of_ble_eq_true rfl) (nfL_copyFrom hw hv rfl rfl)
set_option maxRecDepth 20000 in
theorem nfT_copyOne {P : Px} {w : Nat} (hw : Tx w) {v : Nat} (hv : Tx v) {x1 : Int32} {M : Mm} {rr : Mm} (h : fT_copyOne w v x1 M = rr) {r : Option Value × Sg} (hr : r = (none, S rr)) : RN P 2 kX6_copyOne 0 [(0, .ref w), (1, .int x1), (2, .ref v)] [] (S M) r := by
  unfold fT_copyOne at h
  refine sb_in [(0, .iload_n 1, 1), (1, .tableswitch 138 0 2 #[27, 41, 112], 27)] 28 (by decide +kernel) ?_
  refine sb_iload_n rfl ?_
  rcases ife h with ⟨cz11, h⟩ | ⟨cz11, h⟩
  · refine sb_tsw_in (off := 27) 0 28 cz11 (by decide +kernel) ?_
    refine sb_in [(28, .aload_n 0, 1), (29, .getfield 12, 3), (32, .aload_n 2, 1), (33, .getfield 12, 3), (36, .invokevirtual 63, 3), (39, .goto 126, 3)] 42 (by decide +kernel) ?_
    refine sb_aload_n rfl ?_
    refine ss_getR g6_12 (hTx0 hw) (rTx0 hw) ?_
    refine sb_aload_n rfl ?_
    refine ss_getR g6_12 (hTx0 hv) (rTx0 hv) ?_
    refine sb_callVv 1 rfl oX2_copyFrom ln6_63 vX2_copyFrom (rc_own (hTx1 hw).1 (S_lt (hTx1 hw).2) (by decide)) (rnCk_of (by decide +kernel) rfl) (tfL_copyFrom (Tx_Lw hw) (Tx_Lw hv)) ?_
    refine sb_goto 165 (by decide) ?_
    refine sb_in [(165, .return_, 1)] 166 (by decide +kernel) ?_
    subst h
    subst hr
    refine sb_return ?_
    exact rfl
  rcases ife h with ⟨cz12, h⟩ | ⟨cz12, h⟩
  · refine sb_tsw_in (off := 41) 1 42 cz12 (by decide +kernel) ?_
    refine sb_in [(42, .aload_n 0, 1), (43, .aload_n 2, 1), (44, .getfield 41, 3), (47, .putfield 41, 3), (50, .aload_n 2, 1), (51, .getfield 18, 3), (54, .iconst 0, 1), (55, .aload_n 0, 1), (56, .getfield 18, 3), (59, .iconst 0, 1), (60, .bipush 16, 2), (62, .invokestatic 67, 3), (65, .aload_n 2, 1), (66, .getfield 22, 3), (69, .iconst 0, 1), (70, .aload_n 0, 1), (71, .getfield 22, 3), (74, .iconst 0, 1), (75, .bipush 16, 2), (77, .invokestatic 67, 3), (80, .aload_n 2, 1), (81, .getfield 25, 3), (84, .iconst 0, 1), (85, .aload_n 0, 1), (86, .getfield 25, 3), (89, .iconst 0, 1), (90, .bipush 16, 2), (92, .invokestatic 67, 3), (95, .aload_n 2, 1), (96, .getfield 28, 3), (99, .iconst 0, 1), (100, .aload_n 0, 1), (101, .getfield 28, 3), (104, .iconst 0, 1), (105, .bipush 16, 2), (107, .invokestatic 67, 3), (110, .goto 55, 3)] 113 (by decide +kernel) ?_
    refine sb_aload_n rfl ?_
    refine sb_aload_n rfl ?_
    refine ss_getI g6_41 (hTx0 hv) ?_
    refine ss_putI p6_41 (hTx0 hw) (fun q => (nzTx hw) q.1) ?_
    refine sb_aload_n rfl ?_
    refine ss_getR g6_18 (hTx0 hv) (rTx2 hv) ?_
    refine sb_iconst cI0 ?_
    refine sb_aload_n rfl ?_
    refine ss_getR g6_18 (hTx0 hw) (rTx2 hw) ?_
    refine sb_iconst cI0 ?_
    refine sb_bipush cB16 ?_
    refine ss_copyL 16 lc6_67 acN acS acI (hTx9 hv) (hTx9 hw) (Nat.succ_ne_zero _) iL16 rfl rfl (by decide) rfl ?_
    refine sb_aload_n rfl ?_
    refine ss_getR g6_22 (hTx0 hv) (rTx3 hv) ?_
    refine sb_iconst cI0 ?_
    refine sb_aload_n rfl ?_
    refine ss_getR g6_22 (hTx0 hw) (rTx3 hw) ?_
    refine sb_iconst cI0 ?_
    refine sb_bipush cB16 ?_
    refine ss_copyL 16 lc6_67 acN acS acI (hTx10 hv) (hTx10 hw) (Nat.succ_ne_zero _) iL16 rfl rfl (by decide) rfl ?_
    refine sb_aload_n rfl ?_
    refine ss_getR g6_25 (hTx0 hv) (rTx4 hv) ?_
    refine sb_iconst cI0 ?_
    refine sb_aload_n rfl ?_
    refine ss_getR g6_25 (hTx0 hw) (rTx4 hw) ?_
    refine sb_iconst cI0 ?_
    refine sb_bipush cB16 ?_
    refine ss_copyL 16 lc6_67 acN acS acI (hTx11 hv) (hTx11 hw) (Nat.succ_ne_zero _) iL16 rfl rfl (by decide) rfl ?_
    refine sb_aload_n rfl ?_
    refine ss_getR g6_28 (hTx0 hv) (rTx5 hv) ?_
    refine sb_iconst cI0 ?_
    refine sb_aload_n rfl ?_
    refine ss_getR g6_28 (hTx0 hw) (rTx5 hw) ?_
    refine sb_iconst cI0 ?_
    refine sb_bipush cB16 ?_
    refine ss_copyL 16 lc6_67 acN acS acI (hTx12 hv) (hTx12 hw) (Nat.succ_ne_zero _) iL16 rfl rfl (by decide) rfl ?_
    refine sb_goto 165 (by decide) ?_
    refine sb_in [(165, .return_, 1)] 166 (by decide +kernel) ?_
    subst h
    subst hr
    refine sb_return ?_
    exact rfl
  rcases ife h with ⟨cz13, h⟩ | ⟨cz13, h⟩
  · refine sb_tsw_in (off := 112) 2 113 cz13 (by decide +kernel) ?_
    refine sb_in [(113, .aload_n 0, 1), (114, .aload_n 2, 1), (115, .getfield 44, 3), (118, .putfield 44, 3), (121, .aload_n 2, 1), (122, .getfield 31, 3), (125, .iconst 0, 1), (126, .aload_n 0, 1), (127, .getfield 31, 3), (130, .iconst 0, 1), (131, .bipush 16, 2), (133, .invokestatic 67, 3), (136, .goto 29, 3)] 139 (by decide +kernel) ?_
    refine sb_aload_n rfl ?_
    refine sb_aload_n rfl ?_
    refine ss_getI g6_44 (hTx0 hv) ?_
    refine ss_putI p6_44 (hTx0 hw) (fun q => (nzTx hw) q.1) ?_
    refine sb_aload_n rfl ?_
    refine ss_getR g6_31 (hTx0 hv) (rTx7 hv) ?_
    refine sb_iconst cI0 ?_
    refine sb_aload_n rfl ?_
    refine ss_getR g6_31 (hTx0 hw) (rTx7 hw) ?_
    refine sb_iconst cI0 ?_
    refine sb_bipush cB16 ?_
    refine ss_copyL 16 lc6_67 acN acS acI (hTx13 hv) (hTx13 hw) (Nat.succ_ne_zero _) iL16 rfl rfl (by decide) rfl ?_
    refine sb_goto 165 (by decide) ?_
    refine sb_in [(165, .return_, 1)] 166 (by decide +kernel) ?_
    subst h
    subst hr
    refine sb_return ?_
    exact rfl
  refine sb_tsw_out 0 3 139 ((lt_s (lt_s (lt_s lt_0 cz11) cz12) cz13)) (by decide +kernel) ?_
  refine sb_in [(139, .aload_n 0, 1), (140, .aload_n 2, 1), (141, .getfield 47, 3), (144, .putfield 47, 3), (147, .aload_n 2, 1), (148, .getfield 34, 3), (151, .iconst 0, 1), (152, .aload_n 0, 1), (153, .getfield 34, 3), (156, .iconst 0, 1), (157, .aload_n 0, 1), (158, .getfield 34, 3), (161, .arraylength, 1), (162, .invokestatic 67, 3)] 165 (by decide +kernel) ?_
  refine sb_aload_n rfl ?_
  refine sb_aload_n rfl ?_
  refine ss_getI g6_47 (hTx0 hv) ?_
  refine ss_putI p6_47 (hTx0 hw) (fun q => (nzTx hw) q.1) ?_
  refine sb_aload_n rfl ?_
  refine ss_getR g6_34 (hTx0 hv) (rTx9 hv) ?_
  refine sb_iconst cI0 ?_
  refine sb_aload_n rfl ?_
  refine ss_getR g6_34 (hTx0 hw) (rTx9 hw) ?_
  refine sb_iconst cI0 ?_
  refine sb_aload_n rfl ?_
  refine ss_getR g6_34 (hTx0 hw) (rTx9 hw) ?_
  refine ss_alen (hTx14 hw) (Or.inl rfl) nL144 ?_
  refine ss_copyL 144 lc6_67 acN acS acI (hTx14 hv) (hTx14 hw) (Nat.succ_ne_zero _) iL144 rfl rfl (by decide) rfl ?_
  refine sb_end ?_
  refine sb_in [(165, .return_, 1)] 166 (by decide +kernel) ?_
  subst h
  subst hr
  refine sb_return ?_
  exact rfl
theorem tfT_copyOne {P : Px} {w : Nat} (hw : Tx w) {v : Nat} (hv : Tx v) {x1 : Int32} {M : Mm} : EX P 2 kX6_copyOne [.ref w, .int x1, .ref v] (S M) (none, S (fT_copyOne w v x1 M)) := ex_of oX6_copyOne (Nat.le_of_ble_eq_true rfl) (nfT_copyOne hw hv rfl rfl)
set_option maxRecDepth 20000 in
theorem nfT_linesOf {P : Px} {x1 : Int32} {M : Mm} {rr : Int32} (h : fT_linesOf x1 M = rr) {r : Option Value × Sg} (hr : r = (some (.int rr), S M)) : RN P 1 kX6_linesOf 0 [(0, .ref 123), (1, .int x1)] [] (S M) r := by
  unfold fT_linesOf at h
  refine sb_in [(0, .iload_n 1, 1), (1, .tableswitch 45 0 2 #[27, 35, 40], 27)] 28 (by decide +kernel) ?_
  refine sb_iload_n rfl ?_
  rcases ife h with ⟨cz1, h⟩ | ⟨cz1, h⟩
  · refine sb_tsw_in (off := 27) 0 28 cz1 (by decide +kernel) ?_
    refine sb_in [(28, .aload_n 0, 1), (29, .getfield 12, 3), (32, .getfield 37, 3), (35, .ireturn, 1)] 36 (by decide +kernel) ?_
    refine sb_aload_n rfl ?_
    refine ss_getR g6_12 h123 r123_0 ?_
    refine ss_getI g6_37 h124 ?_
    subst h
    subst hr
    refine sb_ireturn ?_
    exact ⟨.int, rfl, rfl⟩
  rcases ife h with ⟨cz2, h⟩ | ⟨cz2, h⟩
  · refine sb_tsw_in (off := 35) 1 36 cz2 (by decide +kernel) ?_
    refine sb_in [(36, .aload_n 0, 1), (37, .getfield 41, 3), (40, .ireturn, 1)] 41 (by decide +kernel) ?_
    refine sb_aload_n rfl ?_
    refine ss_getI g6_41 h123 ?_
    subst h
    subst hr
    refine sb_ireturn ?_
    exact ⟨.int, rfl, rfl⟩
  rcases ife h with ⟨cz3, h⟩ | ⟨cz3, h⟩
  · refine sb_tsw_in (off := 40) 2 41 cz3 (by decide +kernel) ?_
    refine sb_in [(41, .aload_n 0, 1), (42, .getfield 44, 3), (45, .ireturn, 1)] 46 (by decide +kernel) ?_
    refine sb_aload_n rfl ?_
    refine ss_getI g6_44 h123 ?_
    subst h
    subst hr
    refine sb_ireturn ?_
    exact ⟨.int, rfl, rfl⟩
  refine sb_tsw_out 0 3 46 ((lt_s (lt_s (lt_s lt_0 cz1) cz2) cz3)) (by decide +kernel) ?_
  refine sb_in [(46, .aload_n 0, 1), (47, .getfield 47, 3), (50, .ireturn, 1)] 51 (by decide +kernel) ?_
  refine sb_aload_n rfl ?_
  refine ss_getI g6_47 h123 ?_
  subst h
  subst hr
  refine sb_ireturn ?_
  exact ⟨.int, rfl, rfl⟩
theorem tfT_linesOf {P : Px} {x1 : Int32} {M : Mm} : EX P 1 kX6_linesOf [.ref 123, .int x1] (S M) (some (.int (fT_linesOf x1 M)), S M) := ex_of oX6_linesOf (Nat.le_of_ble_eq_true rfl) (nfT_linesOf  rfl rfl)
set_option maxRecDepth 20000 in
theorem nfK_text {P : Px} {x1 : Int32} {M : Mm} {rr : (Int32 × Mm)} (h : fK_text x1 M = some rr) {r : Option Value × Sg} (hr : r = (some (.int rr.1), S rr.2)) : RN P 10 kX11_text 0 [(0, .ref 0), (1, .int x1)] [] (S M) r := by
  unfold fK_text at h
  refine sb_in [(0, .aload_n 0, 1), (1, .getfield 162, 3), (4, .istore_n 2, 1), (5, .aload_n 0, 1), (6, .iconst 0, 1), (7, .putfield 162, 3), (10, .aload_n 0, 1), (11, .getfield 47, 3), (14, .invokevirtual 169, 3), (17, .iload_n 1, 1), (18, .iconst 0, 1), (19, .iconst 3, 1), (20, .invokestatic 91, 3), (23, .ifCond .eq 29, 3)] 26 (by decide +kernel) ?_
  refine sb_aload_n rfl ?_
  refine ss_getI g11_162 h0 ?_
  refine sb_istore_n (by decide) rfl ?_
  refine sb_aload_n rfl ?_
  refine sb_iconst cI0 ?_
  refine ss_putI p11_162 h0 (by decide) ?_
  refine sb_aload_n rfl ?_
  refine ss_getR g11_47 h0 r0_5 ?_
  refine sb_callVv 0 rfl oX5_forgive ln11_169 vX5_forgive (rc_own h146.1 (S_lt h146.2) (by decide)) (rnCk_of (by decide +kernel) rfl) (tfR_forgive) ?_
  refine sb_iload_n rfl ?_
  refine sb_iconst cI0 ?_
  refine sb_iconst cI3 ?_
  refine sb_callSi 3 rfl oX11_isWithin ln11_91 vX11_isWithin (rnCk_of (by decide +kernel) rfl) (tfK_isWithin) ?_
  rcases ife h with ⟨cz12, h⟩ | ⟨cz12, h⟩
  · refine sb_if_eq_t 52 cz12 (by decide) ?_
    refine sb_in [(52, .iconst (-1), 1), (53, .ireturn, 1)] 54 (by decide +kernel) ?_
    refine sb_iconst cIm1 ?_
    cases h
    subst hr
    refine sb_ireturn ?_
    exact ⟨.int, rfl, rfl⟩
  · refine sb_if_eq_f 52 cz12 (by decide) ?_
    refine sb_in [(26, .aload_n 0, 1), (27, .getfield 47, 3), (30, .iload_n 1, 1), (31, .aload_n 0, 1), (32, .getfield 67, 3), (35, .iload_n 2, 1), (36, .aload_n 0, 1), (37, .getfield 16, 3), (40, .getfield 95, 3), (43, .getfield 99, 3), (46, .invokevirtual 172, 3), (49, .ifCond .ne 5, 3)] 52 (by decide +kernel) ?_
    refine sb_aload_n rfl ?_
    refine ss_getR g11_47 h0 r0_5 ?_
    refine sb_iload_n rfl ?_
    refine sb_aload_n rfl ?_
    refine ss_getR g11_67 h0 r0_9 ?_
    refine sb_iload_n rfl ?_
    refine sb_aload_n rfl ?_
    refine ss_getR g11_16 h0 r0_0 ?_
    refine ss_getR g11_95 h1 r1_0 ?_
    refine ss_getI g11_99 h2 ?_
    obtain ⟨qz6, hez5, h⟩ := bd h
    refine sb_callVi 4 rfl oX5_read ln11_172 vX5_read (rc_own h146.1 (S_lt h146.2) (by decide)) (rnCk_of (by decide +kernel) rfl) (tfR_read hez5) ?_
    rcases ife h with ⟨cz13, h⟩ | ⟨cz13, h⟩
    · refine sb_if_ne_f 54 cz13 (by decide) ?_
      refine sb_in [(52, .iconst (-1), 1), (53, .ireturn, 1)] 54 (by decide +kernel) ?_
      refine sb_iconst cIm1 ?_
      cases h
      subst hr
      refine sb_ireturn ?_
      exact ⟨.int, rfl, rfl⟩
    · refine sb_if_ne_t 54 cz13 (by decide) ?_
      refine sb_in [(54, .aload_n 0, 1), (55, .getfield 33, 3), (58, .iload_n 1, 1), (59, .aload_n 0, 1), (60, .getfield 47, 3), (63, .getfield 176, 3), (66, .invokevirtual 179, 3), (69, .iload_n 1, 1), (70, .iconst 1, 1), (71, .if_icmp .eq 8, 3)] 74 (by decide +kernel) ?_
      refine sb_aload_n rfl ?_
      refine ss_getR g11_33 h0 r0_3 ?_
      refine sb_iload_n rfl ?_
      refine sb_aload_n rfl ?_
      refine ss_getR g11_47 h0 r0_5 ?_
      refine ss_getR g11_176 h146 r146_0 ?_
      refine sb_callVv 2 rfl oX6_copyOne ln11_179 vX6_copyOne (rc_own h123.1 (S_lt h123.2) (by decide)) (rnCk_of (by decide +kernel) rfl) (tfT_copyOne lTx123 lTx147) ?_
      refine sb_iload_n rfl ?_
      refine sb_iconst cI1 ?_
      obtain ⟨Mz10, hj86, h⟩ := bd h
      have hJ86 : RN P 10 kX11_text 86 [(0, .ref 0), (1, .int x1)] [] (S Mz10) r := by
        refine sb_in [(86, .aload_n 0, 1), (87, .getfield 33, 3), (90, .iload_n 1, 1), (91, .invokevirtual 183, 3), (94, .ireturn, 1)] 95 (by decide +kernel) ?_
        refine sb_aload_n rfl ?_
        refine ss_getR g11_33 h0 r0_3 ?_
        refine sb_iload_n rfl ?_
        refine sb_callVi 1 rfl oX6_linesOf ln11_183 vX6_linesOf (rc_own h123.1 (S_lt h123.2) (by decide)) (rnCk_of (by decide +kernel) rfl) (tfT_linesOf) ?_
        cases h
        subst hr
        refine sb_ireturn ?_
        exact ⟨.int, rfl, rfl⟩
      clear h
      have h := hj86
      clear hj86
      rcases ife h with ⟨cz14, h⟩ | ⟨cz14, h⟩
      · refine sb_icmp_eq_t 79 cz14 (by decide) ?_
        refine sb_in [(79, .aload_n 0, 1), (80, .getfield 26, 3), (83, .invokevirtual 84, 3)] 86 (by decide +kernel) ?_
        refine sb_aload_n rfl ?_
        refine ss_getR g11_26 h0 r0_2 ?_
        refine sb_callVv 0 rfl oX4_forget ln11_84 vX4_forget (rc_own h31.1 (S_lt h31.2) (by decide)) (rnCk_of (by decide +kernel) rfl) (tfP_forget) ?_
        refine sb_end ?_
        cases h
        exact rn_sub [0, 1] rfl hJ86
      · refine sb_icmp_eq_f 79 cz14 (by decide) ?_
        refine sb_in [(74, .iload_n 1, 1), (75, .iconst 2, 1), (76, .if_icmp .ne 10, 3)] 79 (by decide +kernel) ?_
        refine sb_iload_n rfl ?_
        refine sb_iconst cI2 ?_
        rcases ife h with ⟨cz15, h⟩ | ⟨cz15, h⟩
        · refine sb_icmp_ne_f 86 cz15 (by decide) ?_
          refine sb_in [(79, .aload_n 0, 1), (80, .getfield 26, 3), (83, .invokevirtual 84, 3)] 86 (by decide +kernel) ?_
          refine sb_aload_n rfl ?_
          refine ss_getR g11_26 h0 r0_2 ?_
          refine sb_callVv 0 rfl oX4_forget ln11_84 vX4_forget (rc_own h31.1 (S_lt h31.2) (by decide)) (rnCk_of (by decide +kernel) rfl) (tfP_forget) ?_
          refine sb_end ?_
          cases h
          exact rn_sub [0, 1] rfl hJ86
        · refine sb_icmp_ne_t 86 cz15 (by decide) ?_
          cases h
          exact rn_sub [0, 1] rfl hJ86
theorem tfK_text {P : Px} {x1 : Int32} {M : Mm} {rr : (Int32 × Mm)} (h : fK_text x1 M = some rr) : EX P 10 kX11_text [.ref 0, .int x1] (S M) (some (.int rr.1), S rr.2) := ex_of oX11_text (Nat.le_of_ble_eq_true rfl) (nfK_text  h rfl)
set_option maxRecDepth 20000 in
theorem nfK_fault {P : Px} {x1 : Int32} {M : Mm} {rr : Int32} (h : fK_fault x1 M = rr) {r : Option Value × Sg} (hr : r = (some (.int rr), S M)) : RN P 1 kX11_fault 0 [(0, .ref 0), (1, .int x1)] [] (S M) r := by
  unfold fK_fault at h
  refine sb_in [(0, .iload_n 1, 1), (1, .ifCond .ne 11, 3)] 4 (by decide +kernel) ?_
  refine sb_iload_n rfl ?_
  rcases ife h with ⟨cz1, h⟩ | ⟨cz1, h⟩
  · refine sb_if_ne_f 12 cz1 (by decide) ?_
    refine sb_in [(4, .aload_n 0, 1), (5, .getfield 47, 3), (8, .getfield 186, 3), (11, .ireturn, 1)] 12 (by decide +kernel) ?_
    refine sb_aload_n rfl ?_
    refine ss_getR g11_47 h0 r0_5 ?_
    refine ss_getI g11_186 h146 ?_
    subst h
    subst hr
    refine sb_ireturn ?_
    exact ⟨.int, rfl, rfl⟩
  · refine sb_if_ne_t 12 cz1 (by decide) ?_
    refine sb_in [(12, .iload_n 1, 1), (13, .iconst 1, 1), (14, .if_icmp .ne 13, 3)] 17 (by decide +kernel) ?_
    refine sb_iload_n rfl ?_
    refine sb_iconst cI1 ?_
    rcases ife h with ⟨cz2, h⟩ | ⟨cz2, h⟩
    · refine sb_icmp_ne_f 27 cz2 (by decide) ?_
      refine sb_in [(17, .aload_n 0, 1), (18, .getfield 47, 3), (21, .getfield 189, 3), (24, .goto 4, 3)] 27 (by decide +kernel) ?_
      refine sb_aload_n rfl ?_
      refine ss_getR g11_47 h0 r0_5 ?_
      refine ss_getI g11_189 h146 ?_
      refine sb_goto 28 (by decide) ?_
      refine sb_in [(28, .ireturn, 1)] 29 (by decide +kernel) ?_
      subst h
      subst hr
      refine sb_ireturn ?_
      exact ⟨.int, rfl, rfl⟩
    · refine sb_icmp_ne_t 27 cz2 (by decide) ?_
      refine sb_in [(27, .iconst (-1), 1)] 28 (by decide +kernel) ?_
      refine sb_iconst cIm1 ?_
      refine sb_end ?_
      refine sb_in [(28, .ireturn, 1)] 29 (by decide +kernel) ?_
      subst h
      subst hr
      refine sb_ireturn ?_
      exact ⟨.int, rfl, rfl⟩
theorem tfK_fault {P : Px} {x1 : Int32} {M : Mm} : EX P 1 kX11_fault [.ref 0, .int x1] (S M) (some (.int (fK_fault x1 M)), S M) := ex_of oX11_fault (Nat.le_of_ble_eq_true rfl) (nfK_fault  rfl rfl)
set_option maxRecDepth 20000 in
theorem nfB_countFor {P : Px} {w : Nat} (hw : Bg w) {x1 : Int32} {M : Mm} {rr : Int32} (h : fB_countFor w x1 M = some rr) {r : Option Value × Sg} (hr : r = (some (.int rr), S M)) : RN P 1 kX0_countFor 0 [(0, .ref w), (1, .int x1)] [] (S M) r := by
  unfold fB_countFor at h
  refine sb_in [(0, .iconst 0, 1), (1, .istore_n 2, 1), (2, .iconst 0, 1), (3, .istore_n 3, 1)] 4 (by decide +kernel) ?_
  refine sb_iconst cI0 ?_
  refine sb_istore_n (by decide) rfl ?_
  refine sb_iconst cI0 ?_
  refine sb_istore_n (by decide) rfl ?_
  refine sb_end ?_
  obtain ⟨e4, hl4, h⟩ := bd h
  refine rn_sub [0, 1, 2, 3] rfl ?_
  refine lp_ind (P := fun s => RN P 1 kX0_countFor 4 [(0, .ref w), (1, .int x1), (2, .int s.1), (3, .int s.2)] [] (S M) r) (E := fun p => RN P 1 kX0_countFor 31 [(2, .int p)] [] (S M) r) ?_ _ _ _ hl4 ?_
  · intro s qx h hc
    obtain ⟨x2, x3⟩ := s
    replace h : fB_countFor_b4 w x1 M x2 x3 = some qx := h
    show RN P 1 kX0_countFor 4 [(0, .ref w), (1, .int x1), (2, .int x2), (3, .int x3)] [] (S M) r
    unfold fB_countFor_b4 at h
    refine sb_in [(4, .iload_n 3, 1), (5, .aload_n 0, 1), (6, .getfield 27, 3), (9, .if_icmp .ge 22, 3)] 12 (by decide +kernel) ?_
    refine sb_iload_n rfl ?_
    refine sb_aload_n rfl ?_
    refine ss_getI g0_27 (hBg0 hw) ?_
    rcases ife h with ⟨cz3, h⟩ | ⟨cz3, h⟩
    · refine sb_icmp_ge_t 31 cz3 (by decide) ?_
      cases h
      exact rn_sub [2] rfl hc
    · refine sb_icmp_ge_f 31 cz3 (by decide) ?_
      refine sb_in [(12, .aload_n 0, 1), (13, .getfield 15, 3), (16, .iload_n 3, 1), (17, .iaload, 1), (18, .iload_n 1, 1), (19, .if_icmp .ne 6, 3)] 22 (by decide +kernel) ?_
      refine sb_aload_n rfl ?_
      refine ss_getR g0_15 (hBg0 hw) (rBg3 hw) ?_
      refine sb_iload_n rfl ?_
      obtain ⟨hgz1, h⟩ := gd h
      refine ss_iald (hBg2 hw) hgz1 ?_
      refine sb_iload_n rfl ?_
      have hJ25 : RN P 1 kX0_countFor 25 [(0, .ref w), (1, .int x1), (2, .int (if (M (w + 2) (jix x3)) = x1 then (x2 + 1) else x2)), (3, .int x3)] [] (S M) r := by
        refine sb_in [(25, .iinc 3 1, 3), (28, .goto (-24), 3)] 31 (by decide +kernel) ?_
        refine ss_iinc cI1 rfl (by decide) rfl ?_
        refine sb_goto 4 (by decide) ?_
        cases h
        exact rn_sub [0, 1, 2, 3] rfl hc
      rcases Decidable.em ((M (w + 2) (jix x3)) = x1) with cz4 | cz4
      · refine sb_icmp_ne_f 25 cz4 (by decide) ?_
        refine sb_in [(22, .iinc 2 1, 3)] 25 (by decide +kernel) ?_
        refine ss_iinc cI1 rfl (by decide) rfl ?_
        refine sb_end ?_
        have hq := hJ25
        simp only [if_pos cz4] at hq
        exact rn_sub [0, 1, 2, 3] rfl hq
      · refine sb_icmp_ne_t 25 cz4 (by decide) ?_
        have hq := hJ25
        simp only [if_neg cz4] at hq
        exact rn_sub [0, 1, 2, 3] rfl hq
  · clear hl4
    obtain ⟨yz2, hey⟩ : ∃ z, z = e4 := ⟨_, rfl⟩
    subst hey
    show RN P 1 kX0_countFor 31 [(2, .int yz2)] [] (S M) r
    refine sb_in [(31, .iload_n 2, 1), (32, .ireturn, 1)] 33 (by decide +kernel) ?_
    refine sb_iload_n rfl ?_
    cases h
    subst hr
    refine sb_ireturn ?_
    exact ⟨.int, rfl, rfl⟩
theorem tfB_countFor {P : Px} {w : Nat} (hw : Bg w) {x1 : Int32} {M : Mm} {rr : Int32} (h : fB_countFor w x1 M = some rr) : EX P 1 kX0_countFor [.ref w, .int x1] (S M) (some (.int rr), S M) := ex_of oX0_countFor (Nat.le_of_ble_eq_true rfl) (nfB_countFor hw h rfl)
set_option maxRecDepth 20000 in
theorem nfT_streetBetween {P : Px} {x1 : Int32} {x2 : Int32} {M : Mm} {rr : Int32} (h : fT_streetBetween x1 x2 M = some rr) {r : Option Value × Sg} (hr : r = (some (.int rr), S M)) : RN P 1 kX6_streetBetween 0 [(0, .ref 123), (1, .int x1), (2, .int x2)] [] (S M) r := by
  unfold fT_streetBetween at h
  refine sb_in [(0, .aload_n 0, 1), (1, .getfield 34, 3), (4, .iload_n 1, 1), (5, .bipush 12, 2), (7, .imul, 1), (8, .iload_n 2, 1), (9, .iadd, 1), (10, .iaload, 1), (11, .istore_n 3, 1), (12, .iload_n 3, 1), (13, .ifCond .ne 7, 3)] 16 (by decide +kernel) ?_
  refine sb_aload_n rfl ?_
  refine ss_getR g6_34 h123 r123_9 ?_
  refine sb_iload_n rfl ?_
  refine sb_bipush cB12 ?_
  refine sb_imul ?_
  refine sb_iload_n rfl ?_
  refine sb_iadd ?_
  obtain ⟨hgz1, h⟩ := gd h
  refine ss_iald h137 hgz1 ?_
  refine sb_istore_n (by decide) rfl ?_
  refine sb_iload_n rfl ?_
  rcases ife h with ⟨cz3, h⟩ | ⟨cz3, h⟩
  · refine sb_if_ne_f 20 cz3 (by decide) ?_
    refine sb_in [(16, .iconst (-1), 1), (17, .goto 4, 3)] 20 (by decide +kernel) ?_
    refine sb_iconst cIm1 ?_
    refine sb_goto 21 (by decide) ?_
    refine sb_in [(21, .ireturn, 1)] 22 (by decide +kernel) ?_
    cases h
    subst hr
    refine sb_ireturn ?_
    exact ⟨.int, rfl, rfl⟩
  · refine sb_if_ne_t 20 cz3 (by decide) ?_
    refine sb_in [(20, .iload_n 3, 1)] 21 (by decide +kernel) ?_
    refine sb_iload_n rfl ?_
    refine sb_end ?_
    refine sb_in [(21, .ireturn, 1)] 22 (by decide +kernel) ?_
    cases h
    subst hr
    refine sb_ireturn ?_
    exact ⟨.int, rfl, rfl⟩
theorem tfT_streetBetween {P : Px} {x1 : Int32} {x2 : Int32} {M : Mm} {rr : Int32} (h : fT_streetBetween x1 x2 M = some rr) : EX P 1 kX6_streetBetween [.ref 123, .int x1, .int x2] (S M) (some (.int rr), S M) := ex_of oX6_streetBetween (Nat.le_of_ble_eq_true rfl) (nfT_streetBetween  h rfl)
set_option maxRecDepth 20000 in
theorem nfK_of {P : Px} {x1 : Int32} {x2 : Int32} {M : Mm} {rr : Int32} (h : fK_of x1 x2 M = some rr) {r : Option Value × Sg} (hr : r = (some (.int rr), S M)) : RN P 3 kX11_of 0 [(0, .ref 0), (1, .int x1), (2, .int x2)] [] (S M) r := by
  unfold fK_of at h
  refine sb_in [(0, .aload_n 0, 1), (1, .iload_n 1, 1), (2, .invokevirtual 115, 3), (5, .ifCond .ne 6, 3)] 8 (by decide +kernel) ?_
  refine sb_aload_n rfl ?_
  refine sb_iload_n rfl ?_
  obtain ⟨qz2, hez1, h⟩ := bd h
  refine sb_callVi 1 rfl oX11_isDoor ln11_115 vX11_isDoor (rc_own h0.1 (S_lt h0.2) (by decide)) (rnCk_of (by decide +kernel) rfl) (tfK_isDoor hez1) ?_
  rcases ife h with ⟨cz13, h⟩ | ⟨cz13, h⟩
  · refine sb_if_ne_f 11 cz13 (by decide) ?_
    refine sb_in [(8, .bipush (-100), 2), (10, .ireturn, 1)] 11 (by decide +kernel) ?_
    refine sb_bipush cBm100 ?_
    cases h
    subst hr
    refine sb_ireturn ?_
    exact ⟨.int, rfl, rfl⟩
  · refine sb_if_ne_t 11 cz13 (by decide) ?_
    refine sb_in [(11, .iload_n 2, 1), (12, .tableswitch 100 0 4 #[36, 49, 62, 75, 88], 36)] 48 (by decide +kernel) ?_
    refine sb_iload_n rfl ?_
    rcases ife h with ⟨cz14, h⟩ | ⟨cz14, h⟩
    · refine sb_tsw_in (off := 36) 0 48 cz14 (by decide +kernel) ?_
      refine sb_in [(48, .aload_n 0, 1), (49, .getfield 16, 3), (52, .getfield 95, 3), (55, .getfield 192, 3), (58, .iload_n 1, 1), (59, .iaload, 1), (60, .ireturn, 1)] 61 (by decide +kernel) ?_
      refine sb_aload_n rfl ?_
      refine ss_getR g11_16 h0 r0_0 ?_
      refine ss_getR g11_95 h1 r1_0 ?_
      refine ss_getR g11_192 h2 r2_1 ?_
      refine sb_iload_n rfl ?_
      obtain ⟨hgz3, h⟩ := gd h
      refine ss_iald h3 hgz3 ?_
      cases h
      subst hr
      refine sb_ireturn ?_
      exact ⟨.int, rfl, rfl⟩
    rcases ife h with ⟨cz15, h⟩ | ⟨cz15, h⟩
    · refine sb_tsw_in (off := 49) 1 61 cz15 (by decide +kernel) ?_
      refine sb_in [(61, .aload_n 0, 1), (62, .getfield 16, 3), (65, .getfield 95, 3), (68, .getfield 195, 3), (71, .iload_n 1, 1), (72, .iaload, 1), (73, .ireturn, 1)] 74 (by decide +kernel) ?_
      refine sb_aload_n rfl ?_
      refine ss_getR g11_16 h0 r0_0 ?_
      refine ss_getR g11_95 h1 r1_0 ?_
      refine ss_getR g11_195 h2 r2_2 ?_
      refine sb_iload_n rfl ?_
      obtain ⟨hgz4, h⟩ := gd h
      refine ss_iald h4 hgz4 ?_
      cases h
      subst hr
      refine sb_ireturn ?_
      exact ⟨.int, rfl, rfl⟩
    rcases ife h with ⟨cz16, h⟩ | ⟨cz16, h⟩
    · refine sb_tsw_in (off := 62) 2 74 cz16 (by decide +kernel) ?_
      refine sb_in [(74, .aload_n 0, 1), (75, .getfield 16, 3), (78, .getfield 95, 3), (81, .getfield 198, 3), (84, .iload_n 1, 1), (85, .iaload, 1), (86, .ireturn, 1)] 87 (by decide +kernel) ?_
      refine sb_aload_n rfl ?_
      refine ss_getR g11_16 h0 r0_0 ?_
      refine ss_getR g11_95 h1 r1_0 ?_
      refine ss_getR g11_198 h2 r2_3 ?_
      refine sb_iload_n rfl ?_
      obtain ⟨hgz5, h⟩ := gd h
      refine ss_iald h5 hgz5 ?_
      cases h
      subst hr
      refine sb_ireturn ?_
      exact ⟨.int, rfl, rfl⟩
    rcases ife h with ⟨cz17, h⟩ | ⟨cz17, h⟩
    · refine sb_tsw_in (off := 75) 3 87 cz17 (by decide +kernel) ?_
      refine sb_in [(87, .aload_n 0, 1), (88, .getfield 16, 3), (91, .getfield 95, 3), (94, .getfield 201, 3), (97, .iload_n 1, 1), (98, .iaload, 1), (99, .ireturn, 1)] 100 (by decide +kernel) ?_
      refine sb_aload_n rfl ?_
      refine ss_getR g11_16 h0 r0_0 ?_
      refine ss_getR g11_95 h1 r1_0 ?_
      refine ss_getR g11_201 h2 r2_4 ?_
      refine sb_iload_n rfl ?_
      obtain ⟨hgz6, h⟩ := gd h
      refine ss_iald h6 hgz6 ?_
      cases h
      subst hr
      refine sb_ireturn ?_
      exact ⟨.int, rfl, rfl⟩
    rcases ife h with ⟨cz18, h⟩ | ⟨cz18, h⟩
    · refine sb_tsw_in (off := 88) 4 100 cz18 (by decide +kernel) ?_
      refine sb_in [(100, .aload_n 0, 1), (101, .getfield 16, 3), (104, .getfield 121, 3), (107, .iload_n 1, 1), (108, .invokevirtual 204, 3), (111, .ireturn, 1)] 112 (by decide +kernel) ?_
      refine sb_aload_n rfl ?_
      refine ss_getR g11_16 h0 r0_0 ?_
      refine ss_getR g11_121 h1 r1_1 ?_
      refine sb_iload_n rfl ?_
      obtain ⟨qz8, hez7, h⟩ := bd h
      refine sb_callVi 1 rfl oX0_countFor ln11_204 vX0_countFor (rc_own h8.1 (S_lt h8.2) (by decide)) (rnCk_of (by decide +kernel) rfl) (tfB_countFor lBg8 hez7) ?_
      cases h
      subst hr
      refine sb_ireturn ?_
      exact ⟨.int, rfl, rfl⟩
    refine sb_tsw_out 0 5 112 ((lt_s (lt_s (lt_s (lt_s (lt_s lt_0 cz14) cz15) cz16) cz17) cz18)) (by decide +kernel) ?_
    refine sb_in [(112, .iload_n 2, 1), (113, .bipush 10, 2), (115, .if_icmp .lt 29, 3)] 118 (by decide +kernel) ?_
    refine sb_iload_n rfl ?_
    refine sb_bipush cB10 ?_
    rcases ife h with ⟨cz19, h⟩ | ⟨cz19, h⟩
    · refine sb_icmp_lt_t 144 cz19 (by decide) ?_
      refine sb_in [(144, .bipush (-100), 2)] 146 (by decide +kernel) ?_
      refine sb_bipush cBm100 ?_
      refine sb_end ?_
      refine sb_in [(146, .ireturn, 1)] 147 (by decide +kernel) ?_
      cases h
      subst hr
      refine sb_ireturn ?_
      exact ⟨.int, rfl, rfl⟩
    · refine sb_icmp_lt_f 144 cz19 (by decide) ?_
      refine sb_in [(118, .aload_n 0, 1), (119, .iload_n 2, 1), (120, .bipush 10, 2), (122, .isub, 1), (123, .invokevirtual 115, 3), (126, .ifCond .eq 18, 3)] 129 (by decide +kernel) ?_
      refine sb_aload_n rfl ?_
      refine sb_iload_n rfl ?_
      refine sb_bipush cB10 ?_
      refine sb_isub ?_
      obtain ⟨qz10, hez9, h⟩ := bd h
      refine sb_callVi 1 rfl oX11_isDoor ln11_115 vX11_isDoor (rc_own h0.1 (S_lt h0.2) (by decide)) (rnCk_of (by decide +kernel) rfl) (tfK_isDoor hez9) ?_
      rcases ife h with ⟨cz20, h⟩ | ⟨cz20, h⟩
      · refine sb_if_eq_t 144 cz20 (by decide) ?_
        refine sb_in [(144, .bipush (-100), 2)] 146 (by decide +kernel) ?_
        refine sb_bipush cBm100 ?_
        refine sb_end ?_
        refine sb_in [(146, .ireturn, 1)] 147 (by decide +kernel) ?_
        cases h
        subst hr
        refine sb_ireturn ?_
        exact ⟨.int, rfl, rfl⟩
      · refine sb_if_eq_f 144 cz20 (by decide) ?_
        refine sb_in [(129, .aload_n 0, 1), (130, .getfield 33, 3), (133, .iload_n 1, 1), (134, .iload_n 2, 1), (135, .bipush 10, 2), (137, .isub, 1), (138, .invokevirtual 207, 3), (141, .goto 5, 3)] 144 (by decide +kernel) ?_
        refine sb_aload_n rfl ?_
        refine ss_getR g11_33 h0 r0_3 ?_
        refine sb_iload_n rfl ?_
        refine sb_iload_n rfl ?_
        refine sb_bipush cB10 ?_
        refine sb_isub ?_
        obtain ⟨qz12, hez11, h⟩ := bd h
        refine sb_callVi 2 rfl oX6_streetBetween ln11_207 vX6_streetBetween (rc_own h123.1 (S_lt h123.2) (by decide)) (rnCk_of (by decide +kernel) rfl) (tfT_streetBetween hez11) ?_
        refine sb_goto 146 (by decide) ?_
        refine sb_in [(146, .ireturn, 1)] 147 (by decide +kernel) ?_
        cases h
        subst hr
        refine sb_ireturn ?_
        exact ⟨.int, rfl, rfl⟩
theorem tfK_of {P : Px} {x1 : Int32} {x2 : Int32} {M : Mm} {rr : Int32} (h : fK_of x1 x2 M = some rr) : EX P 3 kX11_of [.ref 0, .int x1, .int x2] (S M) (some (.int rr), S M) := ex_of oX11_of (Nat.le_of_ble_eq_true rfl) (nfK_of  h rfl)
set_option maxRecDepth 20000 in
theorem nfK_letter {P : Px} {x1 : Int32} {x2 : Int32} {M : Mm} {rr : (Int32 × Mm)} (h : fK_letter x1 x2 M = some rr) {r : Option Value × Sg} (hr : r = (some (.int rr.1), S rr.2)) : RN P 5 kX11_letter 0 [(0, .ref 0), (1, .int x1), (2, .int x2)] [] (S M) r := by
  unfold fK_letter at h
  refine sb_in [(0, .aload_n 0, 1), (1, .getfield 16, 3), (4, .getfield 121, 3), (7, .astore_n 3, 1), (8, .iload_n 1, 1), (9, .iconst 0, 1), (10, .aload_n 3, 1), (11, .getfield 125, 3), (14, .iconst 1, 1), (15, .isub, 1), (16, .invokestatic 91, 3), (19, .ifCond .ne 5, 3)] 22 (by decide +kernel) ?_
  refine sb_aload_n rfl ?_
  refine ss_getR g11_16 h0 r0_0 ?_
  refine ss_getR g11_121 h1 r1_1 ?_
  refine sb_astore_n (by decide) rfl ?_
  refine sb_iload_n rfl ?_
  refine sb_iconst cI0 ?_
  refine sb_aload_n rfl ?_
  refine ss_getI g11_125 h8 ?_
  refine sb_iconst cI1 ?_
  refine sb_isub ?_
  refine sb_callSi 3 rfl oX11_isWithin ln11_91 vX11_isWithin (rnCk_of (by decide +kernel) rfl) (tfK_isWithin) ?_
  rcases ife h with ⟨cz13, h⟩ | ⟨cz13, h⟩
  · refine sb_if_ne_f 24 cz13 (by decide) ?_
    refine sb_in [(22, .iconst (-1), 1), (23, .ireturn, 1)] 24 (by decide +kernel) ?_
    refine sb_iconst cIm1 ?_
    cases h
    subst hr
    refine sb_ireturn ?_
    exact ⟨.int, rfl, rfl⟩
  · refine sb_if_ne_t 24 cz13 (by decide) ?_
    refine sb_in [(24, .iload_n 2, 1), (25, .tableswitch 133 0 7 #[47, 54, 61, 68, 75, 82, 99, 116], 47)] 72 (by decide +kernel) ?_
    refine sb_iload_n rfl ?_
    rcases ife h with ⟨cz14, h⟩ | ⟨cz14, h⟩
    · refine sb_tsw_in (off := 47) 0 72 cz14 (by decide +kernel) ?_
      refine sb_in [(72, .aload_n 3, 1), (73, .getfield 211, 3), (76, .iload_n 1, 1), (77, .iaload, 1), (78, .ireturn, 1)] 79 (by decide +kernel) ?_
      refine sb_aload_n rfl ?_
      refine ss_getR g11_211 h8 r8_2 ?_
      refine sb_iload_n rfl ?_
      obtain ⟨hgz2, h⟩ := gd h
      refine ss_iald h9 hgz2 ?_
      cases h
      subst hr
      refine sb_ireturn ?_
      exact ⟨.int, rfl, rfl⟩
    rcases ife h with ⟨cz15, h⟩ | ⟨cz15, h⟩
    · refine sb_tsw_in (off := 54) 1 79 cz15 (by decide +kernel) ?_
      refine sb_in [(79, .aload_n 3, 1), (80, .getfield 214, 3), (83, .iload_n 1, 1), (84, .iaload, 1), (85, .ireturn, 1)] 86 (by decide +kernel) ?_
      refine sb_aload_n rfl ?_
      refine ss_getR g11_214 h8 r8_3 ?_
      refine sb_iload_n rfl ?_
      obtain ⟨hgz3, h⟩ := gd h
      refine ss_iald h10 hgz3 ?_
      cases h
      subst hr
      refine sb_ireturn ?_
      exact ⟨.int, rfl, rfl⟩
    rcases ife h with ⟨cz16, h⟩ | ⟨cz16, h⟩
    · refine sb_tsw_in (off := 61) 2 86 cz16 (by decide +kernel) ?_
      refine sb_in [(86, .aload_n 3, 1), (87, .getfield 217, 3), (90, .iload_n 1, 1), (91, .iaload, 1), (92, .ireturn, 1)] 93 (by decide +kernel) ?_
      refine sb_aload_n rfl ?_
      refine ss_getR g11_217 h8 r8_4 ?_
      refine sb_iload_n rfl ?_
      obtain ⟨hgz4, h⟩ := gd h
      refine ss_iald h11 hgz4 ?_
      cases h
      subst hr
      refine sb_ireturn ?_
      exact ⟨.int, rfl, rfl⟩
    rcases ife h with ⟨cz17, h⟩ | ⟨cz17, h⟩
    · refine sb_tsw_in (off := 68) 3 93 cz17 (by decide +kernel) ?_
      refine sb_in [(93, .aload_n 3, 1), (94, .getfield 220, 3), (97, .iload_n 1, 1), (98, .iaload, 1), (99, .ireturn, 1)] 100 (by decide +kernel) ?_
      refine sb_aload_n rfl ?_
      refine ss_getR g11_220 h8 r8_5 ?_
      refine sb_iload_n rfl ?_
      obtain ⟨hgz5, h⟩ := gd h
      refine ss_iald h12 hgz5 ?_
      cases h
      subst hr
      refine sb_ireturn ?_
      exact ⟨.int, rfl, rfl⟩
    rcases ife h with ⟨cz18, h⟩ | ⟨cz18, h⟩
    · refine sb_tsw_in (off := 75) 4 100 cz18 (by decide +kernel) ?_
      refine sb_in [(100, .aload_n 3, 1), (101, .getfield 223, 3), (104, .iload_n 1, 1), (105, .iaload, 1), (106, .ireturn, 1)] 107 (by decide +kernel) ?_
      refine sb_aload_n rfl ?_
      refine ss_getR g11_223 h8 r8_6 ?_
      refine sb_iload_n rfl ?_
      obtain ⟨hgz6, h⟩ := gd h
      refine ss_iald h13 hgz6 ?_
      cases h
      subst hr
      refine sb_ireturn ?_
      exact ⟨.int, rfl, rfl⟩
    rcases ife h with ⟨cz19, h⟩ | ⟨cz19, h⟩
    · refine sb_tsw_in (off := 82) 5 107 cz19 (by decide +kernel) ?_
      refine sb_in [(107, .aload_n 0, 1), (108, .getfield 16, 3), (111, .iconst 0, 1), (112, .iload_n 1, 1), (113, .aload_n 0, 1), (114, .getfield 33, 3), (117, .getfield 144, 3), (120, .invokevirtual 228, 3), (123, .ireturn, 1)] 124 (by decide +kernel) ?_
      refine sb_aload_n rfl ?_
      refine ss_getR g11_16 h0 r0_0 ?_
      refine sb_iconst cI0 ?_
      refine sb_iload_n rfl ?_
      refine sb_aload_n rfl ?_
      refine ss_getR g11_33 h0 r0_3 ?_
      refine ss_getR g11_144 h123 r123_0 ?_
      obtain ⟨qz8, hez7, h⟩ := bd h
      refine sb_callVi 3 rfl oX10_ask ln11_228 vX10_ask (rc_own h1.1 (S_lt h1.2) (by decide)) (rnCk_of (by decide +kernel) rfl) (tfW_ask lWd1 hez7) ?_
      cases h
      subst hr
      refine sb_ireturn ?_
      exact ⟨.int, rfl, rfl⟩
    rcases ife h with ⟨cz20, h⟩ | ⟨cz20, h⟩
    · refine sb_tsw_in (off := 99) 6 124 cz20 (by decide +kernel) ?_
      refine sb_in [(124, .aload_n 0, 1), (125, .getfield 16, 3), (128, .iconst 1, 1), (129, .iload_n 1, 1), (130, .aload_n 0, 1), (131, .getfield 33, 3), (134, .getfield 144, 3), (137, .invokevirtual 228, 3), (140, .ireturn, 1)] 141 (by decide +kernel) ?_
      refine sb_aload_n rfl ?_
      refine ss_getR g11_16 h0 r0_0 ?_
      refine sb_iconst cI1 ?_
      refine sb_iload_n rfl ?_
      refine sb_aload_n rfl ?_
      refine ss_getR g11_33 h0 r0_3 ?_
      refine ss_getR g11_144 h123 r123_0 ?_
      obtain ⟨qz10, hez9, h⟩ := bd h
      refine sb_callVi 3 rfl oX10_ask ln11_228 vX10_ask (rc_own h1.1 (S_lt h1.2) (by decide)) (rnCk_of (by decide +kernel) rfl) (tfW_ask lWd1 hez9) ?_
      cases h
      subst hr
      refine sb_ireturn ?_
      exact ⟨.int, rfl, rfl⟩
    rcases ife h with ⟨cz21, h⟩ | ⟨cz21, h⟩
    · refine sb_tsw_in (off := 116) 7 141 cz21 (by decide +kernel) ?_
      refine sb_in [(141, .aload_n 0, 1), (142, .getfield 16, 3), (145, .iconst 2, 1), (146, .iload_n 1, 1), (147, .aload_n 0, 1), (148, .getfield 33, 3), (151, .getfield 144, 3), (154, .invokevirtual 228, 3), (157, .ireturn, 1)] 158 (by decide +kernel) ?_
      refine sb_aload_n rfl ?_
      refine ss_getR g11_16 h0 r0_0 ?_
      refine sb_iconst cI2 ?_
      refine sb_iload_n rfl ?_
      refine sb_aload_n rfl ?_
      refine ss_getR g11_33 h0 r0_3 ?_
      refine ss_getR g11_144 h123 r123_0 ?_
      obtain ⟨qz12, hez11, h⟩ := bd h
      refine sb_callVi 3 rfl oX10_ask ln11_228 vX10_ask (rc_own h1.1 (S_lt h1.2) (by decide)) (rnCk_of (by decide +kernel) rfl) (tfW_ask lWd1 hez11) ?_
      cases h
      subst hr
      refine sb_ireturn ?_
      exact ⟨.int, rfl, rfl⟩
    refine sb_tsw_out 0 8 158 ((lt_s (lt_s (lt_s (lt_s (lt_s (lt_s (lt_s (lt_s lt_0 cz14) cz15) cz16) cz17) cz18) cz19) cz20) cz21)) (by decide +kernel) ?_
    refine sb_in [(158, .iconst (-1), 1), (159, .ireturn, 1)] 160 (by decide +kernel) ?_
    refine sb_iconst cIm1 ?_
    cases h
    subst hr
    refine sb_ireturn ?_
    exact ⟨.int, rfl, rfl⟩
theorem tfK_letter {P : Px} {x1 : Int32} {x2 : Int32} {M : Mm} {rr : (Int32 × Mm)} (h : fK_letter x1 x2 M = some rr) : EX P 5 kX11_letter [.ref 0, .int x1, .int x2] (S M) (some (.int rr.1), S rr.2) := ex_of oX11_letter (Nat.le_of_ble_eq_true rfl) (nfK_letter  h rfl)
set_option maxRecDepth 20000 in
theorem nfK_given {P : Px} {x1 : Int32} {M : Mm} {rr : Int32} (h : fK_given x1 M = some rr) {r : Option Value × Sg} (hr : r = (some (.int rr), S M)) : RN P 3 kX11_given 0 [(0, .ref 0), (1, .int x1)] [] (S M) r := by
  unfold fK_given at h
  refine sb_in [(0, .iload_n 1, 1), (1, .invokestatic 118, 3), (4, .ifCond .eq 15, 3)] 7 (by decide +kernel) ?_
  refine sb_iload_n rfl ?_
  obtain ⟨qz2, hez1, h⟩ := bd h
  refine sb_callSi 1 rfl oX11_isKind ln11_118 vX11_isKind (rnCk_of (by decide +kernel) rfl) (tfK_isKind hez1) ?_
  rcases ife h with ⟨cz4, h⟩ | ⟨cz4, h⟩
  · refine sb_if_eq_t 19 cz4 (by decide) ?_
    refine sb_in [(19, .iconst (-1), 1)] 20 (by decide +kernel) ?_
    refine sb_iconst cIm1 ?_
    refine sb_end ?_
    refine sb_in [(20, .ireturn, 1)] 21 (by decide +kernel) ?_
    cases h
    subst hr
    refine sb_ireturn ?_
    exact ⟨.int, rfl, rfl⟩
  · refine sb_if_eq_f 19 cz4 (by decide) ?_
    refine sb_in [(7, .aload_n 0, 1), (8, .getfield 16, 3), (11, .getfield 232, 3), (14, .iload_n 1, 1), (15, .iaload, 1), (16, .goto 4, 3)] 19 (by decide +kernel) ?_
    refine sb_aload_n rfl ?_
    refine ss_getR g11_16 h0 r0_0 ?_
    refine ss_getR g11_232 h1 r1_2 ?_
    refine sb_iload_n rfl ?_
    obtain ⟨hgz3, h⟩ := gd h
    refine ss_iald h14 hgz3 ?_
    refine sb_goto 20 (by decide) ?_
    refine sb_in [(20, .ireturn, 1)] 21 (by decide +kernel) ?_
    cases h
    subst hr
    refine sb_ireturn ?_
    exact ⟨.int, rfl, rfl⟩
theorem tfK_given {P : Px} {x1 : Int32} {M : Mm} {rr : Int32} (h : fK_given x1 M = some rr) : EX P 3 kX11_given [.ref 0, .int x1] (S M) (some (.int rr), S M) := ex_of oX11_given (Nat.le_of_ble_eq_true rfl) (nfK_given  h rfl)
set_option maxRecDepth 20000 in
theorem nfK_book {P : Px} {x1 : Int32} {x2 : Int32} {M : Mm} {rr : Int32} (h : fK_book x1 x2 M = some rr) {r : Option Value × Sg} (hr : r = (some (.int rr), S M)) : RN P 2 kX11_book 0 [(0, .ref 0), (1, .int x1), (2, .int x2)] [] (S M) r := by
  unfold fK_book at h
  refine sb_in [(0, .iload_n 1, 1), (1, .iconst 0, 1), (2, .aload_n 0, 1), (3, .getfield 16, 3), (6, .getfield 235, 3), (9, .iconst 1, 1), (10, .isub, 1), (11, .invokestatic 91, 3), (14, .ifCond .eq 12, 3)] 17 (by decide +kernel) ?_
  refine sb_iload_n rfl ?_
  refine sb_iconst cI0 ?_
  refine sb_aload_n rfl ?_
  refine ss_getR g11_16 h0 r0_0 ?_
  refine ss_getI g11_235 h1 ?_
  refine sb_iconst cI1 ?_
  refine sb_isub ?_
  refine sb_callSi 3 rfl oX11_isWithin ln11_91 vX11_isWithin (rnCk_of (by decide +kernel) rfl) (tfK_isWithin) ?_
  rcases ife h with ⟨cz4, h⟩ | ⟨cz4, h⟩
  · refine sb_if_eq_t 26 cz4 (by decide) ?_
    refine sb_in [(26, .bipush (-2), 2), (28, .ireturn, 1)] 29 (by decide +kernel) ?_
    refine sb_bipush cBm2 ?_
    cases h
    subst hr
    refine sb_ireturn ?_
    exact ⟨.int, rfl, rfl⟩
  · refine sb_if_eq_f 26 cz4 (by decide) ?_
    refine sb_in [(17, .iload_n 2, 1), (18, .iconst 0, 1), (19, .iconst 3, 1), (20, .invokestatic 91, 3), (23, .ifCond .ne 6, 3)] 26 (by decide +kernel) ?_
    refine sb_iload_n rfl ?_
    refine sb_iconst cI0 ?_
    refine sb_iconst cI3 ?_
    refine sb_callSi 3 rfl oX11_isWithin ln11_91 vX11_isWithin (rnCk_of (by decide +kernel) rfl) (tfK_isWithin) ?_
    rcases ife h with ⟨cz5, h⟩ | ⟨cz5, h⟩
    · refine sb_if_ne_f 29 cz5 (by decide) ?_
      refine sb_in [(26, .bipush (-2), 2), (28, .ireturn, 1)] 29 (by decide +kernel) ?_
      refine sb_bipush cBm2 ?_
      cases h
      subst hr
      refine sb_ireturn ?_
      exact ⟨.int, rfl, rfl⟩
    · refine sb_if_ne_t 29 cz5 (by decide) ?_
      refine sb_in [(29, .aload_n 0, 1), (30, .getfield 16, 3), (33, .getfield 238, 3), (36, .iload_n 1, 1), (37, .iconst 4, 1), (38, .imul, 1), (39, .iload_n 2, 1), (40, .iadd, 1), (41, .iaload, 1), (42, .ireturn, 1)] 43 (by decide +kernel) ?_
      refine sb_aload_n rfl ?_
      refine ss_getR g11_16 h0 r0_0 ?_
      refine ss_getR g11_238 h1 r1_3 ?_
      refine sb_iload_n rfl ?_
      refine sb_iconst cI4 ?_
      refine sb_imul ?_
      refine sb_iload_n rfl ?_
      refine sb_iadd ?_
      obtain ⟨hgz3, h⟩ := gd h
      refine ss_iald h15 hgz3 ?_
      cases h
      subst hr
      refine sb_ireturn ?_
      exact ⟨.int, rfl, rfl⟩
theorem tfK_book {P : Px} {x1 : Int32} {x2 : Int32} {M : Mm} {rr : Int32} (h : fK_book x1 x2 M = some rr) : EX P 2 kX11_book [.ref 0, .int x1, .int x2] (S M) (some (.int rr), S M) := ex_of oX11_book (Nat.le_of_ble_eq_true rfl) (nfK_book  h rfl)
set_option maxRecDepth 20000 in
theorem nfK_goes {P : Px} {x1 : Int32} {x2 : Int32} {M : Mm} {rr : (Int32 × Mm)} (h : fK_goes x1 x2 M = some rr) {r : Option Value × Sg} (hr : r = (some (.int rr.1), S rr.2)) : RN P 8 kX11_goes 0 [(0, .ref 0), (1, .int x1), (2, .int x2)] [] (S M) r := by
  unfold fK_goes at h
  refine sb_in [(0, .iload_n 1, 1), (1, .iconst 1, 1), (2, .bipush 60, 2), (4, .invokestatic 91, 3), (7, .ifCond .eq 12, 3)] 10 (by decide +kernel) ?_
  refine sb_iload_n rfl ?_
  refine sb_iconst cI1 ?_
  refine sb_bipush cB60 ?_
  refine sb_callSi 3 rfl oX11_isWithin ln11_91 vX11_isWithin (rnCk_of (by decide +kernel) rfl) (tfK_isWithin) ?_
  rcases ife h with ⟨cz8, h⟩ | ⟨cz8, h⟩
  · refine sb_if_eq_t 19 cz8 (by decide) ?_
    refine sb_in [(19, .iconst (-1), 1), (20, .ireturn, 1)] 21 (by decide +kernel) ?_
    refine sb_iconst cIm1 ?_
    cases h
    subst hr
    refine sb_ireturn ?_
    exact ⟨.int, rfl, rfl⟩
  · refine sb_if_eq_f 19 cz8 (by decide) ?_
    refine sb_in [(10, .iload_n 2, 1), (11, .iconst 0, 1), (12, .iconst 3, 1), (13, .invokestatic 91, 3), (16, .ifCond .ne 5, 3)] 19 (by decide +kernel) ?_
    refine sb_iload_n rfl ?_
    refine sb_iconst cI0 ?_
    refine sb_iconst cI3 ?_
    refine sb_callSi 3 rfl oX11_isWithin ln11_91 vX11_isWithin (rnCk_of (by decide +kernel) rfl) (tfK_isWithin) ?_
    rcases ife h with ⟨cz9, h⟩ | ⟨cz9, h⟩
    · refine sb_if_ne_f 21 cz9 (by decide) ?_
      refine sb_in [(19, .iconst (-1), 1), (20, .ireturn, 1)] 21 (by decide +kernel) ?_
      refine sb_iconst cIm1 ?_
      cases h
      subst hr
      refine sb_ireturn ?_
      exact ⟨.int, rfl, rfl⟩
    · refine sb_if_ne_t 21 cz9 (by decide) ?_
      refine sb_in [(21, .aload_n 0, 1), (22, .getfield 20, 3), (25, .aload_n 0, 1), (26, .getfield 16, 3), (29, .invokevirtual 241, 3), (32, .iconst 0, 1), (33, .istore_n 3, 1)] 34 (by decide +kernel) ?_
      refine sb_aload_n rfl ?_
      refine ss_getR g11_20 h0 r0_1 ?_
      refine sb_aload_n rfl ?_
      refine ss_getR g11_16 h0 r0_0 ?_
      obtain ⟨Mz4, hez3, h⟩ := bd h
      refine sb_callVv 1 rfl oX10_copyFrom ln11_241 vX10_copyFrom (rc_own h16.1 (S_lt h16.2) (by decide)) (rnCk_of (by decide +kernel) rfl) (tfW_copyFrom lWd16 lWd1 hez3) ?_
      refine sb_iconst cI0 ?_
      refine sb_istore_n (by decide) rfl ?_
      refine sb_end ?_
      obtain ⟨e34, hl34, h⟩ := bd h
      refine rn_sub [0, 1, 2, 3] rfl ?_
      refine lp_ind (P := fun s => RN P 8 kX11_goes 34 [(0, .ref 0), (1, .int x1), (2, .int x2), (3, .int s.1)] [] (S s.2) r) (E := fun p => RN P 8 kX11_goes 57 [(0, .ref 0), (2, .int x2)] [] (S p) r) ?_ _ _ _ hl34 ?_
      · intro s qx h hc
        obtain ⟨x3, M⟩ := s
        replace h : fK_goes_b34 x1 x2 x3 M = some qx := h
        show RN P 8 kX11_goes 34 [(0, .ref 0), (1, .int x1), (2, .int x2), (3, .int x3)] [] (S M) r
        unfold fK_goes_b34 at h
        refine sb_in [(34, .iload_n 3, 1), (35, .iload_n 1, 1), (36, .if_icmp .ge 21, 3)] 39 (by decide +kernel) ?_
        refine sb_iload_n rfl ?_
        refine sb_iload_n rfl ?_
        rcases ife h with ⟨cz10, h⟩ | ⟨cz10, h⟩
        · refine sb_icmp_ge_t 57 cz10 (by decide) ?_
          cases h
          exact rn_sub [0, 2] rfl hc
        · refine sb_icmp_ge_f 57 cz10 (by decide) ?_
          refine sb_in [(39, .aload_n 0, 1), (40, .getfield 20, 3), (43, .aload_n 0, 1), (44, .getfield 33, 3), (47, .invokevirtual 158, 3), (50, .pop, 1), (51, .iinc 3 1, 3), (54, .goto (-20), 3)] 57 (by decide +kernel) ?_
          refine sb_aload_n rfl ?_
          refine ss_getR g11_20 h0 r0_1 ?_
          refine sb_aload_n rfl ?_
          refine ss_getR g11_33 h0 r0_3 ?_
          obtain ⟨qz6, hez5, h⟩ := bd h
          refine sb_callVi 1 rfl oX10_passDay ln11_158 vX10_passDay (rc_own h16.1 (S_lt h16.2) (by decide)) (rnCk_of (by decide +kernel) rfl) (tfW_passDay lWd16 hez5) ?_
          refine sb_pop rfl ?_
          refine ss_iinc cI1 rfl (by decide) rfl ?_
          refine sb_goto 34 (by decide) ?_
          cases h
          exact rn_sub [0, 1, 2, 3] rfl hc
      · clear hl34
        obtain ⟨Mz7, hey⟩ : ∃ z, z = e34 := ⟨_, rfl⟩
        subst hey
        show RN P 8 kX11_goes 57 [(0, .ref 0), (2, .int x2)] [] (S Mz7) r
        refine sb_in [(57, .iload_n 2, 1), (58, .tableswitch 53 0 2 #[26, 34, 42], 26)] 84 (by decide +kernel) ?_
        refine sb_iload_n rfl ?_
        rcases ife h with ⟨cz11, h⟩ | ⟨cz11, h⟩
        · refine sb_tsw_in (off := 26) 0 84 cz11 (by decide +kernel) ?_
          refine sb_in [(84, .aload_n 0, 1), (85, .getfield 20, 3), (88, .getfield 141, 3), (91, .ireturn, 1)] 92 (by decide +kernel) ?_
          refine sb_aload_n rfl ?_
          refine ss_getR g11_20 h0 r0_1 ?_
          refine ss_getI g11_141 h16 ?_
          cases h
          subst hr
          refine sb_ireturn ?_
          exact ⟨.int, rfl, rfl⟩
        rcases ife h with ⟨cz12, h⟩ | ⟨cz12, h⟩
        · refine sb_tsw_in (off := 34) 1 92 cz12 (by decide +kernel) ?_
          refine sb_in [(92, .aload_n 0, 1), (93, .getfield 20, 3), (96, .getfield 244, 3), (99, .ireturn, 1)] 100 (by decide +kernel) ?_
          refine sb_aload_n rfl ?_
          refine ss_getR g11_20 h0 r0_1 ?_
          refine ss_getI g11_244 h16 ?_
          cases h
          subst hr
          refine sb_ireturn ?_
          exact ⟨.int, rfl, rfl⟩
        rcases ife h with ⟨cz13, h⟩ | ⟨cz13, h⟩
        · refine sb_tsw_in (off := 42) 2 100 cz13 (by decide +kernel) ?_
          refine sb_in [(100, .aload_n 0, 1), (101, .getfield 20, 3), (104, .getfield 121, 3), (107, .getfield 125, 3), (110, .ireturn, 1)] 111 (by decide +kernel) ?_
          refine sb_aload_n rfl ?_
          refine ss_getR g11_20 h0 r0_1 ?_
          refine ss_getR g11_121 h16 r16_1 ?_
          refine ss_getI g11_125 h23 ?_
          cases h
          subst hr
          refine sb_ireturn ?_
          exact ⟨.int, rfl, rfl⟩
        refine sb_tsw_out 0 3 111 ((lt_s (lt_s (lt_s lt_0 cz11) cz12) cz13)) (by decide +kernel) ?_
        refine sb_in [(111, .aload_n 0, 1), (112, .getfield 20, 3), (115, .getfield 247, 3), (118, .ireturn, 1)] 119 (by decide +kernel) ?_
        refine sb_aload_n rfl ?_
        refine ss_getR g11_20 h0 r0_1 ?_
        refine ss_getI g11_247 h16 ?_
        cases h
        subst hr
        refine sb_ireturn ?_
        exact ⟨.int, rfl, rfl⟩
theorem tfK_goes {P : Px} {x1 : Int32} {x2 : Int32} {M : Mm} {rr : (Int32 × Mm)} (h : fK_goes x1 x2 M = some rr) : EX P 8 kX11_goes [.ref 0, .int x1, .int x2] (S M) (some (.int rr.1), S rr.2) := ex_of oX11_goes (Nat.le_of_ble_eq_true rfl) (nfK_goes  h rfl)
set_option maxRecDepth 20000 in
theorem nfY_measure {P : Px} {x1 : Int32} {M : Mm} {rr : Mm} (h : fY_measure x1 M = some rr) {r : Option Value × Sg} (hr : r = (none, S rr)) : RN P 2 kX9_measure 0 [(0, .ref 173), (1, .int x1), (2, .ref 123)] [] (S M) r := by
  unfold fY_measure at h
  refine sb_in [(0, .iconst 0, 1), (1, .istore_n 3, 1)] 2 (by decide +kernel) ?_
  refine sb_iconst cI0 ?_
  refine sb_istore_n (by decide) rfl ?_
  refine sb_end ?_
  obtain ⟨e2, hl2, h⟩ := bd h
  refine rn_sub [0, 1, 2, 3] rfl ?_
  refine lp_ind (P := fun s => RN P 2 kX9_measure 2 [(0, .ref 173), (1, .int x1), (2, .ref 123), (3, .int s.1)] [] (S s.2) r) (E := fun p => RN P 2 kX9_measure 74 [(0, .ref 173), (1, .int x1)] [] (S p) r) ?_ _ _ _ hl2 ?_
  · intro s qx h hc
    obtain ⟨x3, M⟩ := s
    replace h : fY_measure_b2 x1 x3 M = some qx := h
    show RN P 2 kX9_measure 2 [(0, .ref 173), (1, .int x1), (2, .ref 123), (3, .int x3)] [] (S M) r
    unfold fY_measure_b2 at h
    refine sb_in [(2, .iload_n 3, 1), (3, .iload_n 1, 1), (4, .if_icmp .ge 70, 3)] 7 (by decide +kernel) ?_
    refine sb_iload_n rfl ?_
    refine sb_iload_n rfl ?_
    rcases ife h with ⟨cz19, h⟩ | ⟨cz19, h⟩
    · refine sb_icmp_ge_t 74 cz19 (by decide) ?_
      cases h
      exact rn_sub [0, 1] rfl hc
    · refine sb_icmp_ge_f 74 cz19 (by decide) ?_
      refine sb_in [(7, .iconst 0, 1), (8, .istore 4, 2)] 10 (by decide +kernel) ?_
      refine sb_iconst cI0 ?_
      refine sb_istore (by decide) rfl ?_
      refine sb_end ?_
      obtain ⟨e10, hl10, h⟩ := bd h
      refine rn_sub [0, 1, 2, 3, 4] rfl ?_
      refine lp_ind (P := fun s => RN P 2 kX9_measure 10 [(0, .ref 173), (1, .int x1), (2, .ref 123), (3, .int x3), (4, .int s.1)] [] (S s.2) r) (E := fun p => RN P 2 kX9_measure 56 [(0, .ref 173), (1, .int x1), (2, .ref 123), (3, .int x3)] [] (S p) r) ?_ _ _ _ hl10 ?_
      · intro s qx h hc
        obtain ⟨x4, M⟩ := s
        replace h : fY_measure_b10 x1 x3 x4 M = some qx := h
        show RN P 2 kX9_measure 10 [(0, .ref 173), (1, .int x1), (2, .ref 123), (3, .int x3), (4, .int x4)] [] (S M) r
        unfold fY_measure_b10 at h
        refine sb_in [(10, .iload 4, 2), (12, .iload_n 1, 1), (13, .if_icmp .ge 43, 3)] 16 (by decide +kernel) ?_
        refine sb_iload rfl ?_
        refine sb_iload_n rfl ?_
        rcases ife h with ⟨cz20, h⟩ | ⟨cz20, h⟩
        · refine sb_icmp_ge_t 56 cz20 (by decide) ?_
          cases h
          exact rn_sub [0, 1, 2, 3] rfl hc
        · refine sb_icmp_ge_f 56 cz20 (by decide) ?_
          refine sb_in [(16, .aload_n 2, 1), (17, .iload_n 3, 1), (18, .iload 4, 2), (20, .invokevirtual 66, 3), (23, .istore 5, 2), (25, .aload_n 0, 1), (26, .getfield 11, 3), (29, .iload_n 3, 1), (30, .bipush 12, 2), (32, .imul, 1), (33, .iload 4, 2), (35, .iadd, 1), (36, .iload 5, 2), (38, .iconst (-1), 1), (39, .if_icmp .ne 8, 3)] 42 (by decide +kernel) ?_
          refine sb_aload_n rfl ?_
          refine sb_iload_n rfl ?_
          refine sb_iload rfl ?_
          obtain ⟨qz2, hez1, h⟩ := bd h
          refine sb_callVi 2 rfl oX6_streetBetween ln9_66 vX6_streetBetween (rc_own h123.1 (S_lt h123.2) (by decide)) (rnCk_of (by decide +kernel) rfl) (tfT_streetBetween hez1) ?_
          refine sb_istore (by decide) rfl ?_
          refine sb_aload_n rfl ?_
          refine ss_getR g9_11 h173 r173_0 ?_
          refine sb_iload_n rfl ?_
          refine sb_bipush cB12 ?_
          refine sb_imul ?_
          refine sb_iload rfl ?_
          refine sb_iadd ?_
          refine sb_iload rfl ?_
          refine sb_iconst cIm1 ?_
          have hJ49 : RN P 2 kX9_measure 49 [(0, .ref 173), (1, .int x1), (2, .ref 123), (3, .int x3), (4, .int x4)] [.int (if qz2 = (-1) then (1000000 : Int32) else qz2), .int ((x3 * 12) + x4), .ref 174] (S M) r := by
            refine sb_in [(49, .iastore, 1), (50, .iinc 4 1, 3), (53, .goto (-43), 3)] 56 (by decide +kernel) ?_
            obtain ⟨hgz4, h⟩ := gd h
            refine ss_iast h174 (by decide) hgz4 ?_
            refine ss_iinc cI1 rfl (by decide) rfl ?_
            refine sb_goto 10 (by decide) ?_
            cases h
            exact rn_sub [0, 1, 2, 3, 4] rfl hc
          rcases Decidable.em (qz2 = (-1)) with cz21 | cz21
          · refine sb_icmp_ne_f 47 cz21 (by decide) ?_
            refine sb_in [(42, .ldc 55, 2), (44, .goto 5, 3)] 47 (by decide +kernel) ?_
            refine sb_ldc (v := 1000000) rfl ?_
            refine sb_goto 49 (by decide) ?_
            have hq := hJ49
            simp only [if_pos cz21] at hq
            exact rn_sub [0, 1, 2, 3, 4] rfl hq
          · refine sb_icmp_ne_t 47 cz21 (by decide) ?_
            refine sb_in [(47, .iload 5, 2)] 49 (by decide +kernel) ?_
            refine sb_iload rfl ?_
            refine sb_end ?_
            have hq := hJ49
            simp only [if_neg cz21] at hq
            exact rn_sub [0, 1, 2, 3, 4] rfl hq
      · clear hl10
        obtain ⟨Mz5, hey⟩ : ∃ z, z = e10 := ⟨_, rfl⟩
        subst hey
        show RN P 2 kX9_measure 56 [(0, .ref 173), (1, .int x1), (2, .ref 123), (3, .int x3)] [] (S Mz5) r
        refine sb_in [(56, .aload_n 0, 1), (57, .getfield 11, 3), (60, .iload_n 3, 1), (61, .bipush 12, 2), (63, .imul, 1), (64, .iload_n 3, 1), (65, .iadd, 1), (66, .iconst 0, 1), (67, .iastore, 1), (68, .iinc 3 1, 3), (71, .goto (-69), 3)] 74 (by decide +kernel) ?_
        refine sb_aload_n rfl ?_
        refine ss_getR g9_11 h173 r173_0 ?_
        refine sb_iload_n rfl ?_
        refine sb_bipush cB12 ?_
        refine sb_imul ?_
        refine sb_iload_n rfl ?_
        refine sb_iadd ?_
        refine sb_iconst cI0 ?_
        obtain ⟨hgz7, h⟩ := gd h
        refine ss_iast h174 (by decide) hgz7 ?_
        refine ss_iinc cI1 rfl (by decide) rfl ?_
        refine sb_goto 2 (by decide) ?_
        cases h
        exact rn_sub [0, 1, 2, 3] rfl hc
  · clear hl2
    obtain ⟨Mz8, hey⟩ : ∃ z, z = e2 := ⟨_, rfl⟩
    subst hey
    show RN P 2 kX9_measure 74 [(0, .ref 173), (1, .int x1)] [] (S Mz8) r
    refine sb_in [(74, .iconst 0, 1), (75, .istore_n 3, 1)] 76 (by decide +kernel) ?_
    refine sb_iconst cI0 ?_
    refine sb_istore_n (by decide) rfl ?_
    refine sb_end ?_
    obtain ⟨e76, hl76, h⟩ := bd h
    refine rn_sub [0, 1, 3] rfl ?_
    refine lp_ind (P := fun s => RN P 2 kX9_measure 76 [(0, .ref 173), (1, .int x1), (3, .int s.1)] [] (S s.2) r) (E := fun p => RN P 2 kX9_measure 179 [] [] (S p) r) ?_ _ _ _ hl76 ?_
    · intro s qx h hc
      obtain ⟨x3, M⟩ := s
      replace h : fY_measure_b76 x1 x3 M = some qx := h
      show RN P 2 kX9_measure 76 [(0, .ref 173), (1, .int x1), (3, .int x3)] [] (S M) r
      unfold fY_measure_b76 at h
      refine sb_in [(76, .iload_n 3, 1), (77, .iload_n 1, 1), (78, .if_icmp .ge 101, 3)] 81 (by decide +kernel) ?_
      refine sb_iload_n rfl ?_
      refine sb_iload_n rfl ?_
      rcases ife h with ⟨cz22, h⟩ | ⟨cz22, h⟩
      · refine sb_icmp_ge_t 179 cz22 (by decide) ?_
        cases h
        exact rn_sub [] rfl hc
      · refine sb_icmp_ge_f 179 cz22 (by decide) ?_
        refine sb_in [(81, .iconst 0, 1), (82, .istore 4, 2)] 84 (by decide +kernel) ?_
        refine sb_iconst cI0 ?_
        refine sb_istore (by decide) rfl ?_
        refine sb_end ?_
        obtain ⟨e84, hl84, h⟩ := bd h
        refine rn_sub [0, 1, 3, 4] rfl ?_
        refine lp_ind (P := fun s => RN P 2 kX9_measure 84 [(0, .ref 173), (1, .int x1), (3, .int x3), (4, .int s.1)] [] (S s.2) r) (E := fun p => RN P 2 kX9_measure 173 [(0, .ref 173), (1, .int x1), (3, .int x3)] [] (S p) r) ?_ _ _ _ hl84 ?_
        · intro s qx h hc
          obtain ⟨x4, M⟩ := s
          replace h : fY_measure_b84 x1 x3 x4 M = some qx := h
          show RN P 2 kX9_measure 84 [(0, .ref 173), (1, .int x1), (3, .int x3), (4, .int x4)] [] (S M) r
          unfold fY_measure_b84 at h
          refine sb_in [(84, .iload 4, 2), (86, .iload_n 1, 1), (87, .if_icmp .ge 86, 3)] 90 (by decide +kernel) ?_
          refine sb_iload rfl ?_
          refine sb_iload_n rfl ?_
          rcases ife h with ⟨cz23, h⟩ | ⟨cz23, h⟩
          · refine sb_icmp_ge_t 173 cz23 (by decide) ?_
            cases h
            exact rn_sub [0, 1, 3] rfl hc
          · refine sb_icmp_ge_f 173 cz23 (by decide) ?_
            refine sb_in [(90, .iconst 0, 1), (91, .istore 5, 2)] 93 (by decide +kernel) ?_
            refine sb_iconst cI0 ?_
            refine sb_istore (by decide) rfl ?_
            refine sb_end ?_
            obtain ⟨e93, hl93, h⟩ := bd h
            refine rn_sub [0, 1, 3, 4, 5] rfl ?_
            refine lp_ind (P := fun s => RN P 2 kX9_measure 93 [(0, .ref 173), (1, .int x1), (3, .int x3), (4, .int x4), (5, .int s.1)] [] (S s.2) r) (E := fun p => RN P 2 kX9_measure 167 [(0, .ref 173), (1, .int x1), (3, .int x3), (4, .int x4)] [] (S p) r) ?_ _ _ _ hl93 ?_
            · intro s qx h hc
              obtain ⟨x5, M⟩ := s
              replace h : fY_measure_b93 x1 x3 x4 x5 M = some qx := h
              show RN P 2 kX9_measure 93 [(0, .ref 173), (1, .int x1), (3, .int x3), (4, .int x4), (5, .int x5)] [] (S M) r
              unfold fY_measure_b93 at h
              refine sb_in [(93, .iload 5, 2), (95, .iload_n 1, 1), (96, .if_icmp .ge 71, 3)] 99 (by decide +kernel) ?_
              refine sb_iload rfl ?_
              refine sb_iload_n rfl ?_
              rcases ife h with ⟨cz24, h⟩ | ⟨cz24, h⟩
              · refine sb_icmp_ge_t 167 cz24 (by decide) ?_
                cases h
                exact rn_sub [0, 1, 3, 4] rfl hc
              · refine sb_icmp_ge_f 167 cz24 (by decide) ?_
                refine sb_in [(99, .aload_n 0, 1), (100, .getfield 11, 3), (103, .iload 4, 2), (105, .bipush 12, 2), (107, .imul, 1), (108, .iload_n 3, 1), (109, .iadd, 1), (110, .iaload, 1), (111, .aload_n 0, 1), (112, .getfield 11, 3), (115, .iload_n 3, 1), (116, .bipush 12, 2), (118, .imul, 1), (119, .iload 5, 2), (121, .iadd, 1), (122, .iaload, 1), (123, .iadd, 1), (124, .istore 6, 2), (126, .aload_n 0, 1), (127, .getfield 11, 3), (130, .iload 4, 2), (132, .bipush 12, 2), (134, .imul, 1), (135, .iload 5, 2), (137, .iadd, 1), (138, .iaload, 1), (139, .istore 7, 2), (141, .aload_n 0, 1), (142, .getfield 11, 3), (145, .iload 4, 2), (147, .bipush 12, 2), (149, .imul, 1), (150, .iload 5, 2), (152, .iadd, 1), (153, .iload 7, 2), (155, .iload 6, 2), (157, .invokestatic 72, 3), (160, .iastore, 1), (161, .iinc 5 1, 3), (164, .goto (-71), 3)] 167 (by decide +kernel) ?_
                refine sb_aload_n rfl ?_
                refine ss_getR g9_11 h173 r173_0 ?_
                refine sb_iload rfl ?_
                refine sb_bipush cB12 ?_
                refine sb_imul ?_
                refine sb_iload_n rfl ?_
                refine sb_iadd ?_
                obtain ⟨hgz9, h⟩ := gd h
                refine ss_iald h174 hgz9 ?_
                refine sb_aload_n rfl ?_
                refine ss_getR g9_11 h173 r173_0 ?_
                refine sb_iload_n rfl ?_
                refine sb_bipush cB12 ?_
                refine sb_imul ?_
                refine sb_iload rfl ?_
                refine sb_iadd ?_
                obtain ⟨hgz10, h⟩ := gd h
                refine ss_iald h174 hgz10 ?_
                refine sb_iadd ?_
                refine sb_istore (by decide) rfl ?_
                refine sb_aload_n rfl ?_
                refine ss_getR g9_11 h173 r173_0 ?_
                refine sb_iload rfl ?_
                refine sb_bipush cB12 ?_
                refine sb_imul ?_
                refine sb_iload rfl ?_
                refine sb_iadd ?_
                obtain ⟨hgz12, h⟩ := gd h
                refine ss_iald h174 hgz12 ?_
                refine sb_istore (by decide) rfl ?_
                refine sb_aload_n rfl ?_
                refine ss_getR g9_11 h173 r173_0 ?_
                refine sb_iload rfl ?_
                refine sb_bipush cB12 ?_
                refine sb_imul ?_
                refine sb_iload rfl ?_
                refine sb_iadd ?_
                refine sb_iload rfl ?_
                refine sb_iload rfl ?_
                refine sb_min lm9_72 minS maI minC (by decide) rfl ?_
                obtain ⟨hgz15, h⟩ := gd h
                refine ss_iast h174 (by decide) hgz15 ?_
                refine ss_iinc cI1 rfl (by decide) rfl ?_
                refine sb_goto 93 (by decide) ?_
                cases h
                exact rn_sub [0, 1, 3, 4, 5] rfl hc
            · clear hl93
              obtain ⟨Mz16, hey⟩ : ∃ z, z = e93 := ⟨_, rfl⟩
              subst hey
              show RN P 2 kX9_measure 167 [(0, .ref 173), (1, .int x1), (3, .int x3), (4, .int x4)] [] (S Mz16) r
              refine sb_in [(167, .iinc 4 1, 3), (170, .goto (-86), 3)] 173 (by decide +kernel) ?_
              refine ss_iinc cI1 rfl (by decide) rfl ?_
              refine sb_goto 84 (by decide) ?_
              cases h
              exact rn_sub [0, 1, 3, 4] rfl hc
        · clear hl84
          obtain ⟨Mz17, hey⟩ : ∃ z, z = e84 := ⟨_, rfl⟩
          subst hey
          show RN P 2 kX9_measure 173 [(0, .ref 173), (1, .int x1), (3, .int x3)] [] (S Mz17) r
          refine sb_in [(173, .iinc 3 1, 3), (176, .goto (-100), 3)] 179 (by decide +kernel) ?_
          refine ss_iinc cI1 rfl (by decide) rfl ?_
          refine sb_goto 76 (by decide) ?_
          cases h
          exact rn_sub [0, 1, 3] rfl hc
    · clear hl76
      obtain ⟨Mz18, hey⟩ : ∃ z, z = e76 := ⟨_, rfl⟩
      subst hey
      show RN P 2 kX9_measure 179 [] [] (S Mz18) r
      refine sb_in [(179, .return_, 1)] 180 (by decide +kernel) ?_
      cases h
      subst hr
      refine sb_return ?_
      exact rfl
theorem tfY_measure {P : Px} {x1 : Int32} {M : Mm} {rr : Mm} (h : fY_measure x1 M = some rr) : EX P 2 kX9_measure [.ref 173, .int x1, .ref 123] (S M) (none, S rr) := ex_of oX9_measure (Nat.le_of_ble_eq_true rfl) (nfY_measure  h rfl)
set_option maxRecDepth 20000 in
theorem nfJ_rangeCheck_23922 {P : Px} {x0 : Int32} {x1 : Int32} {x2 : Int32} {M : Mm} {rr : Unit} (h : fJ_rangeCheck_23922 x0 x1 x2 = some rr) {r : Option Value × Sg} (hr : r = (none, S M)) : RN P 1 kJ7_rangeCheck_23922 0 [(0, .int x0), (1, .int x1), (2, .int x2)] [] (S M) r := by
  unfold fJ_rangeCheck_23922 at h
  refine sb_in [(0, .iload_n 1, 1), (1, .iload_n 2, 1), (2, .if_icmp .le 44, 3)] 5 (by decide +kernel) ?_
  refine sb_iload_n rfl ?_
  refine sb_iload_n rfl ?_
  rcases ife h with ⟨cz1, h⟩ | ⟨cz1, h⟩
  · refine sb_icmp_le_t 46 cz1 (by decide) ?_
    refine sb_in [(46, .iload_n 1, 1), (47, .ifCond .ge 12, 3)] 50 (by decide +kernel) ?_
    refine sb_iload_n rfl ?_
    rcases ife h with ⟨cz2, h⟩ | ⟨cz2, h⟩
    · refine sb_if_ge_t 59 cz2 (by decide) ?_
      refine sb_in [(59, .iload_n 2, 1), (60, .iload_n 0, 1), (61, .if_icmp .le 12, 3)] 64 (by decide +kernel) ?_
      refine sb_iload_n rfl ?_
      refine sb_iload_n rfl ?_
      rcases ife h with ⟨cz3, h⟩ | ⟨cz3, h⟩
      · refine sb_icmp_le_t 73 cz3 (by decide) ?_
        refine sb_in [(73, .return_, 1)] 74 (by decide +kernel) ?_
        cases h
        subst hr
        refine sb_return ?_
        exact rfl
      · refine sb_icmp_le_f 73 cz3 (by decide) ?_
        cases h
    · refine sb_if_ge_f 59 cz2 (by decide) ?_
      cases h
  · refine sb_icmp_le_f 46 cz1 (by decide) ?_
    cases h
theorem tfJ_rangeCheck_23922 {P : Px} {x0 : Int32} {x1 : Int32} {x2 : Int32} {M : Mm} {rr : Unit} (h : fJ_rangeCheck_23922 x0 x1 x2 = some rr) : EX P 1 kJ7_rangeCheck_23922 [.int x0, .int x1, .int x2] (S M) (none, S M) := ex_of oJ7_rangeCheck_23922 (Nat.le_of_ble_eq_true rfl) (nfJ_rangeCheck_23922  h rfl)
set_option maxRecDepth 20000 in
theorem nfJ_fill_fda19 {P : Px} {x1 : Int32} {x2 : Int32} {x3 : Int32} {M : Mm} {rr : Mm} (h : fJ_fill_fda19 x1 x2 x3 M = some rr) {r : Option Value × Sg} (hr : r = (none, S rr)) : RN P 2 kJ7_fill_fda19 0 [(0, .ref 252), (1, .int x1), (2, .int x2), (3, .int x3)] [] (S M) r := by
  unfold fJ_fill_fda19 at h
  refine sb_in [(0, .aload_n 0, 1), (1, .arraylength, 1), (2, .iload_n 1, 1), (3, .iload_n 2, 1), (4, .invokestatic 13, 3), (7, .iload_n 1, 1), (8, .istore 4, 2)] 10 (by decide +kernel) ?_
  refine sb_aload_n rfl ?_
  obtain ⟨hgz1, h⟩ := gd h
  refine ss_alenD hgz1 ?_
  refine sb_iload_n rfl ?_
  refine sb_iload_n rfl ?_
  obtain ⟨uz3, hez2, h⟩ := bd h
  refine sb_callSv 3 rfl oJ7_rangeCheck_23922 ln17_13 vJ7_rangeCheck_23922 (rnCk_of (by decide +kernel) rfl) (tfJ_rangeCheck_23922 hez2) ?_
  refine sb_iload_n rfl ?_
  refine sb_istore (by decide) rfl ?_
  refine sb_end ?_
  obtain ⟨e10, hl10, h⟩ := bd h
  refine rn_sub [0, 2, 3, 4] rfl ?_
  refine lp_ind (P := fun s => RN P 2 kJ7_fill_fda19 10 [(0, .ref 252), (2, .int x2), (3, .int x3), (4, .int s.1)] [] (S s.2) r) (E := fun p => RN P 2 kJ7_fill_fda19 27 [] [] (S p) r) ?_ _ _ _ hl10 ?_
  · intro s qx h hc
    obtain ⟨x4, M⟩ := s
    replace h : fJ_fill_fda19_b10 x2 x3 x4 M = some qx := h
    show RN P 2 kJ7_fill_fda19 10 [(0, .ref 252), (2, .int x2), (3, .int x3), (4, .int x4)] [] (S M) r
    unfold fJ_fill_fda19_b10 at h
    refine sb_in [(10, .iload 4, 2), (12, .iload_n 2, 1), (13, .if_icmp .ge 14, 3)] 16 (by decide +kernel) ?_
    refine sb_iload rfl ?_
    refine sb_iload_n rfl ?_
    rcases ife h with ⟨cz7, h⟩ | ⟨cz7, h⟩
    · refine sb_icmp_ge_t 27 cz7 (by decide) ?_
      cases h
      exact rn_sub [] rfl hc
    · refine sb_icmp_ge_f 27 cz7 (by decide) ?_
      refine sb_in [(16, .aload_n 0, 1), (17, .iload 4, 2), (19, .iload_n 3, 1), (20, .iastore, 1), (21, .iinc 4 1, 3), (24, .goto (-14), 3)] 27 (by decide +kernel) ?_
      refine sb_aload_n rfl ?_
      refine sb_iload rfl ?_
      refine sb_iload_n rfl ?_
      obtain ⟨hgz5, h⟩ := gd h
      refine ss_iastD hgz5 ?_
      refine ss_iinc cI1 rfl (by decide) rfl ?_
      refine sb_goto 10 (by decide) ?_
      cases h
      exact rn_sub [0, 2, 3, 4] rfl hc
  · clear hl10
    obtain ⟨Mz6, hey⟩ : ∃ z, z = e10 := ⟨_, rfl⟩
    subst hey
    show RN P 2 kJ7_fill_fda19 27 [] [] (S Mz6) r
    refine sb_in [(27, .return_, 1)] 28 (by decide +kernel) ?_
    cases h
    subst hr
    refine sb_return ?_
    exact rfl
theorem tfJ_fill_fda19 {P : Px} {x1 : Int32} {x2 : Int32} {x3 : Int32} {M : Mm} {rr : Mm} (h : fJ_fill_fda19 x1 x2 x3 M = some rr) : EX P 2 kJ7_fill_fda19 [.ref 252, .int x1, .int x2, .int x3] (S M) (none, S rr) := ex_of oJ7_fill_fda19 (Nat.le_of_ble_eq_true rfl) (nfJ_fill_fda19  h rfl)
set_option maxRecDepth 20000 in
theorem nfY_walkOn {P : Px} {x1 : Int32} {x2 : Int32} {x3 : Int32} {M : Mm} {rr : Mm} (h : fY_walkOn x1 x2 x3 M = some rr) {r : Option Value × Sg} (hr : r = (none, S rr)) : RN P 1 kX9_walkOn 0 [(0, .ref 173), (1, .int x1), (2, .int x2), (3, .int x3), (4, .ref 252)] [] (S M) r := by
  unfold fY_walkOn at h
  refine sb_in [(0, .aload 4, 2), (2, .iload_n 1, 1), (3, .bipush 8, 2), (5, .imul, 1), (6, .iload_n 2, 1), (7, .iadd, 1), (8, .iaload, 1), (9, .istore 5, 2), (11, .iconst 0, 1), (12, .istore 6, 2)] 14 (by decide +kernel) ?_
  refine sb_aload rfl ?_
  refine sb_iload_n rfl ?_
  refine sb_bipush cB8 ?_
  refine sb_imul ?_
  refine sb_iload_n rfl ?_
  refine sb_iadd ?_
  obtain ⟨hgz1, h⟩ := gd h
  refine ss_ialdD hgz1 ?_
  refine sb_istore (by decide) rfl ?_
  refine sb_iconst cI0 ?_
  refine sb_istore (by decide) rfl ?_
  refine sb_end ?_
  obtain ⟨e14, hl14, h⟩ := bd h
  refine rn_sub [0, 1, 2, 3, 4, 5, 6] rfl ?_
  refine lp_ind (P := fun s => RN P 1 kX9_walkOn 14 [(0, .ref 173), (1, .int x1), (2, .int x2), (3, .int x3), (4, .ref 252), (5, .int ((M 252 (jix ((x1 * 8) + x2))))), (6, .int s.1)] [] (S s.2) r) (E := fun p => RN P 1 kX9_walkOn 93 [] [] (S p) r) ?_ _ _ _ hl14 ?_
  · intro s qx h hc
    replace h : fY_walkOn_b14 x1 x2 x3 ((M 252 (jix ((x1 * 8) + x2)))) s.1 s.2 = some qx := h
    show RN P 1 kX9_walkOn 14 [(0, .ref 173), (1, .int x1), (2, .int x2), (3, .int x3), (4, .ref 252), (5, .int ((M 252 (jix ((x1 * 8) + x2))))), (6, .int s.1)] [] (S s.2) r
    generalize ((M 252 (jix ((x1 * 8) + x2)))) = x5 at h hc ⊢
    obtain ⟨x6, M⟩ := s
    replace h : fY_walkOn_b14 x1 x2 x3 x5 x6 M = some qx := h
    show RN P 1 kX9_walkOn 14 [(0, .ref 173), (1, .int x1), (2, .int x2), (3, .int x3), (4, .ref 252), (5, .int x5), (6, .int x6)] [] (S M) r
    unfold fY_walkOn_b14 at h
    refine sb_in [(14, .iload 6, 2), (16, .iload_n 3, 1), (17, .if_icmp .ge 76, 3)] 20 (by decide +kernel) ?_
    refine sb_iload rfl ?_
    refine sb_iload_n rfl ?_
    rcases ife h with ⟨cz13, h⟩ | ⟨cz13, h⟩
    · refine sb_icmp_ge_t 93 cz13 (by decide) ?_
      cases h
      exact rn_sub [] rfl hc
    · refine sb_icmp_ge_f 93 cz13 (by decide) ?_
      refine sb_in [(20, .iload_n 1, 1), (21, .iconst 1, 1), (22, .iload 6, 2), (24, .ishl, 1), (25, .ior, 1), (26, .bipush 8, 2), (28, .imul, 1), (29, .iload 6, 2), (31, .iadd, 1), (32, .istore 7, 2), (34, .iload 5, 2), (36, .aload_n 0, 1), (37, .getfield 11, 3), (40, .aload_n 0, 1), (41, .getfield 15, 3), (44, .iload_n 2, 1), (45, .iaload, 1), (46, .bipush 12, 2), (48, .imul, 1), (49, .aload_n 0, 1), (50, .getfield 15, 3), (53, .iload 6, 2), (55, .iaload, 1), (56, .iadd, 1), (57, .iaload, 1), (58, .iadd, 1), (59, .istore 8, 2), (61, .iload_n 1, 1), (62, .iload 6, 2), (64, .ishr, 1), (65, .iconst 1, 1), (66, .iand, 1), (67, .ifCond .ne 20, 3)] 70 (by decide +kernel) ?_
      refine sb_iload_n rfl ?_
      refine sb_iconst cI1 ?_
      refine sb_iload rfl ?_
      refine sb_ishl ?_
      refine sb_ior ?_
      refine sb_bipush cB8 ?_
      refine sb_imul ?_
      refine sb_iload rfl ?_
      refine sb_iadd ?_
      refine sb_istore (by decide) rfl ?_
      refine sb_iload rfl ?_
      refine sb_aload_n rfl ?_
      refine ss_getR g9_11 h173 r173_0 ?_
      refine sb_aload_n rfl ?_
      refine ss_getR g9_15 h173 r173_1 ?_
      refine sb_iload_n rfl ?_
      obtain ⟨hgz4, h⟩ := gd h
      refine ss_iald h175 hgz4 ?_
      refine sb_bipush cB12 ?_
      refine sb_imul ?_
      refine sb_aload_n rfl ?_
      refine ss_getR g9_15 h173 r173_1 ?_
      refine sb_iload rfl ?_
      obtain ⟨hgz5, h⟩ := gd h
      refine ss_iald h175 hgz5 ?_
      refine sb_iadd ?_
      obtain ⟨hgz6, h⟩ := gd h
      refine ss_iald h174 hgz6 ?_
      refine sb_iadd ?_
      refine sb_istore (by decide) rfl ?_
      refine sb_iload_n rfl ?_
      refine sb_iload rfl ?_
      refine sb_ishr ?_
      refine sb_iconst cI1 ?_
      refine sb_iand ?_
      obtain ⟨Mz11, hj87, h⟩ := bd h
      have hJ87 : RN P 1 kX9_walkOn 87 [(0, .ref 173), (1, .int x1), (2, .int x2), (3, .int x3), (4, .ref 252), (5, .int x5), (6, .int x6)] [] (S Mz11) r := by
        refine sb_in [(87, .iinc 6 1, 3), (90, .goto (-76), 3)] 93 (by decide +kernel) ?_
        refine ss_iinc cI1 rfl (by decide) rfl ?_
        refine sb_goto 14 (by decide) ?_
        cases h
        exact rn_sub [0, 1, 2, 3, 4, 5, 6] rfl hc
      clear h
      have h := hj87
      clear hj87
      rcases ife h with ⟨cz14, h⟩ | ⟨cz14, h⟩
      · refine sb_if_ne_f 87 cz14 (by decide) ?_
        refine sb_in [(70, .iload 8, 2), (72, .aload 4, 2), (74, .iload 7, 2), (76, .iaload, 1), (77, .if_icmp .ge 10, 3)] 80 (by decide +kernel) ?_
        refine sb_iload rfl ?_
        refine sb_aload rfl ?_
        refine sb_iload rfl ?_
        obtain ⟨hgz8, h⟩ := gd h
        refine ss_ialdD hgz8 ?_
        rcases ife h with ⟨cz15, h⟩ | ⟨cz15, h⟩
        · refine sb_icmp_ge_t 87 cz15 (by decide) ?_
          cases h
          exact rn_sub [0, 1, 2, 3, 4, 5, 6] rfl hJ87
        · refine sb_icmp_ge_f 87 cz15 (by decide) ?_
          refine sb_in [(80, .aload 4, 2), (82, .iload 7, 2), (84, .iload 8, 2), (86, .iastore, 1)] 87 (by decide +kernel) ?_
          refine sb_aload rfl ?_
          refine sb_iload rfl ?_
          refine sb_iload rfl ?_
          obtain ⟨hgz10, h⟩ := gd h
          refine ss_iastD hgz10 ?_
          refine sb_end ?_
          cases h
          exact rn_sub [0, 1, 2, 3, 4, 5, 6] rfl hJ87
      · refine sb_if_ne_t 87 cz14 (by decide) ?_
        cases h
        exact rn_sub [0, 1, 2, 3, 4, 5, 6] rfl hJ87
  · clear hl14
    obtain ⟨Mz12, hey⟩ : ∃ z, z = e14 := ⟨_, rfl⟩
    subst hey
    show RN P 1 kX9_walkOn 93 [] [] (S Mz12) r
    refine sb_in [(93, .return_, 1)] 94 (by decide +kernel) ?_
    cases h
    subst hr
    refine sb_return ?_
    exact rfl
theorem tfY_walkOn {P : Px} {x1 : Int32} {x2 : Int32} {x3 : Int32} {M : Mm} {rr : Mm} (h : fY_walkOn x1 x2 x3 M = some rr) : EX P 1 kX9_walkOn [.ref 173, .int x1, .int x2, .int x3, .ref 252] (S M) (none, S rr) := ex_of oX9_walkOn (Nat.le_of_ble_eq_true rfl) (nfY_walkOn  h rfl)
set_option maxRecDepth 20000 in
theorem nfY_walkSets {P : Px} {x1 : Int32} {x2 : Int32} {M : Mm} {rr : Mm} (h : fY_walkSets x1 x2 M = some rr) {r : Option Value × Sg} (hr : r = (none, S rr)) : RN P 3 kX9_walkSets 0 [(0, .ref 173), (1, .int x1), (2, .int x2), (3, .ref 252)] [] (S M) r := by
  unfold fY_walkSets at h
  refine sb_in [(0, .aload_n 3, 1), (1, .iconst 0, 1), (2, .bipush 8, 2), (4, .iload_n 2, 1), (5, .ishl, 1), (6, .ldc 55, 2), (8, .invokestatic 56, 3), (11, .iconst 0, 1), (12, .istore 4, 2)] 14 (by decide +kernel) ?_
  refine sb_aload_n rfl ?_
  refine sb_iconst cI0 ?_
  refine sb_bipush cB8 ?_
  refine sb_iload_n rfl ?_
  refine sb_ishl ?_
  refine sb_ldc (v := 1000000) rfl ?_
  obtain ⟨Mz2, hez1, h⟩ := bd h
  refine sb_callSv 4 rfl oJ7_fill_fda19 ln9_56 vJ7_fill_fda19 (rnCk_of (by decide +kernel) rfl) (tfJ_fill_fda19 hez1) ?_
  refine sb_iconst cI0 ?_
  refine sb_istore (by decide) rfl ?_
  refine sb_end ?_
  obtain ⟨e14, hl14, h⟩ := bd h
  refine rn_sub [0, 1, 2, 3, 4] rfl ?_
  refine lp_ind (P := fun s => RN P 3 kX9_walkSets 14 [(0, .ref 173), (1, .int x1), (2, .int x2), (3, .ref 252), (4, .int s.1)] [] (S s.2) r) (E := fun p => RN P 3 kX9_walkSets 55 [(0, .ref 173), (2, .int x2), (3, .ref 252)] [] (S p) r) ?_ _ _ _ hl14 ?_
  · intro s qx h hc
    obtain ⟨x4, M⟩ := s
    replace h : fY_walkSets_b14 x1 x2 x4 M = some qx := h
    show RN P 3 kX9_walkSets 14 [(0, .ref 173), (1, .int x1), (2, .int x2), (3, .ref 252), (4, .int x4)] [] (S M) r
    unfold fY_walkSets_b14 at h
    refine sb_in [(14, .iload 4, 2), (16, .iload_n 2, 1), (17, .if_icmp .ge 38, 3)] 20 (by decide +kernel) ?_
    refine sb_iload rfl ?_
    refine sb_iload_n rfl ?_
    rcases ife h with ⟨cz14, h⟩ | ⟨cz14, h⟩
    · refine sb_icmp_ge_t 55 cz14 (by decide) ?_
      cases h
      exact rn_sub [0, 2, 3] rfl hc
    · refine sb_icmp_ge_f 55 cz14 (by decide) ?_
      refine sb_in [(20, .aload_n 3, 1), (21, .iconst 1, 1), (22, .iload 4, 2), (24, .ishl, 1), (25, .bipush 8, 2), (27, .imul, 1), (28, .iload 4, 2), (30, .iadd, 1), (31, .aload_n 0, 1), (32, .getfield 11, 3), (35, .iload_n 1, 1), (36, .bipush 12, 2), (38, .imul, 1), (39, .aload_n 0, 1), (40, .getfield 15, 3), (43, .iload 4, 2), (45, .iaload, 1), (46, .iadd, 1), (47, .iaload, 1), (48, .iastore, 1), (49, .iinc 4 1, 3), (52, .goto (-38), 3)] 55 (by decide +kernel) ?_
      refine sb_aload_n rfl ?_
      refine sb_iconst cI1 ?_
      refine sb_iload rfl ?_
      refine sb_ishl ?_
      refine sb_bipush cB8 ?_
      refine sb_imul ?_
      refine sb_iload rfl ?_
      refine sb_iadd ?_
      refine sb_aload_n rfl ?_
      refine ss_getR g9_11 h173 r173_0 ?_
      refine sb_iload_n rfl ?_
      refine sb_bipush cB12 ?_
      refine sb_imul ?_
      refine sb_aload_n rfl ?_
      refine ss_getR g9_15 h173 r173_1 ?_
      refine sb_iload rfl ?_
      obtain ⟨hgz3, h⟩ := gd h
      refine ss_iald h175 hgz3 ?_
      refine sb_iadd ?_
      obtain ⟨hgz4, h⟩ := gd h
      refine ss_iald h174 hgz4 ?_
      obtain ⟨hgz6, h⟩ := gd h
      refine ss_iastD hgz6 ?_
      refine ss_iinc cI1 rfl (by decide) rfl ?_
      refine sb_goto 14 (by decide) ?_
      cases h
      exact rn_sub [0, 1, 2, 3, 4] rfl hc
  · clear hl14
    obtain ⟨Mz7, hey⟩ : ∃ z, z = e14 := ⟨_, rfl⟩
    subst hey
    show RN P 3 kX9_walkSets 55 [(0, .ref 173), (2, .int x2), (3, .ref 252)] [] (S Mz7) r
    refine sb_in [(55, .iconst 1, 1), (56, .istore 4, 2)] 58 (by decide +kernel) ?_
    refine sb_iconst cI1 ?_
    refine sb_istore (by decide) rfl ?_
    refine sb_end ?_
    obtain ⟨e58, hl58, h⟩ := bd h
    refine rn_sub [0, 2, 3, 4] rfl ?_
    refine lp_ind (P := fun s => RN P 3 kX9_walkSets 58 [(0, .ref 173), (2, .int x2), (3, .ref 252), (4, .int s.1)] [] (S s.2) r) (E := fun p => RN P 3 kX9_walkSets 112 [] [] (S p) r) ?_ _ _ _ hl58 ?_
    · intro s qx h hc
      obtain ⟨x4, M⟩ := s
      replace h : fY_walkSets_b58 x2 x4 M = some qx := h
      show RN P 3 kX9_walkSets 58 [(0, .ref 173), (2, .int x2), (3, .ref 252), (4, .int x4)] [] (S M) r
      unfold fY_walkSets_b58 at h
      refine sb_in [(58, .iload 4, 2), (60, .iconst 1, 1), (61, .iload_n 2, 1), (62, .ishl, 1), (63, .if_icmp .ge 49, 3)] 66 (by decide +kernel) ?_
      refine sb_iload rfl ?_
      refine sb_iconst cI1 ?_
      refine sb_iload_n rfl ?_
      refine sb_ishl ?_
      rcases ife h with ⟨cz15, h⟩ | ⟨cz15, h⟩
      · refine sb_icmp_ge_t 112 cz15 (by decide) ?_
        cases h
        exact rn_sub [] rfl hc
      · refine sb_icmp_ge_f 112 cz15 (by decide) ?_
        refine sb_in [(66, .iconst 0, 1), (67, .istore 5, 2)] 69 (by decide +kernel) ?_
        refine sb_iconst cI0 ?_
        refine sb_istore (by decide) rfl ?_
        refine sb_end ?_
        obtain ⟨e69, hl69, h⟩ := bd h
        refine rn_sub [0, 2, 3, 4, 5] rfl ?_
        refine lp_ind (P := fun s => RN P 3 kX9_walkSets 69 [(0, .ref 173), (2, .int x2), (3, .ref 252), (4, .int x4), (5, .int s.1)] [] (S s.2) r) (E := fun p => RN P 3 kX9_walkSets 106 [(0, .ref 173), (2, .int x2), (3, .ref 252), (4, .int x4)] [] (S p) r) ?_ _ _ _ hl69 ?_
        · intro s qx h hc
          obtain ⟨x5, M⟩ := s
          replace h : fY_walkSets_b69 x2 x4 x5 M = some qx := h
          show RN P 3 kX9_walkSets 69 [(0, .ref 173), (2, .int x2), (3, .ref 252), (4, .int x4), (5, .int x5)] [] (S M) r
          unfold fY_walkSets_b69 at h
          refine sb_in [(69, .iload 5, 2), (71, .iload_n 2, 1), (72, .if_icmp .ge 34, 3)] 75 (by decide +kernel) ?_
          refine sb_iload rfl ?_
          refine sb_iload_n rfl ?_
          rcases ife h with ⟨cz16, h⟩ | ⟨cz16, h⟩
          · refine sb_icmp_ge_t 106 cz16 (by decide) ?_
            cases h
            exact rn_sub [0, 2, 3, 4] rfl hc
          · refine sb_icmp_ge_f 106 cz16 (by decide) ?_
            refine sb_in [(75, .aload_n 3, 1), (76, .iload 4, 2), (78, .bipush 8, 2), (80, .imul, 1), (81, .iload 5, 2), (83, .iadd, 1), (84, .iaload, 1), (85, .ldc 55, 2), (87, .if_icmp .ge 13, 3)] 90 (by decide +kernel) ?_
            refine sb_aload_n rfl ?_
            refine sb_iload rfl ?_
            refine sb_bipush cB8 ?_
            refine sb_imul ?_
            refine sb_iload rfl ?_
            refine sb_iadd ?_
            obtain ⟨hgz8, h⟩ := gd h
            refine ss_ialdD hgz8 ?_
            refine sb_ldc (v := 1000000) rfl ?_
            obtain ⟨Mz11, hj100, h⟩ := bd h
            have hJ100 : RN P 3 kX9_walkSets 100 [(0, .ref 173), (2, .int x2), (3, .ref 252), (4, .int x4), (5, .int x5)] [] (S Mz11) r := by
              refine sb_in [(100, .iinc 5 1, 3), (103, .goto (-34), 3)] 106 (by decide +kernel) ?_
              refine ss_iinc cI1 rfl (by decide) rfl ?_
              refine sb_goto 69 (by decide) ?_
              cases h
              exact rn_sub [0, 2, 3, 4, 5] rfl hc
            clear h
            have h := hj100
            clear hj100
            rcases ife h with ⟨cz17, h⟩ | ⟨cz17, h⟩
            · refine sb_icmp_ge_t 100 cz17 (by decide) ?_
              cases h
              exact rn_sub [0, 2, 3, 4, 5] rfl hJ100
            · refine sb_icmp_ge_f 100 cz17 (by decide) ?_
              refine sb_in [(90, .aload_n 0, 1), (91, .iload 4, 2), (93, .iload 5, 2), (95, .iload_n 2, 1), (96, .aload_n 3, 1), (97, .invokevirtual 62, 3)] 100 (by decide +kernel) ?_
              refine sb_aload_n rfl ?_
              refine sb_iload rfl ?_
              refine sb_iload rfl ?_
              refine sb_iload_n rfl ?_
              refine sb_aload_n rfl ?_
              obtain ⟨Mz10, hez9, h⟩ := bd h
              refine sb_callVv 4 rfl oX9_walkOn ln9_62 vX9_walkOn (rc_own h173.1 (S_lt h173.2) (by decide)) (rnCk_of (by decide +kernel) rfl) (tfY_walkOn hez9) ?_
              refine sb_end ?_
              cases h
              exact rn_sub [0, 2, 3, 4, 5] rfl hJ100
        · clear hl69
          obtain ⟨Mz12, hey⟩ : ∃ z, z = e69 := ⟨_, rfl⟩
          subst hey
          show RN P 3 kX9_walkSets 106 [(0, .ref 173), (2, .int x2), (3, .ref 252), (4, .int x4)] [] (S Mz12) r
          refine sb_in [(106, .iinc 4 1, 3), (109, .goto (-51), 3)] 112 (by decide +kernel) ?_
          refine ss_iinc cI1 rfl (by decide) rfl ?_
          refine sb_goto 58 (by decide) ?_
          cases h
          exact rn_sub [0, 2, 3, 4] rfl hc
    · clear hl58
      obtain ⟨Mz13, hey⟩ : ∃ z, z = e58 := ⟨_, rfl⟩
      subst hey
      show RN P 3 kX9_walkSets 112 [] [] (S Mz13) r
      refine sb_in [(112, .return_, 1)] 113 (by decide +kernel) ?_
      cases h
      subst hr
      refine sb_return ?_
      exact rfl
theorem tfY_walkSets {P : Px} {x1 : Int32} {x2 : Int32} {M : Mm} {rr : Mm} (h : fY_walkSets x1 x2 M = some rr) : EX P 3 kX9_walkSets [.ref 173, .int x1, .int x2, .ref 252] (S M) (none, S rr) := ex_of oX9_walkSets (Nat.le_of_ble_eq_true rfl) (nfY_walkSets  h rfl)
end RnT
