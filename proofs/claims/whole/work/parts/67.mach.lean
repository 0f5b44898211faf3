section RnT
set_option maxRecDepth 20000 in
theorem nfM_post {P : Px} {x1 : Int32} {x2 : Int32} {x3 : Int32} {M : Mm} {rr : (Int32 × Mm)} (h : fM_post x1 x2 x3 M = some rr) {r : Option Value × Sg} (hr : r = (some (.int rr.1), S rr.2)) : RN P 3 kX12_post 0 [(0, .ref 217), (1, .int x1), (2, .int x2), (3, .int x3)] [] (S M) r := by
  unfold fM_post at h
  refine sb_in [(0, .aload_n 0, 1), (1, .iconst 0, 1), (2, .putfield 116, 3), (5, .aload_n 0, 1), (6, .iload_n 1, 1), (7, .invokevirtual 147, 3), (10, .ifCond .eq 37, 3)] 13 (by decide +kernel) ?_
  refine sb_aload_n rfl ?_
  refine sb_iconst cI0 ?_
  refine ss_putI p12_116 h217 (by decide) ?_
  refine sb_aload_n rfl ?_
  refine sb_iload_n rfl ?_
  refine sb_callVi 1 rfl oX12_isDoor ln12_147 vX12_isDoor (rc_own h217.1 (S_lt h217.2) (by decide)) (rnCk_of (by decide +kernel) rfl) (tfM_isDoor) ?_
  rcases ife h with ⟨cz9, h⟩ | ⟨cz9, h⟩
  · refine sb_if_eq_t 47 cz9 (by decide) ?_
    refine sb_in [(47, .iconst (-1), 1), (48, .ireturn, 1)] 49 (by decide +kernel) ?_
    refine sb_iconst cIm1 ?_
    cases h
    subst hr
    refine sb_ireturn ?_
    exact ⟨.int, rfl, rfl⟩
  · refine sb_if_eq_f 47 cz9 (by decide) ?_
    refine sb_in [(13, .aload_n 0, 1), (14, .iload_n 2, 1), (15, .iconst 0, 1), (16, .bipush 6, 2), (18, .invokevirtual 143, 3), (21, .ifCond .eq 26, 3)] 24 (by decide +kernel) ?_
    refine sb_aload_n rfl ?_
    refine sb_iload_n rfl ?_
    refine sb_iconst cI0 ?_
    refine sb_bipush cB6 ?_
    refine sb_callVi 3 rfl oX12_isIn ln12_143 vX12_isIn (rc_own h217.1 (S_lt h217.2) (by decide)) (rnCk_of (by decide +kernel) rfl) (tfM_isIn) ?_
    rcases ife h with ⟨cz10, h⟩ | ⟨cz10, h⟩
    · refine sb_if_eq_t 47 cz10 (by decide) ?_
      refine sb_in [(47, .iconst (-1), 1), (48, .ireturn, 1)] 49 (by decide +kernel) ?_
      refine sb_iconst cIm1 ?_
      cases h
      subst hr
      refine sb_ireturn ?_
      exact ⟨.int, rfl, rfl⟩
    · refine sb_if_eq_f 47 cz10 (by decide) ?_
      refine sb_in [(24, .aload_n 0, 1), (25, .iload_n 3, 1), (26, .iconst 1, 1), (27, .bipush 99, 2), (29, .invokevirtual 143, 3), (32, .ifCond .eq 15, 3)] 35 (by decide +kernel) ?_
      refine sb_aload_n rfl ?_
      refine sb_iload_n rfl ?_
      refine sb_iconst cI1 ?_
      refine sb_bipush cB99 ?_
      refine sb_callVi 3 rfl oX12_isIn ln12_143 vX12_isIn (rc_own h217.1 (S_lt h217.2) (by decide)) (rnCk_of (by decide +kernel) rfl) (tfM_isIn) ?_
      rcases ife h with ⟨cz11, h⟩ | ⟨cz11, h⟩
      · refine sb_if_eq_t 47 cz11 (by decide) ?_
        refine sb_in [(47, .iconst (-1), 1), (48, .ireturn, 1)] 49 (by decide +kernel) ?_
        refine sb_iconst cIm1 ?_
        cases h
        subst hr
        refine sb_ireturn ?_
        exact ⟨.int, rfl, rfl⟩
      · refine sb_if_eq_f 47 cz11 (by decide) ?_
        refine sb_in [(35, .aload_n 0, 1), (36, .getfield 7, 3), (39, .bipush 10, 2), (41, .iaload, 1), (42, .bipush 24, 2), (44, .if_icmp .ne 5, 3)] 47 (by decide +kernel) ?_
        refine sb_aload_n rfl ?_
        refine ss_getR g12_7 h217 r217_1 ?_
        refine sb_bipush cB10 ?_
        refine ss_ialdL 10 h218 iL10 rfl ?_
        refine sb_bipush cB24 ?_
        rcases ife h with ⟨cz12, h⟩ | ⟨cz12, h⟩
        · refine sb_icmp_ne_f 49 cz12 (by decide) ?_
          refine sb_in [(47, .iconst (-1), 1), (48, .ireturn, 1)] 49 (by decide +kernel) ?_
          refine sb_iconst cIm1 ?_
          cases h
          subst hr
          refine sb_ireturn ?_
          exact ⟨.int, rfl, rfl⟩
        · refine sb_icmp_ne_t 49 cz12 (by decide) ?_
          refine sb_in [(49, .aload_n 0, 1), (50, .invokevirtual 365, 3), (53, .aload_n 0, 1), (54, .iload_n 1, 1), (55, .iload_n 2, 1), (56, .iload_n 3, 1), (57, .invokevirtual 368, 3), (60, .ireturn, 1)] 61 (by decide +kernel) ?_
          refine sb_aload_n rfl ?_
          obtain ⟨Mz6, hez5, h⟩ := bd h
          refine sb_callVv 0 rfl oX12_keepsAhead ln12_365 vX12_keepsAhead (rc_own h217.1 (S_lt h217.2) (by decide)) (rnCk_of (by decide +kernel) rfl) (tfM_keepsAhead hez5) ?_
          refine sb_aload_n rfl ?_
          refine sb_iload_n rfl ?_
          refine sb_iload_n rfl ?_
          refine sb_iload_n rfl ?_
          obtain ⟨qz8, hez7, h⟩ := bd h
          refine sb_callVi 3 rfl oX12_comes ln12_368 vX12_comes (rc_own h217.1 (S_lt h217.2) (by decide)) (rnCk_of (by decide +kernel) rfl) (tfM_comes hez7) ?_
          cases h
          subst hr
          refine sb_ireturn ?_
          exact ⟨.int, rfl, rfl⟩
theorem tfM_post {P : Px} {x1 : Int32} {x2 : Int32} {x3 : Int32} {M : Mm} {rr : (Int32 × Mm)} (h : fM_post x1 x2 x3 M = some rr) : EX P 3 kX12_post [.ref 217, .int x1, .int x2, .int x3] (S M) (some (.int rr.1), S rr.2) := ex_of oX12_post (Nat.le_of_ble_eq_true rfl) (nfM_post  h rfl)
set_option maxRecDepth 20000 in
theorem nfM_bring {P : Px} {x1 : Int32} {M : Mm} {rr : (Int32 × Mm)} (h : fM_bring x1 M = some rr) {r : Option Value × Sg} (hr : r = (some (.int rr.1), S rr.2)) : RN P 7 kX12_bring 0 [(0, .ref 217), (1, .int x1)] [] (S M) r := by
  unfold fM_bring at h
  refine sb_in [(0, .aload_n 0, 1), (1, .iconst 0, 1), (2, .putfield 116, 3), (5, .aload_n 0, 1), (6, .invokevirtual 312, 3), (9, .ifCond .ne 6, 3)] 12 (by decide +kernel) ?_
  refine sb_aload_n rfl ?_
  refine sb_iconst cI0 ?_
  refine ss_putI p12_116 h217 (by decide) ?_
  refine sb_aload_n rfl ?_
  refine sb_callVi 0 rfl oX12_health ln12_312 vX12_health (rc_own h217.1 (S_lt h217.2) (by decide)) (rnCk_of (by decide +kernel) rfl) (tfM_health) ?_
  rcases ife h with ⟨cz10, h⟩ | ⟨cz10, h⟩
  · refine sb_if_ne_f 15 cz10 (by decide) ?_
    refine sb_in [(12, .bipush (-2), 2), (14, .ireturn, 1)] 15 (by decide +kernel) ?_
    refine sb_bipush cBm2 ?_
    cases h
    subst hr
    refine sb_ireturn ?_
    exact ⟨.int, rfl, rfl⟩
  · refine sb_if_ne_t 15 cz10 (by decide) ?_
    refine sb_in [(15, .iconst 0, 1), (16, .istore_n 2, 1)] 17 (by decide +kernel) ?_
    refine sb_iconst cI0 ?_
    refine sb_istore_n (by decide) rfl ?_
    refine sb_end ?_
    obtain ⟨e17, hl17, h⟩ := bd h
    refine rn_sub [0, 1, 2] rfl ?_
    refine lp_ind (P := fun s => RN P 7 kX12_bring 17 [(0, .ref 217), (1, .int x1), (2, .int s)] [] (S (mput M 217 0 0)) r) (E := fun e => match e with | Sum.inl p => RN P 7 kX12_bring 45 [(0, .ref 217), (2, .int p)] [] (S (mput M 217 0 0)) r | Sum.inr p => RN P 7 kX12_bring 61 [] [] (S (mput M 217 0 0)) r) ?_ _ _ _ hl17 ?_
    · intro x2 qx h hc
      replace h : fM_bring_b17 x1 (mput M 217 0 0) x2 = some qx := h
      show RN P 7 kX12_bring 17 [(0, .ref 217), (1, .int x1), (2, .int x2)] [] (S (mput M 217 0 0)) r
      generalize (mput M 217 0 0) = M at h hc ⊢
      unfold fM_bring_b17 at h
      refine sb_in [(17, .iload_n 2, 1), (18, .aload_n 0, 1), (19, .getfield 7, 3), (22, .bipush 10, 2), (24, .iaload, 1), (25, .if_icmp .ge 36, 3)] 28 (by decide +kernel) ?_
      refine sb_iload_n rfl ?_
      refine sb_aload_n rfl ?_
      refine ss_getR g12_7 h217 r217_1 ?_
      refine sb_bipush cB10 ?_
      refine ss_ialdL 10 h218 iL10 rfl ?_
      rcases ife h with ⟨cz11, h⟩ | ⟨cz11, h⟩
      · refine sb_icmp_ge_t 61 cz11 (by decide) ?_
        cases h
        exact rn_sub [] rfl hc
      · refine sb_icmp_ge_f 61 cz11 (by decide) ?_
        refine sb_in [(28, .aload_n 0, 1), (29, .getfield 7, 3), (32, .aload_n 0, 1), (33, .iload_n 2, 1), (34, .invokevirtual 136, 3), (37, .iaload, 1), (38, .iload_n 1, 1), (39, .if_icmp .eq 6, 3)] 42 (by decide +kernel) ?_
        refine sb_aload_n rfl ?_
        refine ss_getR g12_7 h217 r217_1 ?_
        refine sb_aload_n rfl ?_
        refine sb_iload_n rfl ?_
        refine sb_callVi 1 rfl oX12_letterAt ln12_136 vX12_letterAt (rc_own h217.1 (S_lt h217.2) (by decide)) (rnCk_of (by decide +kernel) rfl) (tfM_letterAt) ?_
        obtain ⟨hgz4, h⟩ := gd h
        refine ss_iald h218 hgz4 ?_
        refine sb_iload_n rfl ?_
        rcases ife h with ⟨cz12, h⟩ | ⟨cz12, h⟩
        · refine sb_icmp_eq_t 45 cz12 (by decide) ?_
          cases h
          exact rn_sub [0, 2] rfl hc
        · refine sb_icmp_eq_f 45 cz12 (by decide) ?_
          refine sb_in [(42, .goto 13, 3)] 45 (by decide +kernel) ?_
          refine sb_goto 55 (by decide) ?_
          refine sb_in [(55, .iinc 2 1, 3), (58, .goto (-41), 3)] 61 (by decide +kernel) ?_
          refine ss_iinc cI1 rfl (by decide) rfl ?_
          refine sb_goto 17 (by decide) ?_
          cases h
          exact rn_sub [0, 1, 2] rfl hc
    · clear hl17
      rcases e17 with e17 | e17
      · skip
        obtain ⟨yz5, hey⟩ : ∃ z, z = e17 := ⟨_, rfl⟩
        subst hey
        show RN P 7 kX12_bring 45 [(0, .ref 217), (2, .int yz5)] [] (S (mput M 217 0 0)) r
        refine sb_in [(45, .aload_n 0, 1), (46, .invokevirtual 365, 3), (49, .aload_n 0, 1), (50, .iload_n 2, 1), (51, .invokevirtual 371, 3), (54, .ireturn, 1)] 55 (by decide +kernel) ?_
        refine sb_aload_n rfl ?_
        obtain ⟨Mz7, hez6, h⟩ := bd h
        refine sb_callVv 0 rfl oX12_keepsAhead ln12_365 vX12_keepsAhead (rc_own h217.1 (S_lt h217.2) (by decide)) (rnCk_of (by decide +kernel) rfl) (tfM_keepsAhead hez6) ?_
        refine sb_aload_n rfl ?_
        refine sb_iload_n rfl ?_
        obtain ⟨qz9, hez8, h⟩ := bd h
        refine sb_callVi 1 rfl oX12_brings ln12_371 vX12_brings (rc_own h217.1 (S_lt h217.2) (by decide)) (rnCk_of (by decide +kernel) rfl) (tfM_brings hez8) ?_
        cases h
        subst hr
        refine sb_ireturn ?_
        exact ⟨.int, rfl, rfl⟩
      · skip
        show RN P 7 kX12_bring 61 [] [] (S (mput M 217 0 0)) r
        refine sb_in [(61, .bipush (-2), 2), (63, .ireturn, 1)] 64 (by decide +kernel) ?_
        refine sb_bipush cBm2 ?_
        cases h
        subst hr
        refine sb_ireturn ?_
        exact ⟨.int, rfl, rfl⟩
theorem tfM_bring {P : Px} {x1 : Int32} {M : Mm} {rr : (Int32 × Mm)} (h : fM_bring x1 M = some rr) : EX P 7 kX12_bring [.ref 217, .int x1] (S M) (some (.int rr.1), S rr.2) := ex_of oX12_bring (Nat.le_of_ble_eq_true rfl) (nfM_bring  h rfl)
set_option maxRecDepth 20000 in
theorem nfM_rain {P : Px} {x1 : Int32} {M : Mm} {rr : (Int32 × Mm)} (h : fM_rain x1 M = some rr) {r : Option Value × Sg} (hr : r = (some (.int rr.1), S rr.2)) : RN P 2 kX12_rain 0 [(0, .ref 217), (1, .int x1)] [] (S M) r := by
  unfold fM_rain at h
  refine sb_in [(0, .aload_n 0, 1), (1, .iconst 0, 1), (2, .putfield 116, 3), (5, .aload_n 0, 1), (6, .iload_n 1, 1), (7, .iconst 0, 1), (8, .bipush 9, 2), (10, .invokevirtual 143, 3), (13, .ifCond .ne 5, 3)] 16 (by decide +kernel) ?_
  refine sb_aload_n rfl ?_
  refine sb_iconst cI0 ?_
  refine ss_putI p12_116 h217 (by decide) ?_
  refine sb_aload_n rfl ?_
  refine sb_iload_n rfl ?_
  refine sb_iconst cI0 ?_
  refine sb_bipush cB9 ?_
  refine sb_callVi 3 rfl oX12_isIn ln12_143 vX12_isIn (rc_own h217.1 (S_lt h217.2) (by decide)) (rnCk_of (by decide +kernel) rfl) (tfM_isIn) ?_
  rcases ife h with ⟨cz6, h⟩ | ⟨cz6, h⟩
  · refine sb_if_ne_f 18 cz6 (by decide) ?_
    refine sb_in [(16, .iconst 0, 1), (17, .ireturn, 1)] 18 (by decide +kernel) ?_
    refine sb_iconst cI0 ?_
    cases h
    subst hr
    refine sb_ireturn ?_
    exact ⟨.boolean, rfl, by decide⟩
  · refine sb_if_ne_t 18 cz6 (by decide) ?_
    refine sb_in [(18, .aload_n 0, 1), (19, .invokevirtual 365, 3), (22, .aload_n 0, 1), (23, .getfield 7, 3), (26, .bipush 8, 2), (28, .iload_n 1, 1), (29, .iastore, 1), (30, .iconst 1, 1), (31, .ireturn, 1)] 32 (by decide +kernel) ?_
    refine sb_aload_n rfl ?_
    obtain ⟨Mz4, hez3, h⟩ := bd h
    refine sb_callVv 0 rfl oX12_keepsAhead ln12_365 vX12_keepsAhead (rc_own h217.1 (S_lt h217.2) (by decide)) (rnCk_of (by decide +kernel) rfl) (tfM_keepsAhead hez3) ?_
    refine sb_aload_n rfl ?_
    refine ss_getR g12_7 h217 r217_1 ?_
    refine sb_bipush cB8 ?_
    refine sb_iload_n rfl ?_
    refine ss_iastL 8 h218 (by decide) iL8 rfl ?_
    refine sb_iconst cI1 ?_
    cases h
    subst hr
    refine sb_ireturn ?_
    exact ⟨.boolean, rfl, by decide⟩
theorem tfM_rain {P : Px} {x1 : Int32} {M : Mm} {rr : (Int32 × Mm)} (h : fM_rain x1 M = some rr) : EX P 2 kX12_rain [.ref 217, .int x1] (S M) (some (.int rr.1), S rr.2) := ex_of oX12_rain (Nat.le_of_ble_eq_true rfl) (nfM_rain  h rfl)
set_option maxRecDepth 20000 in
theorem nfM_morning {P : Px} {M : Mm} {rr : Mm} (h : fM_morning M = some rr) {r : Option Value × Sg} (hr : r = (none, S rr)) : RN P 3 kX12_morning 0 [(0, .ref 217)] [] (S M) r := by
  unfold fM_morning at h
  refine sb_in [(0, .aload_n 0, 1), (1, .getfield 7, 3), (4, .iconst 3, 1), (5, .iconst 0, 1), (6, .iastore, 1), (7, .iconst 0, 1), (8, .istore_n 1, 1)] 9 (by decide +kernel) ?_
  refine sb_aload_n rfl ?_
  refine ss_getR g12_7 h217 r217_1 ?_
  refine sb_iconst cI3 ?_
  refine sb_iconst cI0 ?_
  refine ss_iastL 3 h218 (by decide) iL3 rfl ?_
  refine sb_iconst cI0 ?_
  refine sb_istore_n (by decide) rfl ?_
  refine sb_end ?_
  obtain ⟨e9, hl9, h⟩ := bd h
  refine rn_sub [0, 1] rfl ?_
  refine lp_ind (P := fun s => RN P 3 kX12_morning 9 [(0, .ref 217), (1, .int s.1)] [] (S s.2) r) (E := fun p => RN P 3 kX12_morning 118 [] [] (S p) r) ?_ _ _ _ hl9 ?_
  · intro s qx h hc
    obtain ⟨x1, M⟩ := s
    replace h : fM_morning_b9 x1 M = some qx := h
    show RN P 3 kX12_morning 9 [(0, .ref 217), (1, .int x1)] [] (S M) r
    unfold fM_morning_b9 at h
    refine sb_in [(9, .iload_n 1, 1), (10, .iconst 4, 1), (11, .aload_n 0, 1), (12, .getfield 288, 3), (15, .imul, 1), (16, .if_icmp .ge 102, 3)] 19 (by decide +kernel) ?_
    refine sb_iload_n rfl ?_
    refine sb_iconst cI4 ?_
    refine sb_aload_n rfl ?_
    refine ss_getI g12_288 h217 ?_
    refine sb_imul ?_
    rcases ife h with ⟨cz15, h⟩ | ⟨cz15, h⟩
    · refine sb_icmp_ge_t 118 cz15 (by decide) ?_
      cases h
      exact rn_sub [] rfl hc
    · refine sb_icmp_ge_f 118 cz15 (by decide) ?_
      refine sb_in [(19, .aload_n 0, 1), (20, .getfield 59, 3), (23, .iload_n 1, 1), (24, .iaload, 1), (25, .aload_n 0, 1), (26, .getfield 7, 3), (29, .iconst 0, 1), (30, .iaload, 1), (31, .if_icmp .eq 6, 3)] 34 (by decide +kernel) ?_
      refine sb_aload_n rfl ?_
      refine ss_getR g12_59 h217 r217_33 ?_
      refine sb_iload_n rfl ?_
      obtain ⟨hgz2, h⟩ := gd h
      refine ss_iald h233 hgz2 ?_
      refine sb_aload_n rfl ?_
      refine ss_getR g12_7 h217 r217_1 ?_
      refine sb_iconst cI0 ?_
      refine ss_ialdL 0 h218 iL0 rfl ?_
      obtain ⟨Mz12, hj111, h⟩ := bd h
      have hJ111 : RN P 3 kX12_morning 111 [(0, .ref 217), (1, .int x1)] [] (S Mz12) r := by
        refine sb_in [(111, .iload_n 1, 1), (112, .iconst 4, 1), (113, .iadd, 1), (114, .istore_n 1, 1), (115, .goto (-106), 3)] 118 (by decide +kernel) ?_
        refine sb_iload_n rfl ?_
        refine sb_iconst cI4 ?_
        refine sb_iadd ?_
        refine sb_istore_n (by decide) rfl ?_
        refine sb_goto 9 (by decide) ?_
        cases h
        exact rn_sub [0, 1] rfl hc
      clear h
      have h := hj111
      clear hj111
      rcases ife h with ⟨cz16, h⟩ | ⟨cz16, h⟩
      · refine sb_icmp_eq_t 37 cz16 (by decide) ?_
        refine sb_in [(37, .aload_n 0, 1), (38, .getfield 7, 3), (41, .bipush 10, 2), (43, .iaload, 1), (44, .bipush 24, 2), (46, .if_icmp .ge 35, 3)] 49 (by decide +kernel) ?_
        refine sb_aload_n rfl ?_
        refine ss_getR g12_7 h217 r217_1 ?_
        refine sb_bipush cB10 ?_
        refine ss_ialdL 10 h218 iL10 rfl ?_
        refine sb_bipush cB24 ?_
        rcases ife h with ⟨cz17, h⟩ | ⟨cz17, h⟩
        · refine sb_icmp_ge_t 81 cz17 (by decide) ?_
          refine sb_in [(81, .aload_n 0, 1), (82, .getfield 7, 3), (85, .bipush 7, 2), (87, .aload_n 0, 1), (88, .getfield 7, 3), (91, .bipush 7, 2), (93, .iaload, 1), (94, .iconst 1, 1), (95, .iadd, 1), (96, .iastore, 1), (97, .aload_n 0, 1), (98, .iconst 3, 1), (99, .iconst (-1), 1), (100, .aload_n 0, 1), (101, .getfield 59, 3), (104, .iload_n 1, 1), (105, .iconst 1, 1), (106, .iadd, 1), (107, .iaload, 1), (108, .invokevirtual 325, 3)] 111 (by decide +kernel) ?_
          refine sb_aload_n rfl ?_
          refine ss_getR g12_7 h217 r217_1 ?_
          refine sb_bipush cB7 ?_
          refine sb_aload_n rfl ?_
          refine ss_getR g12_7 h217 r217_1 ?_
          refine sb_bipush cB7 ?_
          refine ss_ialdL 7 h218 iL7 rfl ?_
          refine sb_iconst cI1 ?_
          refine sb_iadd ?_
          refine ss_iastL 7 h218 (by decide) iL7 rfl ?_
          refine sb_aload_n rfl ?_
          refine sb_iconst cI3 ?_
          refine sb_iconst cIm1 ?_
          refine sb_aload_n rfl ?_
          refine ss_getR g12_59 h217 r217_33 ?_
          refine sb_iload_n rfl ?_
          refine sb_iconst cI1 ?_
          refine sb_iadd ?_
          obtain ⟨hgz4, h⟩ := gd h
          refine ss_iald h233 hgz4 ?_
          obtain ⟨Mz6, hez5, h⟩ := bd h
          refine sb_callVv 3 rfl oX12_notes ln12_325 vX12_notes (rc_own h217.1 (S_lt h217.2) (by decide)) (rnCk_of (by decide +kernel) rfl) (tfM_notes hez5) ?_
          refine sb_end ?_
          cases h
          exact rn_sub [0, 1] rfl hJ111
        · refine sb_icmp_ge_f 81 cz17 (by decide) ?_
          refine sb_in [(49, .aload_n 0, 1), (50, .aload_n 0, 1), (51, .getfield 59, 3), (54, .iload_n 1, 1), (55, .iconst 1, 1), (56, .iadd, 1), (57, .iaload, 1), (58, .aload_n 0, 1), (59, .getfield 59, 3), (62, .iload_n 1, 1), (63, .iconst 2, 1), (64, .iadd, 1), (65, .iaload, 1), (66, .aload_n 0, 1), (67, .getfield 59, 3), (70, .iload_n 1, 1), (71, .iconst 3, 1), (72, .iadd, 1), (73, .iaload, 1), (74, .invokevirtual 368, 3), (77, .pop, 1), (78, .goto 33, 3)] 81 (by decide +kernel) ?_
          refine sb_aload_n rfl ?_
          refine sb_aload_n rfl ?_
          refine ss_getR g12_59 h217 r217_33 ?_
          refine sb_iload_n rfl ?_
          refine sb_iconst cI1 ?_
          refine sb_iadd ?_
          obtain ⟨hgz7, h⟩ := gd h
          refine ss_iald h233 hgz7 ?_
          refine sb_aload_n rfl ?_
          refine ss_getR g12_59 h217 r217_33 ?_
          refine sb_iload_n rfl ?_
          refine sb_iconst cI2 ?_
          refine sb_iadd ?_
          obtain ⟨hgz8, h⟩ := gd h
          refine ss_iald h233 hgz8 ?_
          refine sb_aload_n rfl ?_
          refine ss_getR g12_59 h217 r217_33 ?_
          refine sb_iload_n rfl ?_
          refine sb_iconst cI3 ?_
          refine sb_iadd ?_
          obtain ⟨hgz9, h⟩ := gd h
          refine ss_iald h233 hgz9 ?_
          obtain ⟨qz11, hez10, h⟩ := bd h
          refine sb_callVi 3 rfl oX12_comes ln12_368 vX12_comes (rc_own h217.1 (S_lt h217.2) (by decide)) (rnCk_of (by decide +kernel) rfl) (tfM_comes hez10) ?_
          refine sb_pop rfl ?_
          refine sb_goto 111 (by decide) ?_
          cases h
          exact rn_sub [0, 1] rfl hJ111
      · refine sb_icmp_eq_f 37 cz16 (by decide) ?_
        refine sb_in [(34, .goto 77, 3)] 37 (by decide +kernel) ?_
        refine sb_goto 111 (by decide) ?_
        cases h
        exact rn_sub [0, 1] rfl hJ111
  · clear hl9
    obtain ⟨Mz14, hey⟩ : ∃ z, z = e9 := ⟨_, rfl⟩
    subst hey
    show RN P 3 kX12_morning 118 [] [] (S Mz14) r
    refine sb_in [(118, .return_, 1)] 119 (by decide +kernel) ?_
    cases h
    subst hr
    refine sb_return ?_
    exact rfl
theorem tfM_morning {P : Px} {M : Mm} {rr : Mm} (h : fM_morning M = some rr) : EX P 3 kX12_morning [.ref 217] (S M) (none, S rr) := ex_of oX12_morning (Nat.le_of_ble_eq_true rfl) (nfM_morning  h rfl)
set_option maxRecDepth 20000 in
theorem nfM_walksTo {P : Px} {x1 : Int32} {M : Mm} {rr : (Int32 × Mm)} (h : fM_walksTo x1 M = some rr) {r : Option Value × Sg} (hr : r = (some (.int rr.1), S rr.2)) : RN P 7 kX12_walksTo 0 [(0, .ref 217), (1, .int x1)] [] (S M) r := by
  unfold fM_walksTo at h
  refine sb_in [(0, .iconst 0, 1), (1, .istore_n 2, 1), (2, .iconst 0, 1), (3, .istore_n 3, 1)] 4 (by decide +kernel) ?_
  refine sb_iconst cI0 ?_
  refine sb_istore_n (by decide) rfl ?_
  refine sb_iconst cI0 ?_
  refine sb_istore_n (by decide) rfl ?_
  refine sb_end ?_
  obtain ⟨e4, hl4, h⟩ := bd h
  refine rn_sub [0, 1, 2, 3] rfl ?_
  refine lp_ind (P := fun s => RN P 7 kX12_walksTo 4 [(0, .ref 217), (1, .int x1), (2, .int s.1), (3, .int s.2.1)] [] (S s.2.2) r) (E := fun p => RN P 7 kX12_walksTo 89 [(2, .int p.1)] [] (S p.2) r) ?_ _ _ _ hl4 ?_
  · intro s qx h hc
    obtain ⟨x2, x3, M⟩ := s
    replace h : fM_walksTo_b4 x1 x2 x3 M = some qx := h
    show RN P 7 kX12_walksTo 4 [(0, .ref 217), (1, .int x1), (2, .int x2), (3, .int x3)] [] (S M) r
    unfold fM_walksTo_b4 at h
    refine sb_in [(4, .iload_n 3, 1), (5, .aload_n 0, 1), (6, .getfield 7, 3), (9, .bipush 10, 2), (11, .iaload, 1), (12, .if_icmp .ge 77, 3)] 15 (by decide +kernel) ?_
    refine sb_iload_n rfl ?_
    refine sb_aload_n rfl ?_
    refine ss_getR g12_7 h217 r217_1 ?_
    refine sb_bipush cB10 ?_
    refine ss_ialdL 10 h218 iL10 rfl ?_
    rcases ife h with ⟨cz13, h⟩ | ⟨cz13, h⟩
    · refine sb_icmp_ge_t 89 cz13 (by decide) ?_
      cases h
      exact rn_sub [2] rfl hc
    · refine sb_icmp_ge_f 89 cz13 (by decide) ?_
      refine sb_in [(15, .aload_n 0, 1), (16, .iload_n 3, 1), (17, .invokevirtual 140, 3), (20, .iload_n 1, 1), (21, .if_icmp .ne 34, 3)] 24 (by decide +kernel) ?_
      refine sb_aload_n rfl ?_
      refine sb_iload_n rfl ?_
      obtain ⟨qz2, hez1, h⟩ := bd h
      refine sb_callVi 1 rfl oX12_doorOf ln12_140 vX12_doorOf (rc_own h217.1 (S_lt h217.2) (by decide)) (rnCk_of (by decide +kernel) rfl) (tfM_doorOf hez1) ?_
      refine sb_iload_n rfl ?_
      obtain ⟨⟨yz6, Mz7⟩, hj56, h⟩ := bd h
      have hJ56 : RN P 7 kX12_walksTo 56 [(0, .ref 217), (1, .int x1), (2, .int x2), (3, .int x3)] [.int yz6] (S Mz7) r := by
        refine sb_in [(56, .istore 4, 2), (58, .iload 4, 2), (60, .ifCond .eq 22, 3)] 63 (by decide +kernel) ?_
        refine sb_istore (by decide) rfl ?_
        refine sb_iload rfl ?_
        rcases ife h with ⟨cz14, h⟩ | ⟨cz14, h⟩
        · refine sb_if_eq_t 82 cz14 (by decide) ?_
          refine sb_in [(82, .iload_n 3, 1), (83, .iconst 1, 1), (84, .iadd, 1), (85, .istore_n 3, 1)] 86 (by decide +kernel) ?_
          refine sb_iload_n rfl ?_
          refine sb_iconst cI1 ?_
          refine sb_iadd ?_
          refine sb_istore_n (by decide) rfl ?_
          refine sb_end ?_
          refine sb_in [(86, .goto (-82), 3)] 89 (by decide +kernel) ?_
          refine sb_goto 4 (by decide) ?_
          cases h
          exact rn_sub [0, 1, 2, 3] rfl hc
        · refine sb_if_eq_f 82 cz14 (by decide) ?_
          refine sb_in [(63, .iload_n 2, 1), (64, .iconst 1, 1), (65, .iadd, 1), (66, .istore_n 2, 1), (67, .aload_n 0, 1), (68, .aload_n 0, 1), (69, .getfield 374, 3), (72, .iconst 1, 1), (73, .iload_n 1, 1), (74, .ishl, 1), (75, .ior, 1), (76, .putfield 374, 3), (79, .goto 7, 3)] 82 (by decide +kernel) ?_
          refine sb_iload_n rfl ?_
          refine sb_iconst cI1 ?_
          refine sb_iadd ?_
          refine sb_istore_n (by decide) rfl ?_
          refine sb_aload_n rfl ?_
          refine sb_aload_n rfl ?_
          refine ss_getI g12_374 h217 ?_
          refine sb_iconst cI1 ?_
          refine sb_iload_n rfl ?_
          refine sb_ishl ?_
          refine sb_ior ?_
          refine ss_putI p12_374 h217 (by decide) ?_
          refine sb_goto 86 (by decide) ?_
          refine sb_in [(86, .goto (-82), 3)] 89 (by decide +kernel) ?_
          refine sb_goto 4 (by decide) ?_
          cases h
          exact rn_sub [0, 1, 2, 3] rfl hc
      clear h
      have h := hj56
      clear hj56
      rcases ife h with ⟨cz15, h⟩ | ⟨cz15, h⟩
      · refine sb_icmp_ne_f 55 cz15 (by decide) ?_
        refine sb_in [(24, .aload_n 0, 1), (25, .getfield 7, 3), (28, .iconst 3, 1), (29, .iaload, 1), (30, .bipush 24, 2), (32, .if_icmp .ge 23, 3)] 35 (by decide +kernel) ?_
        refine sb_aload_n rfl ?_
        refine ss_getR g12_7 h217 r217_1 ?_
        refine sb_iconst cI3 ?_
        refine ss_ialdL 3 h218 iL3 rfl ?_
        refine sb_bipush cB24 ?_
        rcases ife h with ⟨cz16, h⟩ | ⟨cz16, h⟩
        · refine sb_icmp_ge_t 55 cz16 (by decide) ?_
          refine sb_in [(55, .iconst 0, 1)] 56 (by decide +kernel) ?_
          refine sb_iconst cI0 ?_
          refine sb_end ?_
          cases h
          exact rn_sub [0, 1, 2, 3] rfl hJ56
        · refine sb_icmp_ge_f 55 cz16 (by decide) ?_
          refine sb_in [(35, .aload_n 0, 1), (36, .invokevirtual 312, 3), (39, .ifCond .le 16, 3)] 42 (by decide +kernel) ?_
          refine sb_aload_n rfl ?_
          refine sb_callVi 0 rfl oX12_health ln12_312 vX12_health (rc_own h217.1 (S_lt h217.2) (by decide)) (rnCk_of (by decide +kernel) rfl) (tfM_health) ?_
          rcases ife h with ⟨cz17, h⟩ | ⟨cz17, h⟩
          · refine sb_if_le_t 55 cz17 (by decide) ?_
            refine sb_in [(55, .iconst 0, 1)] 56 (by decide +kernel) ?_
            refine sb_iconst cI0 ?_
            refine sb_end ?_
            cases h
            exact rn_sub [0, 1, 2, 3] rfl hJ56
          · refine sb_if_le_f 55 cz17 (by decide) ?_
            refine sb_in [(42, .aload_n 0, 1), (43, .iload_n 3, 1), (44, .invokevirtual 371, 3), (47, .iconst (-1), 1), (48, .if_icmp .eq 7, 3)] 51 (by decide +kernel) ?_
            refine sb_aload_n rfl ?_
            refine sb_iload_n rfl ?_
            obtain ⟨qz5, hez4, h⟩ := bd h
            refine sb_callVi 1 rfl oX12_brings ln12_371 vX12_brings (rc_own h217.1 (S_lt h217.2) (by decide)) (rnCk_of (by decide +kernel) rfl) (tfM_brings hez4) ?_
            refine sb_iconst cIm1 ?_
            rcases ife h with ⟨cz18, h⟩ | ⟨cz18, h⟩
            · refine sb_icmp_eq_t 55 cz18 (by decide) ?_
              refine sb_in [(55, .iconst 0, 1)] 56 (by decide +kernel) ?_
              refine sb_iconst cI0 ?_
              refine sb_end ?_
              cases h
              exact rn_sub [0, 1, 2, 3] rfl hJ56
            · refine sb_icmp_eq_f 55 cz18 (by decide) ?_
              refine sb_in [(51, .iconst 1, 1), (52, .goto 4, 3)] 55 (by decide +kernel) ?_
              refine sb_iconst cI1 ?_
              refine sb_goto 56 (by decide) ?_
              cases h
              exact rn_sub [0, 1, 2, 3] rfl hJ56
      · refine sb_icmp_ne_t 55 cz15 (by decide) ?_
        refine sb_in [(55, .iconst 0, 1)] 56 (by decide +kernel) ?_
        refine sb_iconst cI0 ?_
        refine sb_end ?_
        cases h
        exact rn_sub [0, 1, 2, 3] rfl hJ56
  · clear hl4
    obtain ⟨yz11, Mz12⟩ := e4
    show RN P 7 kX12_walksTo 89 [(2, .int yz11)] [] (S Mz12) r
    refine sb_in [(89, .iload_n 2, 1), (90, .ireturn, 1)] 91 (by decide +kernel) ?_
    refine sb_iload_n rfl ?_
    cases h
    subst hr
    refine sb_ireturn ?_
    exact ⟨.int, rfl, rfl⟩
theorem tfM_walksTo {P : Px} {x1 : Int32} {M : Mm} {rr : (Int32 × Mm)} (h : fM_walksTo x1 M = some rr) : EX P 7 kX12_walksTo [.ref 217, .int x1] (S M) (some (.int rr.1), S rr.2) := ex_of oX12_walksTo (Nat.le_of_ble_eq_true rfl) (nfM_walksTo  h rfl)
set_option maxRecDepth 20000 in
theorem nfM_lettersAge {P : Px} {M : Mm} {rr : Mm} (h : fM_lettersAge M = some rr) {r : Option Value × Sg} (hr : r = (none, S rr)) : RN P 3 kX12_lettersAge 0 [(0, .ref 217)] [] (S M) r := by
  unfold fM_lettersAge at h
  refine sb_in [(0, .iconst 0, 1), (1, .istore_n 1, 1)] 2 (by decide +kernel) ?_
  refine sb_iconst cI0 ?_
  refine sb_istore_n (by decide) rfl ?_
  refine sb_end ?_
  obtain ⟨e2, hl2, h⟩ := bd h
  refine rn_sub [0, 1] rfl ?_
  refine lp_ind (P := fun s => RN P 3 kX12_lettersAge 2 [(0, .ref 217), (1, .int s.1)] [] (S s.2) r) (E := fun p => RN P 3 kX12_lettersAge 100 [] [] (S p) r) ?_ _ _ _ hl2 ?_
  · intro s qx h hc
    obtain ⟨x1, M⟩ := s
    replace h : fM_lettersAge_b2 x1 M = some qx := h
    show RN P 3 kX12_lettersAge 2 [(0, .ref 217), (1, .int x1)] [] (S M) r
    unfold fM_lettersAge_b2 at h
    refine sb_in [(2, .iload_n 1, 1), (3, .aload_n 0, 1), (4, .getfield 7, 3), (7, .bipush 10, 2), (9, .iaload, 1), (10, .if_icmp .ge 90, 3)] 13 (by decide +kernel) ?_
    refine sb_iload_n rfl ?_
    refine sb_aload_n rfl ?_
    refine ss_getR g12_7 h217 r217_1 ?_
    refine sb_bipush cB10 ?_
    refine ss_ialdL 10 h218 iL10 rfl ?_
    rcases ife h with ⟨cz15, h⟩ | ⟨cz15, h⟩
    · refine sb_icmp_ge_t 100 cz15 (by decide) ?_
      cases h
      exact rn_sub [] rfl hc
    · refine sb_icmp_ge_f 100 cz15 (by decide) ?_
      refine sb_in [(13, .aload_n 0, 1), (14, .iload_n 1, 1), (15, .invokevirtual 136, 3), (18, .istore_n 2, 1), (19, .aload_n 0, 1), (20, .getfield 7, 3), (23, .iload_n 2, 1), (24, .iconst 4, 1), (25, .iadd, 1), (26, .aload_n 0, 1), (27, .getfield 7, 3), (30, .iload_n 2, 1), (31, .iconst 4, 1), (32, .iadd, 1), (33, .iaload, 1), (34, .iconst 1, 1), (35, .iadd, 1), (36, .iastore, 1), (37, .aload_n 0, 1), (38, .getfield 7, 3), (41, .iload_n 2, 1), (42, .iconst 4, 1), (43, .iadd, 1), (44, .iaload, 1), (45, .bipush 9, 2), (47, .if_icmp .ge 10, 3)] 50 (by decide +kernel) ?_
      refine sb_aload_n rfl ?_
      refine sb_iload_n rfl ?_
      refine sb_callVi 1 rfl oX12_letterAt ln12_136 vX12_letterAt (rc_own h217.1 (S_lt h217.2) (by decide)) (rnCk_of (by decide +kernel) rfl) (tfM_letterAt) ?_
      refine sb_istore_n (by decide) rfl ?_
      refine sb_aload_n rfl ?_
      refine ss_getR g12_7 h217 r217_1 ?_
      refine sb_iload_n rfl ?_
      refine sb_iconst cI4 ?_
      refine sb_iadd ?_
      refine sb_aload_n rfl ?_
      refine ss_getR g12_7 h217 r217_1 ?_
      refine sb_iload_n rfl ?_
      refine sb_iconst cI4 ?_
      refine sb_iadd ?_
      obtain ⟨hgz2, h⟩ := gd h
      refine ss_iald h218 hgz2 ?_
      refine sb_iconst cI1 ?_
      refine sb_iadd ?_
      obtain ⟨hgz4, h⟩ := gd h
      refine ss_iast h218 (by decide) hgz4 ?_
      refine sb_aload_n rfl ?_
      refine ss_getR g12_7 h217 r217_1 ?_
      refine sb_iload_n rfl ?_
      refine sb_iconst cI4 ?_
      refine sb_iadd ?_
      obtain ⟨hgz5, h⟩ := gd h
      refine ss_iald h218 hgz5 ?_
      refine sb_bipush cB9 ?_
      rcases ife h with ⟨cz16, h⟩ | ⟨cz16, h⟩
      · refine sb_icmp_ge_t 57 cz16 (by decide) ?_
        refine sb_in [(57, .aload_n 0, 1), (58, .getfield 7, 3), (61, .bipush 7, 2), (63, .aload_n 0, 1), (64, .getfield 7, 3), (67, .bipush 7, 2), (69, .iaload, 1), (70, .iconst 1, 1), (71, .iadd, 1), (72, .iastore, 1), (73, .aload_n 0, 1), (74, .iconst 3, 1), (75, .aload_n 0, 1), (76, .getfield 7, 3), (79, .iload_n 2, 1), (80, .iaload, 1), (81, .aload_n 0, 1), (82, .getfield 7, 3), (85, .iload_n 2, 1), (86, .iconst 1, 1), (87, .iadd, 1), (88, .iaload, 1), (89, .invokevirtual 325, 3), (92, .aload_n 0, 1), (93, .iload_n 1, 1), (94, .invokevirtual 359, 3)] 97 (by decide +kernel) ?_
        refine sb_aload_n rfl ?_
        refine ss_getR g12_7 h217 r217_1 ?_
        refine sb_bipush cB7 ?_
        refine sb_aload_n rfl ?_
        refine ss_getR g12_7 h217 r217_1 ?_
        refine sb_bipush cB7 ?_
        refine ss_ialdL 7 h218 iL7 rfl ?_
        refine sb_iconst cI1 ?_
        refine sb_iadd ?_
        refine ss_iastL 7 h218 (by decide) iL7 rfl ?_
        refine sb_aload_n rfl ?_
        refine sb_iconst cI3 ?_
        refine sb_aload_n rfl ?_
        refine ss_getR g12_7 h217 r217_1 ?_
        refine sb_iload_n rfl ?_
        obtain ⟨hgz7, h⟩ := gd h
        refine ss_iald h218 hgz7 ?_
        refine sb_aload_n rfl ?_
        refine ss_getR g12_7 h217 r217_1 ?_
        refine sb_iload_n rfl ?_
        refine sb_iconst cI1 ?_
        refine sb_iadd ?_
        obtain ⟨hgz8, h⟩ := gd h
        refine ss_iald h218 hgz8 ?_
        obtain ⟨Mz10, hez9, h⟩ := bd h
        refine sb_callVv 3 rfl oX12_notes ln12_325 vX12_notes (rc_own h217.1 (S_lt h217.2) (by decide)) (rnCk_of (by decide +kernel) rfl) (tfM_notes hez9) ?_
        refine sb_aload_n rfl ?_
        refine sb_iload_n rfl ?_
        obtain ⟨Mz12, hez11, h⟩ := bd h
        refine sb_callVv 1 rfl oX12_goesOut ln12_359 vX12_goesOut (rc_own h217.1 (S_lt h217.2) (by decide)) (rnCk_of (by decide +kernel) rfl) (tfM_goesOut hez11) ?_
        refine sb_end ?_
        refine sb_in [(97, .goto (-95), 3)] 100 (by decide +kernel) ?_
        refine sb_goto 2 (by decide) ?_
        cases h
        exact rn_sub [0, 1] rfl hc
      · refine sb_icmp_ge_f 57 cz16 (by decide) ?_
        refine sb_in [(50, .iload_n 1, 1), (51, .iconst 1, 1), (52, .iadd, 1), (53, .istore_n 1, 1), (54, .goto 43, 3)] 57 (by decide +kernel) ?_
        refine sb_iload_n rfl ?_
        refine sb_iconst cI1 ?_
        refine sb_iadd ?_
        refine sb_istore_n (by decide) rfl ?_
        refine sb_goto 97 (by decide) ?_
        refine sb_in [(97, .goto (-95), 3)] 100 (by decide +kernel) ?_
        refine sb_goto 2 (by decide) ?_
        cases h
        exact rn_sub [0, 1] rfl hc
  · clear hl2
    obtain ⟨Mz14, hey⟩ : ∃ z, z = e2 := ⟨_, rfl⟩
    subst hey
    show RN P 3 kX12_lettersAge 100 [] [] (S Mz14) r
    refine sb_in [(100, .return_, 1)] 101 (by decide +kernel) ?_
    cases h
    subst hr
    refine sb_return ?_
    exact rfl
theorem tfM_lettersAge {P : Px} {M : Mm} {rr : Mm} (h : fM_lettersAge M = some rr) : EX P 3 kX12_lettersAge [.ref 217] (S M) (none, S rr) := ex_of oX12_lettersAge (Nat.le_of_ble_eq_true rfl) (nfM_lettersAge  h rfl)
set_option maxRecDepth 20000 in
theorem nfM_evening {P : Px} {M : Mm} {rr : Mm} (h : fM_evening M = some rr) {r : Option Value × Sg} (hr : r = (none, S rr)) : RN P 3 kX12_evening 0 [(0, .ref 217)] [] (S M) r := by
  unfold fM_evening at h
  refine sb_in [(0, .aload_n 0, 1), (1, .getfield 7, 3), (4, .iconst 5, 1), (5, .aload_n 0, 1), (6, .bipush 99, 2), (8, .aload_n 0, 1), (9, .getfield 7, 3), (12, .iconst 5, 1), (13, .iaload, 1), (14, .iconst 5, 1), (15, .iadd, 1), (16, .invokevirtual 353, 3), (19, .iastore, 1), (20, .aload_n 0, 1), (21, .aload_n 0, 1), (22, .getfield 7, 3), (25, .iconst 5, 1), (26, .iaload, 1), (27, .bipush 50, 2), (29, .if_icmp .le 12, 3)] 32 (by decide +kernel) ?_
  refine sb_aload_n rfl ?_
  refine ss_getR g12_7 h217 r217_1 ?_
  refine sb_iconst cI5 ?_
  refine sb_aload_n rfl ?_
  refine sb_bipush cB99 ?_
  refine sb_aload_n rfl ?_
  refine ss_getR g12_7 h217 r217_1 ?_
  refine sb_iconst cI5 ?_
  refine ss_ialdL 5 h218 iL5 rfl ?_
  refine sb_iconst cI5 ?_
  refine sb_iadd ?_
  refine sb_callVi 2 rfl oX12_lesser ln12_353 vX12_lesser (rc_own h217.1 (S_lt h217.2) (by decide)) (rnCk_of (by decide +kernel) rfl) (tfM_lesser) ?_
  refine ss_iastL 5 h218 (by decide) iL5 rfl ?_
  refine sb_aload_n rfl ?_
  refine sb_aload_n rfl ?_
  refine ss_getR g12_7 h217 r217_1 ?_
  refine sb_iconst cI5 ?_
  refine ss_ialdL 5 h218 iL5 rfl ?_
  refine sb_bipush cB50 ?_
  obtain ⟨yz5, hj47, h⟩ := bd h
  have hJ47 : RN P 3 kX12_evening 47 [(0, .ref 217)] [.int yz5, .ref 217] (S (mput M 218 5 (fM_lesser 99 ((M 218 5) + 5)))) r := by
    refine sb_in [(47, .invokevirtual 154, 3), (50, .iconst 0, 1), (51, .istore_n 1, 1)] 52 (by decide +kernel) ?_
    refine sb_callVv 1 rfl oX12_hasHealth ln12_154 vX12_hasHealth (rc_own h217.1 (S_lt h217.2) (by decide)) (rnCk_of (by decide +kernel) rfl) (tfM_hasHealth) ?_
    refine sb_iconst cI0 ?_
    refine sb_istore_n (by decide) rfl ?_
    refine sb_end ?_
    obtain ⟨e52, hl52, h⟩ := bd h
    refine rn_sub [0, 1] rfl ?_
    refine lp_ind (P := fun s => RN P 3 kX12_evening 52 [(0, .ref 217), (1, .int s.1)] [] (S s.2) r) (E := fun p => RN P 3 kX12_evening 116 [(0, .ref 217)] [] (S p) r) ?_ _ _ _ hl52 ?_
    · intro s qx h hc
      obtain ⟨x1, M⟩ := s
      replace h : fM_evening_b52 x1 M = some qx := h
      show RN P 3 kX12_evening 52 [(0, .ref 217), (1, .int x1)] [] (S M) r
      unfold fM_evening_b52 at h
      refine sb_in [(52, .iload_n 1, 1), (53, .aload_n 0, 1), (54, .getfield 129, 3), (57, .if_icmp .ge 59, 3)] 60 (by decide +kernel) ?_
      refine sb_iload_n rfl ?_
      refine sb_aload_n rfl ?_
      refine ss_getI g12_129 h217 ?_
      rcases ife h with ⟨cz16, h⟩ | ⟨cz16, h⟩
      · refine sb_icmp_ge_t 116 cz16 (by decide) ?_
        cases h
        exact rn_sub [0] rfl hc
      · refine sb_icmp_ge_f 116 cz16 (by decide) ?_
        refine sb_in [(60, .aload_n 0, 1), (61, .aload_n 0, 1), (62, .getfield 374, 3), (65, .iload_n 1, 1), (66, .invokevirtual 377, 3), (69, .ifCond .ne 41, 3)] 72 (by decide +kernel) ?_
        refine sb_aload_n rfl ?_
        refine sb_aload_n rfl ?_
        refine ss_getI g12_374 h217 ?_
        refine sb_iload_n rfl ?_
        refine sb_callVi 2 rfl oX12_lies ln12_377 vX12_lies (rc_own h217.1 (S_lt h217.2) (by decide)) (rnCk_of (by decide +kernel) rfl) (tfM_lies) ?_
        obtain ⟨Mz13, hj110, h⟩ := bd h
        have hJ110 : RN P 3 kX12_evening 110 [(0, .ref 217), (1, .int x1)] [] (S Mz13) r := by
          refine sb_in [(110, .iinc 1 1, 3), (113, .goto (-61), 3)] 116 (by decide +kernel) ?_
          refine ss_iinc cI1 rfl (by decide) rfl ?_
          refine sb_goto 52 (by decide) ?_
          cases h
          exact rn_sub [0, 1] rfl hc
        clear h
        have h := hj110
        clear hj110
        rcases ife h with ⟨cz17, h⟩ | ⟨cz17, h⟩
        · refine sb_if_ne_f 110 cz17 (by decide) ?_
          refine sb_in [(72, .aload_n 0, 1), (73, .iload_n 1, 1), (74, .aload_n 0, 1), (75, .getfield 7, 3), (78, .bipush 18, 2), (80, .iload_n 1, 1), (81, .iadd, 1), (82, .iaload, 1), (83, .ifCond .le 7, 3)] 86 (by decide +kernel) ?_
          refine sb_aload_n rfl ?_
          refine sb_iload_n rfl ?_
          refine sb_aload_n rfl ?_
          refine ss_getR g12_7 h217 r217_1 ?_
          refine sb_bipush cB18 ?_
          refine sb_iload_n rfl ?_
          refine sb_iadd ?_
          obtain ⟨hgz8, h⟩ := gd h
          refine ss_iald h218 hgz8 ?_
          obtain ⟨yz10, hj107, h⟩ := bd h
          have hJ107 : RN P 3 kX12_evening 107 [(0, .ref 217), (1, .int x1)] [.int yz10, .int x1, .ref 217] (S M) r := by
            refine sb_in [(107, .invokevirtual 329, 3)] 110 (by decide +kernel) ?_
            obtain ⟨Mz12, hez11, h⟩ := bd h
            refine sb_callVv 2 rfl oX12_looks ln12_329 vX12_looks (rc_own h217.1 (S_lt h217.2) (by decide)) (rnCk_of (by decide +kernel) rfl) (tfM_looks hez11) ?_
            refine sb_end ?_
            cases h
            exact rn_sub [0, 1] rfl hJ110
          clear h
          have h := hj107
          clear hj107
          rcases ife h with ⟨cz18, h⟩ | ⟨cz18, h⟩
          · refine sb_if_le_t 90 cz18 (by decide) ?_
            refine sb_in [(90, .aload_n 0, 1), (91, .getfield 7, 3), (94, .bipush 18, 2), (96, .iload_n 1, 1), (97, .iadd, 1), (98, .iaload, 1), (99, .ifCond .ge 7, 3)] 102 (by decide +kernel) ?_
            refine sb_aload_n rfl ?_
            refine ss_getR g12_7 h217 r217_1 ?_
            refine sb_bipush cB18 ?_
            refine sb_iload_n rfl ?_
            refine sb_iadd ?_
            obtain ⟨hgz9, h⟩ := gd h
            refine ss_iald h218 hgz9 ?_
            rcases ife h with ⟨cz19, h⟩ | ⟨cz19, h⟩
            · refine sb_if_ge_t 106 cz19 (by decide) ?_
              refine sb_in [(106, .iconst 0, 1)] 107 (by decide +kernel) ?_
              refine sb_iconst cI0 ?_
              refine sb_end ?_
              cases h
              exact rn_sub [0, 1] rfl hJ107
            · refine sb_if_ge_f 106 cz19 (by decide) ?_
              refine sb_in [(102, .iconst 1, 1), (103, .goto 4, 3)] 106 (by decide +kernel) ?_
              refine sb_iconst cI1 ?_
              refine sb_goto 107 (by decide) ?_
              cases h
              exact rn_sub [0, 1] rfl hJ107
          · refine sb_if_le_f 90 cz18 (by decide) ?_
            refine sb_in [(86, .iconst (-1), 1), (87, .goto 20, 3)] 90 (by decide +kernel) ?_
            refine sb_iconst cIm1 ?_
            refine sb_goto 107 (by decide) ?_
            cases h
            exact rn_sub [0, 1] rfl hJ107
        · refine sb_if_ne_t 110 cz17 (by decide) ?_
          cases h
          exact rn_sub [0, 1] rfl hJ110
    · clear hl52
      obtain ⟨Mz14, hey⟩ : ∃ z, z = e52 := ⟨_, rfl⟩
      subst hey
      show RN P 3 kX12_evening 116 [(0, .ref 217)] [] (S Mz14) r
      refine sb_in [(116, .aload_n 0, 1), (117, .getfield 7, 3), (120, .iconst 0, 1), (121, .aload_n 0, 1), (122, .getfield 7, 3), (125, .iconst 0, 1), (126, .iaload, 1), (127, .iconst 1, 1), (128, .iadd, 1), (129, .iastore, 1), (130, .return_, 1)] 131 (by decide +kernel) ?_
      refine sb_aload_n rfl ?_
      refine ss_getR g12_7 h217 r217_1 ?_
      refine sb_iconst cI0 ?_
      refine sb_aload_n rfl ?_
      refine ss_getR g12_7 h217 r217_1 ?_
      refine sb_iconst cI0 ?_
      refine ss_ialdL 0 h218 iL0 rfl ?_
      refine sb_iconst cI1 ?_
      refine sb_iadd ?_
      refine ss_iastL 0 h218 (by decide) iL0 rfl ?_
      cases h
      subst hr
      refine sb_return ?_
      exact rfl
  clear h
  have h := hj47
  clear hj47
  rcases ife h with ⟨cz20, h⟩ | ⟨cz20, h⟩
  · refine sb_icmp_le_t 41 cz20 (by decide) ?_
    refine sb_in [(41, .aload_n 0, 1), (42, .invokevirtual 312, 3), (45, .iconst 3, 1), (46, .iadd, 1)] 47 (by decide +kernel) ?_
    refine sb_aload_n rfl ?_
    refine sb_callVi 0 rfl oX12_health ln12_312 vX12_health (rc_own h217.1 (S_lt h217.2) (by decide)) (rnCk_of (by decide +kernel) rfl) (tfM_health) ?_
    refine sb_iconst cI3 ?_
    refine sb_iadd ?_
    refine sb_end ?_
    cases h
    exact rn_sub [0] rfl hJ47
  · refine sb_icmp_le_f 41 cz20 (by decide) ?_
    refine sb_in [(32, .aload_n 0, 1), (33, .invokevirtual 312, 3), (36, .iconst 5, 1), (37, .isub, 1), (38, .goto 9, 3)] 41 (by decide +kernel) ?_
    refine sb_aload_n rfl ?_
    refine sb_callVi 0 rfl oX12_health ln12_312 vX12_health (rc_own h217.1 (S_lt h217.2) (by decide)) (rnCk_of (by decide +kernel) rfl) (tfM_health) ?_
    refine sb_iconst cI5 ?_
    refine sb_isub ?_
    refine sb_goto 47 (by decide) ?_
    cases h
    exact rn_sub [0] rfl hJ47
theorem tfM_evening {P : Px} {M : Mm} {rr : Mm} (h : fM_evening M = some rr) : EX P 3 kX12_evening [.ref 217] (S M) (none, S rr) := ex_of oX12_evening (Nat.le_of_ble_eq_true rfl) (nfM_evening  h rfl)
set_option maxRecDepth 20000 in
theorem nfM_goesBy {P : Px} {M : Mm} {rr : (Int32 × Mm)} (h : fM_goesBy M = some rr) {r : Option Value × Sg} (hr : r = (some (.int rr.1), S rr.2)) : RN P 8 kX12_goesBy 0 [(0, .ref 217)] [] (S M) r := by
  unfold fM_goesBy at h
  refine sb_in [(0, .aload_n 0, 1), (1, .invokevirtual 381, 3), (4, .aload_n 0, 1), (5, .iconst 0, 1), (6, .putfield 374, 3), (9, .iconst 0, 1), (10, .istore_n 1, 1), (11, .iconst 0, 1), (12, .istore_n 2, 1)] 13 (by decide +kernel) ?_
  refine sb_aload_n rfl ?_
  obtain ⟨Mz2, hez1, h⟩ := bd h
  refine sb_callVv 0 rfl oX12_morning ln12_381 vX12_morning (rc_own h217.1 (S_lt h217.2) (by decide)) (rnCk_of (by decide +kernel) rfl) (tfM_morning hez1) ?_
  refine sb_aload_n rfl ?_
  refine sb_iconst cI0 ?_
  refine ss_putI p12_374 h217 (by decide) ?_
  refine sb_iconst cI0 ?_
  refine sb_istore_n (by decide) rfl ?_
  refine sb_iconst cI0 ?_
  refine sb_istore_n (by decide) rfl ?_
  refine sb_end ?_
  obtain ⟨e13, hl13, h⟩ := bd h
  refine rn_sub [0, 1, 2] rfl ?_
  refine lp_ind (P := fun s => RN P 8 kX12_goesBy 13 [(0, .ref 217), (1, .int s.1), (2, .int s.2.1)] [] (S s.2.2) r) (E := fun p => RN P 8 kX12_goesBy 40 [(0, .ref 217), (1, .int p.1)] [] (S p.2) r) ?_ _ _ _ hl13 ?_
  · intro s qx h hc
    obtain ⟨x1, x2, M⟩ := s
    replace h : fM_goesBy_b13 x1 x2 M = some qx := h
    show RN P 8 kX12_goesBy 13 [(0, .ref 217), (1, .int x1), (2, .int x2)] [] (S M) r
    unfold fM_goesBy_b13 at h
    refine sb_in [(13, .iload_n 2, 1), (14, .aload_n 0, 1), (15, .getfield 291, 3), (18, .if_icmp .ge 22, 3)] 21 (by decide +kernel) ?_
    refine sb_iload_n rfl ?_
    refine sb_aload_n rfl ?_
    refine ss_getI g12_291 h217 ?_
    rcases ife h with ⟨cz14, h⟩ | ⟨cz14, h⟩
    · refine sb_icmp_ge_t 40 cz14 (by decide) ?_
      cases h
      exact rn_sub [0, 1] rfl hc
    · refine sb_icmp_ge_f 40 cz14 (by decide) ?_
      refine sb_in [(21, .iload_n 1, 1), (22, .aload_n 0, 1), (23, .aload_n 0, 1), (24, .getfield 62, 3), (27, .iload_n 2, 1), (28, .iaload, 1), (29, .invokevirtual 384, 3), (32, .iadd, 1), (33, .istore_n 1, 1), (34, .iinc 2 1, 3), (37, .goto (-24), 3)] 40 (by decide +kernel) ?_
      refine sb_iload_n rfl ?_
      refine sb_aload_n rfl ?_
      refine sb_aload_n rfl ?_
      refine ss_getR g12_62 h217 r217_35 ?_
      refine sb_iload_n rfl ?_
      obtain ⟨hgz4, h⟩ := gd h
      refine ss_iald h234 hgz4 ?_
      obtain ⟨qz6, hez5, h⟩ := bd h
      refine sb_callVi 1 rfl oX12_walksTo ln12_384 vX12_walksTo (rc_own h217.1 (S_lt h217.2) (by decide)) (rnCk_of (by decide +kernel) rfl) (tfM_walksTo hez5) ?_
      refine sb_iadd ?_
      refine sb_istore_n (by decide) rfl ?_
      refine ss_iinc cI1 rfl (by decide) rfl ?_
      refine sb_goto 13 (by decide) ?_
      cases h
      exact rn_sub [0, 1, 2] rfl hc
  · clear hl13
    obtain ⟨yz8, Mz9⟩ := e13
    show RN P 8 kX12_goesBy 40 [(0, .ref 217), (1, .int yz8)] [] (S Mz9) r
    refine sb_in [(40, .aload_n 0, 1), (41, .invokevirtual 387, 3), (44, .aload_n 0, 1), (45, .invokevirtual 390, 3), (48, .iload_n 1, 1), (49, .ireturn, 1)] 50 (by decide +kernel) ?_
    refine sb_aload_n rfl ?_
    obtain ⟨Mz11, hez10, h⟩ := bd h
    refine sb_callVv 0 rfl oX12_lettersAge ln12_387 vX12_lettersAge (rc_own h217.1 (S_lt h217.2) (by decide)) (rnCk_of (by decide +kernel) rfl) (tfM_lettersAge hez10) ?_
    refine sb_aload_n rfl ?_
    obtain ⟨Mz13, hez12, h⟩ := bd h
    refine sb_callVv 0 rfl oX12_evening ln12_390 vX12_evening (rc_own h217.1 (S_lt h217.2) (by decide)) (rnCk_of (by decide +kernel) rfl) (tfM_evening hez12) ?_
    refine sb_iload_n rfl ?_
    cases h
    subst hr
    refine sb_ireturn ?_
    exact ⟨.int, rfl, rfl⟩
theorem tfM_goesBy {P : Px} {M : Mm} {rr : (Int32 × Mm)} (h : fM_goesBy M = some rr) : EX P 8 kX12_goesBy [.ref 217] (S M) (some (.int rr.1), S rr.2) := ex_of oX12_goesBy (Nat.le_of_ble_eq_true rfl) (nfM_goesBy  h rfl)
set_option maxRecDepth 20000 in
theorem nfM_days {P : Px} {x1 : Int32} {M : Mm} {rr : (Int32 × Mm)} (h : fM_days x1 M = some rr) {r : Option Value × Sg} (hr : r = (some (.int rr.1), S rr.2)) : RN P 9 kX12_days 0 [(0, .ref 217), (1, .int x1)] [] (S M) r := by
  unfold fM_days at h
  refine sb_in [(0, .aload_n 0, 1), (1, .iconst 0, 1), (2, .putfield 116, 3), (5, .aload_n 0, 1), (6, .iload_n 1, 1), (7, .iconst 1, 1), (8, .bipush 60, 2), (10, .invokevirtual 143, 3), (13, .ifCond .eq 17, 3)] 16 (by decide +kernel) ?_
  refine sb_aload_n rfl ?_
  refine sb_iconst cI0 ?_
  refine ss_putI p12_116 h217 (by decide) ?_
  refine sb_aload_n rfl ?_
  refine sb_iload_n rfl ?_
  refine sb_iconst cI1 ?_
  refine sb_bipush cB60 ?_
  refine sb_callVi 3 rfl oX12_isIn ln12_143 vX12_isIn (rc_own h217.1 (S_lt h217.2) (by decide)) (rnCk_of (by decide +kernel) rfl) (tfM_isIn) ?_
  rcases ife h with ⟨cz10, h⟩ | ⟨cz10, h⟩
  · refine sb_if_eq_t 30 cz10 (by decide) ?_
    refine sb_in [(30, .iconst (-1), 1), (31, .ireturn, 1)] 32 (by decide +kernel) ?_
    refine sb_iconst cIm1 ?_
    cases h
    subst hr
    refine sb_ireturn ?_
    exact ⟨.int, rfl, rfl⟩
  · refine sb_if_eq_f 30 cz10 (by decide) ?_
    refine sb_in [(16, .aload_n 0, 1), (17, .getfield 7, 3), (20, .iconst 0, 1), (21, .iaload, 1), (22, .iload_n 1, 1), (23, .iadd, 1), (24, .sipush 9999, 3), (27, .if_icmp .le 5, 3)] 30 (by decide +kernel) ?_
    refine sb_aload_n rfl ?_
    refine ss_getR g12_7 h217 r217_1 ?_
    refine sb_iconst cI0 ?_
    refine ss_ialdL 0 h218 iL0 rfl ?_
    refine sb_iload_n rfl ?_
    refine sb_iadd ?_
    refine sb_sipush cS9999 ?_
    rcases ife h with ⟨cz11, h⟩ | ⟨cz11, h⟩
    · refine sb_icmp_le_t 32 cz11 (by decide) ?_
      refine sb_in [(32, .iconst 0, 1), (33, .istore_n 2, 1), (34, .iconst 0, 1), (35, .istore_n 3, 1)] 36 (by decide +kernel) ?_
      refine sb_iconst cI0 ?_
      refine sb_istore_n (by decide) rfl ?_
      refine sb_iconst cI0 ?_
      refine sb_istore_n (by decide) rfl ?_
      refine sb_end ?_
      obtain ⟨e36, hl36, h⟩ := bd h
      refine rn_sub [0, 1, 2, 3] rfl ?_
      refine lp_ind (P := fun s => RN P 9 kX12_days 36 [(0, .ref 217), (1, .int x1), (2, .int s.1), (3, .int s.2.1)] [] (S s.2.2) r) (E := fun p => RN P 9 kX12_days 58 [(2, .int p.1)] [] (S p.2) r) ?_ _ _ _ hl36 ?_
      · intro s qx h hc
        obtain ⟨x2, x3, M⟩ := s
        replace h : fM_days_b36 x1 x2 x3 M = some qx := h
        show RN P 9 kX12_days 36 [(0, .ref 217), (1, .int x1), (2, .int x2), (3, .int x3)] [] (S M) r
        unfold fM_days_b36 at h
        refine sb_in [(36, .iload_n 3, 1), (37, .iload_n 1, 1), (38, .if_icmp .ge 20, 3)] 41 (by decide +kernel) ?_
        refine sb_iload_n rfl ?_
        refine sb_iload_n rfl ?_
        rcases ife h with ⟨cz12, h⟩ | ⟨cz12, h⟩
        · refine sb_icmp_ge_t 58 cz12 (by decide) ?_
          cases h
          exact rn_sub [2] rfl hc
        · refine sb_icmp_ge_f 58 cz12 (by decide) ?_
          refine sb_in [(41, .aload_n 0, 1), (42, .invokevirtual 365, 3), (45, .iload_n 2, 1), (46, .aload_n 0, 1), (47, .invokevirtual 393, 3), (50, .iadd, 1), (51, .istore_n 2, 1), (52, .iinc 3 1, 3), (55, .goto (-19), 3)] 58 (by decide +kernel) ?_
          refine sb_aload_n rfl ?_
          obtain ⟨Mz4, hez3, h⟩ := bd h
          refine sb_callVv 0 rfl oX12_keepsAhead ln12_365 vX12_keepsAhead (rc_own h217.1 (S_lt h217.2) (by decide)) (rnCk_of (by decide +kernel) rfl) (tfM_keepsAhead hez3) ?_
          refine sb_iload_n rfl ?_
          refine sb_aload_n rfl ?_
          obtain ⟨qz6, hez5, h⟩ := bd h
          refine sb_callVi 0 rfl oX12_goesBy ln12_393 vX12_goesBy (rc_own h217.1 (S_lt h217.2) (by decide)) (rnCk_of (by decide +kernel) rfl) (tfM_goesBy hez5) ?_
          refine sb_iadd ?_
          refine sb_istore_n (by decide) rfl ?_
          refine ss_iinc cI1 rfl (by decide) rfl ?_
          refine sb_goto 36 (by decide) ?_
          cases h
          exact rn_sub [0, 1, 2, 3] rfl hc
      · clear hl36
        obtain ⟨yz8, Mz9⟩ := e36
        show RN P 9 kX12_days 58 [(2, .int yz8)] [] (S Mz9) r
        refine sb_in [(58, .iload_n 2, 1), (59, .ireturn, 1)] 60 (by decide +kernel) ?_
        refine sb_iload_n rfl ?_
        cases h
        subst hr
        refine sb_ireturn ?_
        exact ⟨.int, rfl, rfl⟩
    · refine sb_icmp_le_f 32 cz11 (by decide) ?_
      refine sb_in [(30, .iconst (-1), 1), (31, .ireturn, 1)] 32 (by decide +kernel) ?_
      refine sb_iconst cIm1 ?_
      cases h
      subst hr
      refine sb_ireturn ?_
      exact ⟨.int, rfl, rfl⟩
theorem tfM_days {P : Px} {x1 : Int32} {M : Mm} {rr : (Int32 × Mm)} (h : fM_days x1 M = some rr) : EX P 9 kX12_days [.ref 217, .int x1] (S M) (some (.int rr.1), S rr.2) := ex_of oX12_days (Nat.le_of_ble_eq_true rfl) (nfM_days  h rfl)
set_option maxRecDepth 20000 in
theorem nfM_of {P : Px} {x1 : Int32} {x2 : Int32} {M : Mm} {rr : (Int32 × Mm)} (h : fM_of x1 x2 M = some rr) {r : Option Value × Sg} (hr : r = (some (.int rr.1), S rr.2)) : RN P 4 kX12_of 0 [(0, .ref 217), (1, .int x1), (2, .int x2)] [] (S M) r := by
  unfold fM_of at h
  refine sb_in [(0, .aload_n 0, 1), (1, .iconst 0, 1), (2, .putfield 116, 3), (5, .aload_n 0, 1), (6, .iload_n 1, 1), (7, .invokevirtual 147, 3), (10, .ifCond .ne 6, 3)] 13 (by decide +kernel) ?_
  refine sb_aload_n rfl ?_
  refine sb_iconst cI0 ?_
  refine ss_putI p12_116 h217 (by decide) ?_
  refine sb_aload_n rfl ?_
  refine sb_iload_n rfl ?_
  refine sb_callVi 1 rfl oX12_isDoor ln12_147 vX12_isDoor (rc_own h217.1 (S_lt h217.2) (by decide)) (rnCk_of (by decide +kernel) rfl) (tfM_isDoor) ?_
  rcases ife h with ⟨cz12, h⟩ | ⟨cz12, h⟩
  · refine sb_if_ne_f 16 cz12 (by decide) ?_
    refine sb_in [(13, .bipush (-100), 2), (15, .ireturn, 1)] 16 (by decide +kernel) ?_
    refine sb_bipush cBm100 ?_
    cases h
    subst hr
    refine sb_ireturn ?_
    exact ⟨.int, rfl, rfl⟩
  · refine sb_if_ne_t 16 cz12 (by decide) ?_
    refine sb_in [(16, .iload_n 2, 1), (17, .ifCond .ne 13, 3)] 20 (by decide +kernel) ?_
    refine sb_iload_n rfl ?_
    rcases ife h with ⟨cz13, h⟩ | ⟨cz13, h⟩
    · refine sb_if_ne_f 30 cz13 (by decide) ?_
      refine sb_in [(20, .aload_n 0, 1), (21, .getfield 7, 3), (24, .bipush 18, 2), (26, .iload_n 1, 1), (27, .iadd, 1), (28, .iaload, 1), (29, .ireturn, 1)] 30 (by decide +kernel) ?_
      refine sb_aload_n rfl ?_
      refine ss_getR g12_7 h217 r217_1 ?_
      refine sb_bipush cB18 ?_
      refine sb_iload_n rfl ?_
      refine sb_iadd ?_
      obtain ⟨hgz11, h⟩ := gd h
      refine ss_iald h218 hgz11 ?_
      cases h
      subst hr
      refine sb_ireturn ?_
      exact ⟨.int, rfl, rfl⟩
    · refine sb_if_ne_t 30 cz13 (by decide) ?_
      refine sb_in [(30, .iload_n 2, 1), (31, .iconst 1, 1), (32, .if_icmp .ne 10, 3)] 35 (by decide +kernel) ?_
      refine sb_iload_n rfl ?_
      refine sb_iconst cI1 ?_
      rcases ife h with ⟨cz14, h⟩ | ⟨cz14, h⟩
      · refine sb_icmp_ne_f 42 cz14 (by decide) ?_
        refine sb_in [(35, .aload_n 0, 1), (36, .getfield 19, 3), (39, .iload_n 1, 1), (40, .iaload, 1), (41, .ireturn, 1)] 42 (by decide +kernel) ?_
        refine sb_aload_n rfl ?_
        refine ss_getR g12_19 h217 r217_7 ?_
        refine sb_iload_n rfl ?_
        obtain ⟨hgz10, h⟩ := gd h
        refine ss_iald h221 hgz10 ?_
        cases h
        subst hr
        refine sb_ireturn ?_
        exact ⟨.int, rfl, rfl⟩
      · refine sb_icmp_ne_t 42 cz14 (by decide) ?_
        refine sb_in [(42, .iload_n 2, 1), (43, .iconst 2, 1), (44, .if_icmp .ne 13, 3)] 47 (by decide +kernel) ?_
        refine sb_iload_n rfl ?_
        refine sb_iconst cI2 ?_
        rcases ife h with ⟨cz15, h⟩ | ⟨cz15, h⟩
        · refine sb_icmp_ne_f 57 cz15 (by decide) ?_
          refine sb_in [(47, .aload_n 0, 1), (48, .getfield 7, 3), (51, .bipush 30, 2), (53, .iload_n 1, 1), (54, .iadd, 1), (55, .iaload, 1), (56, .ireturn, 1)] 57 (by decide +kernel) ?_
          refine sb_aload_n rfl ?_
          refine ss_getR g12_7 h217 r217_1 ?_
          refine sb_bipush cB30 ?_
          refine sb_iload_n rfl ?_
          refine sb_iadd ?_
          obtain ⟨hgz9, h⟩ := gd h
          refine ss_iald h218 hgz9 ?_
          cases h
          subst hr
          refine sb_ireturn ?_
          exact ⟨.int, rfl, rfl⟩
        · refine sb_icmp_ne_t 57 cz15 (by decide) ?_
          refine sb_in [(57, .iload_n 2, 1), (58, .iconst 3, 1), (59, .if_icmp .ne 13, 3)] 62 (by decide +kernel) ?_
          refine sb_iload_n rfl ?_
          refine sb_iconst cI3 ?_
          rcases ife h with ⟨cz16, h⟩ | ⟨cz16, h⟩
          · refine sb_icmp_ne_f 72 cz16 (by decide) ?_
            refine sb_in [(62, .aload_n 0, 1), (63, .getfield 7, 3), (66, .bipush 42, 2), (68, .iload_n 1, 1), (69, .iadd, 1), (70, .iaload, 1), (71, .ireturn, 1)] 72 (by decide +kernel) ?_
            refine sb_aload_n rfl ?_
            refine ss_getR g12_7 h217 r217_1 ?_
            refine sb_bipush cB42 ?_
            refine sb_iload_n rfl ?_
            refine sb_iadd ?_
            obtain ⟨hgz8, h⟩ := gd h
            refine ss_iald h218 hgz8 ?_
            cases h
            subst hr
            refine sb_ireturn ?_
            exact ⟨.int, rfl, rfl⟩
          · refine sb_icmp_ne_t 72 cz16 (by decide) ?_
            refine sb_in [(72, .iload_n 2, 1), (73, .iconst 4, 1), (74, .if_icmp .ne 9, 3)] 77 (by decide +kernel) ?_
            refine sb_iload_n rfl ?_
            refine sb_iconst cI4 ?_
            rcases ife h with ⟨cz17, h⟩ | ⟨cz17, h⟩
            · refine sb_icmp_ne_f 83 cz17 (by decide) ?_
              refine sb_in [(77, .aload_n 0, 1), (78, .iload_n 1, 1), (79, .invokevirtual 396, 3), (82, .ireturn, 1)] 83 (by decide +kernel) ?_
              refine sb_aload_n rfl ?_
              refine sb_iload_n rfl ?_
              obtain ⟨qz7, hez6, h⟩ := bd h
              refine sb_callVi 1 rfl oX12_lettersFor ln12_396 vX12_lettersFor (rc_own h217.1 (S_lt h217.2) (by decide)) (rnCk_of (by decide +kernel) rfl) (tfM_lettersFor hez6) ?_
              cases h
              subst hr
              refine sb_ireturn ?_
              exact ⟨.int, rfl, rfl⟩
            · refine sb_icmp_ne_t 83 cz17 (by decide) ?_
              refine sb_in [(83, .aload_n 0, 1), (84, .iload_n 2, 1), (85, .bipush 10, 2), (87, .bipush 9, 2), (89, .aload_n 0, 1), (90, .getfield 129, 3), (93, .iadd, 1), (94, .invokevirtual 143, 3), (97, .ifCond .ne 6, 3)] 100 (by decide +kernel) ?_
              refine sb_aload_n rfl ?_
              refine sb_iload_n rfl ?_
              refine sb_bipush cB10 ?_
              refine sb_bipush cB9 ?_
              refine sb_aload_n rfl ?_
              refine ss_getI g12_129 h217 ?_
              refine sb_iadd ?_
              refine sb_callVi 3 rfl oX12_isIn ln12_143 vX12_isIn (rc_own h217.1 (S_lt h217.2) (by decide)) (rnCk_of (by decide +kernel) rfl) (tfM_isIn) ?_
              rcases ife h with ⟨cz18, h⟩ | ⟨cz18, h⟩
              · refine sb_if_ne_f 103 cz18 (by decide) ?_
                refine sb_in [(100, .bipush (-100), 2), (102, .ireturn, 1)] 103 (by decide +kernel) ?_
                refine sb_bipush cBm100 ?_
                cases h
                subst hr
                refine sb_ireturn ?_
                exact ⟨.int, rfl, rfl⟩
              · refine sb_if_ne_t 103 cz18 (by decide) ?_
                refine sb_in [(103, .aload_n 0, 1), (104, .getfield 65, 3), (107, .bipush 12, 2), (109, .iload_n 1, 1), (110, .imul, 1), (111, .iload_n 2, 1), (112, .iadd, 1), (113, .bipush 10, 2), (115, .isub, 1), (116, .iaload, 1), (117, .istore_n 3, 1), (118, .iload_n 3, 1), (119, .ifCond .ne 7, 3)] 122 (by decide +kernel) ?_
                refine sb_aload_n rfl ?_
                refine ss_getR g12_65 h217 r217_37 ?_
                refine sb_bipush cB12 ?_
                refine sb_iload_n rfl ?_
                refine sb_imul ?_
                refine sb_iload_n rfl ?_
                refine sb_iadd ?_
                refine sb_bipush cB10 ?_
                refine sb_isub ?_
                obtain ⟨hgz4, h⟩ := gd h
                refine ss_iald h235 hgz4 ?_
                refine sb_istore_n (by decide) rfl ?_
                refine sb_iload_n rfl ?_
                rcases ife h with ⟨cz19, h⟩ | ⟨cz19, h⟩
                · refine sb_if_ne_f 126 cz19 (by decide) ?_
                  refine sb_in [(122, .iconst (-1), 1), (123, .goto 4, 3)] 126 (by decide +kernel) ?_
                  refine sb_iconst cIm1 ?_
                  refine sb_goto 127 (by decide) ?_
                  refine sb_in [(127, .ireturn, 1)] 128 (by decide +kernel) ?_
                  cases h
                  subst hr
                  refine sb_ireturn ?_
                  exact ⟨.int, rfl, rfl⟩
                · refine sb_if_ne_t 126 cz19 (by decide) ?_
                  refine sb_in [(126, .iload_n 3, 1)] 127 (by decide +kernel) ?_
                  refine sb_iload_n rfl ?_
                  refine sb_end ?_
                  refine sb_in [(127, .ireturn, 1)] 128 (by decide +kernel) ?_
                  cases h
                  subst hr
                  refine sb_ireturn ?_
                  exact ⟨.int, rfl, rfl⟩
theorem tfM_of {P : Px} {x1 : Int32} {x2 : Int32} {M : Mm} {rr : (Int32 × Mm)} (h : fM_of x1 x2 M = some rr) : EX P 4 kX12_of [.ref 217, .int x1, .int x2] (S M) (some (.int rr.1), S rr.2) := ex_of oX12_of (Nat.le_of_ble_eq_true rfl) (nfM_of  h rfl)
set_option maxRecDepth 20000 in
theorem nfM_letter {P : Px} {x1 : Int32} {x2 : Int32} {M : Mm} {rr : (Int32 × Mm)} (h : fM_letter x1 x2 M = some rr) {r : Option Value × Sg} (hr : r = (some (.int rr.1), S rr.2)) : RN P 6 kX12_letter 0 [(0, .ref 217), (1, .int x1), (2, .int x2)] [] (S M) r := by
  unfold fM_letter at h
  refine sb_in [(0, .aload_n 0, 1), (1, .iconst 0, 1), (2, .putfield 116, 3), (5, .aload_n 0, 1), (6, .iload_n 1, 1), (7, .iconst 0, 1), (8, .aload_n 0, 1), (9, .getfield 7, 3), (12, .bipush 10, 2), (14, .iaload, 1), (15, .iconst 1, 1), (16, .isub, 1), (17, .invokevirtual 143, 3), (20, .ifCond .eq 14, 3)] 23 (by decide +kernel) ?_
  refine sb_aload_n rfl ?_
  refine sb_iconst cI0 ?_
  refine ss_putI p12_116 h217 (by decide) ?_
  refine sb_aload_n rfl ?_
  refine sb_iload_n rfl ?_
  refine sb_iconst cI0 ?_
  refine sb_aload_n rfl ?_
  refine ss_getR g12_7 h217 r217_1 ?_
  refine sb_bipush cB10 ?_
  refine ss_ialdL 10 h218 iL10 rfl ?_
  refine sb_iconst cI1 ?_
  refine sb_isub ?_
  refine sb_callVi 3 rfl oX12_isIn ln12_143 vX12_isIn (rc_own h217.1 (S_lt h217.2) (by decide)) (rnCk_of (by decide +kernel) rfl) (tfM_isIn) ?_
  rcases ife h with ⟨cz14, h⟩ | ⟨cz14, h⟩
  · refine sb_if_eq_t 34 cz14 (by decide) ?_
    refine sb_in [(34, .iconst (-1), 1), (35, .ireturn, 1)] 36 (by decide +kernel) ?_
    refine sb_iconst cIm1 ?_
    cases h
    subst hr
    refine sb_ireturn ?_
    exact ⟨.int, rfl, rfl⟩
  · refine sb_if_eq_f 34 cz14 (by decide) ?_
    refine sb_in [(23, .aload_n 0, 1), (24, .iload_n 2, 1), (25, .iconst 0, 1), (26, .bipush 7, 2), (28, .invokevirtual 143, 3), (31, .ifCond .ne 5, 3)] 34 (by decide +kernel) ?_
    refine sb_aload_n rfl ?_
    refine sb_iload_n rfl ?_
    refine sb_iconst cI0 ?_
    refine sb_bipush cB7 ?_
    refine sb_callVi 3 rfl oX12_isIn ln12_143 vX12_isIn (rc_own h217.1 (S_lt h217.2) (by decide)) (rnCk_of (by decide +kernel) rfl) (tfM_isIn) ?_
    rcases ife h with ⟨cz15, h⟩ | ⟨cz15, h⟩
    · refine sb_if_ne_f 36 cz15 (by decide) ?_
      refine sb_in [(34, .iconst (-1), 1), (35, .ireturn, 1)] 36 (by decide +kernel) ?_
      refine sb_iconst cIm1 ?_
      cases h
      subst hr
      refine sb_ireturn ?_
      exact ⟨.int, rfl, rfl⟩
    · refine sb_if_ne_t 36 cz15 (by decide) ?_
      refine sb_in [(36, .iload_n 2, 1), (37, .iconst 5, 1), (38, .if_icmp .ge 16, 3)] 41 (by decide +kernel) ?_
      refine sb_iload_n rfl ?_
      refine sb_iconst cI5 ?_
      rcases ife h with ⟨cz16, h⟩ | ⟨cz16, h⟩
      · refine sb_icmp_ge_t 54 cz16 (by decide) ?_
        refine sb_in [(54, .aload_n 0, 1), (55, .iload_n 1, 1), (56, .invokevirtual 341, 3), (59, .iload_n 2, 1), (60, .iconst 5, 1), (61, .if_icmp .ne 10, 3)] 64 (by decide +kernel) ?_
        refine sb_aload_n rfl ?_
        refine sb_iload_n rfl ?_
        obtain ⟨Mz5, hez4, h⟩ := bd h
        refine sb_callVv 1 rfl oX12_asksOf ln12_341 vX12_asksOf (rc_own h217.1 (S_lt h217.2) (by decide)) (rnCk_of (by decide +kernel) rfl) (tfM_asksOf hez4) ?_
        refine sb_iload_n rfl ?_
        refine sb_iconst cI5 ?_
        rcases ife h with ⟨cz17, h⟩ | ⟨cz17, h⟩
        · refine sb_icmp_ne_f 71 cz17 (by decide) ?_
          refine sb_in [(64, .aload_n 0, 1), (65, .invokevirtual 344, 3), (68, .goto 20, 3)] 71 (by decide +kernel) ?_
          refine sb_aload_n rfl ?_
          obtain ⟨qz11, hez10, h⟩ := bd h
          refine sb_callVi 0 rfl oX12_opensNow ln12_344 vX12_opensNow (rc_own h217.1 (S_lt h217.2) (by decide)) (rnCk_of (by decide +kernel) rfl) (tfM_opensNow hez10) ?_
          refine sb_goto 88 (by decide) ?_
          refine sb_in [(88, .ireturn, 1)] 89 (by decide +kernel) ?_
          cases h
          subst hr
          refine sb_ireturn ?_
          exact ⟨.int, rfl, rfl⟩
        · refine sb_icmp_ne_t 71 cz17 (by decide) ?_
          refine sb_in [(71, .iload_n 2, 1), (72, .bipush 6, 2), (74, .if_icmp .ne 10, 3)] 77 (by decide +kernel) ?_
          refine sb_iload_n rfl ?_
          refine sb_bipush cB6 ?_
          rcases ife h with ⟨cz18, h⟩ | ⟨cz18, h⟩
          · refine sb_icmp_ne_f 84 cz18 (by decide) ?_
            refine sb_in [(77, .aload_n 0, 1), (78, .invokevirtual 350, 3), (81, .goto 7, 3)] 84 (by decide +kernel) ?_
            refine sb_aload_n rfl ?_
            obtain ⟨qz9, hez8, h⟩ := bd h
            refine sb_callVi 0 rfl oX12_givesNow ln12_350 vX12_givesNow (rc_own h217.1 (S_lt h217.2) (by decide)) (rnCk_of (by decide +kernel) rfl) (tfM_givesNow hez8) ?_
            refine sb_goto 88 (by decide) ?_
            refine sb_in [(88, .ireturn, 1)] 89 (by decide +kernel) ?_
            cases h
            subst hr
            refine sb_ireturn ?_
            exact ⟨.int, rfl, rfl⟩
          · refine sb_icmp_ne_t 84 cz18 (by decide) ?_
            refine sb_in [(84, .aload_n 0, 1), (85, .invokevirtual 362, 3)] 88 (by decide +kernel) ?_
            refine sb_aload_n rfl ?_
            obtain ⟨qz7, hez6, h⟩ := bd h
            refine sb_callVi 0 rfl oX12_tiresNow ln12_362 vX12_tiresNow (rc_own h217.1 (S_lt h217.2) (by decide)) (rnCk_of (by decide +kernel) rfl) (tfM_tiresNow hez6) ?_
            refine sb_end ?_
            refine sb_in [(88, .ireturn, 1)] 89 (by decide +kernel) ?_
            cases h
            subst hr
            refine sb_ireturn ?_
            exact ⟨.int, rfl, rfl⟩
      · refine sb_icmp_ge_f 54 cz16 (by decide) ?_
        refine sb_in [(41, .aload_n 0, 1), (42, .getfield 7, 3), (45, .aload_n 0, 1), (46, .iload_n 1, 1), (47, .invokevirtual 136, 3), (50, .iload_n 2, 1), (51, .iadd, 1), (52, .iaload, 1), (53, .ireturn, 1)] 54 (by decide +kernel) ?_
        refine sb_aload_n rfl ?_
        refine ss_getR g12_7 h217 r217_1 ?_
        refine sb_aload_n rfl ?_
        refine sb_iload_n rfl ?_
        refine sb_callVi 1 rfl oX12_letterAt ln12_136 vX12_letterAt (rc_own h217.1 (S_lt h217.2) (by decide)) (rnCk_of (by decide +kernel) rfl) (tfM_letterAt) ?_
        refine sb_iload_n rfl ?_
        refine sb_iadd ?_
        obtain ⟨hgz13, h⟩ := gd h
        refine ss_iald h218 hgz13 ?_
        cases h
        subst hr
        refine sb_ireturn ?_
        exact ⟨.int, rfl, rfl⟩
theorem tfM_letter {P : Px} {x1 : Int32} {x2 : Int32} {M : Mm} {rr : (Int32 × Mm)} (h : fM_letter x1 x2 M = some rr) : EX P 6 kX12_letter [.ref 217, .int x1, .int x2] (S M) (some (.int rr.1), S rr.2) := ex_of oX12_letter (Nat.le_of_ble_eq_true rfl) (nfM_letter  h rfl)
set_option maxRecDepth 20000 in
theorem nfM_given {P : Px} {x1 : Int32} {M : Mm} {rr : (Int32 × Mm)} (h : fM_given x1 M = some rr) {r : Option Value × Sg} (hr : r = (some (.int rr.1), S rr.2)) : RN P 2 kX12_given 0 [(0, .ref 217), (1, .int x1)] [] (S M) r := by
  unfold fM_given at h
  refine sb_in [(0, .aload_n 0, 1), (1, .iconst 0, 1), (2, .putfield 116, 3), (5, .aload_n 0, 1), (6, .iload_n 1, 1), (7, .iconst 0, 1), (8, .bipush 6, 2), (10, .invokevirtual 143, 3), (13, .ifCond .eq 15, 3)] 16 (by decide +kernel) ?_
  refine sb_aload_n rfl ?_
  refine sb_iconst cI0 ?_
  refine ss_putI p12_116 h217 (by decide) ?_
  refine sb_aload_n rfl ?_
  refine sb_iload_n rfl ?_
  refine sb_iconst cI0 ?_
  refine sb_bipush cB6 ?_
  refine sb_callVi 3 rfl oX12_isIn ln12_143 vX12_isIn (rc_own h217.1 (S_lt h217.2) (by decide)) (rnCk_of (by decide +kernel) rfl) (tfM_isIn) ?_
  rcases ife h with ⟨cz4, h⟩ | ⟨cz4, h⟩
  · refine sb_if_eq_t 28 cz4 (by decide) ?_
    refine sb_in [(28, .iconst (-1), 1)] 29 (by decide +kernel) ?_
    refine sb_iconst cIm1 ?_
    refine sb_end ?_
    refine sb_in [(29, .ireturn, 1)] 30 (by decide +kernel) ?_
    cases h
    subst hr
    refine sb_ireturn ?_
    exact ⟨.int, rfl, rfl⟩
  · refine sb_if_eq_f 28 cz4 (by decide) ?_
    refine sb_in [(16, .aload_n 0, 1), (17, .getfield 7, 3), (20, .bipush 11, 2), (22, .iload_n 1, 1), (23, .iadd, 1), (24, .iaload, 1), (25, .goto 4, 3)] 28 (by decide +kernel) ?_
    refine sb_aload_n rfl ?_
    refine ss_getR g12_7 h217 r217_1 ?_
    refine sb_bipush cB11 ?_
    refine sb_iload_n rfl ?_
    refine sb_iadd ?_
    obtain ⟨hgz3, h⟩ := gd h
    refine ss_iald h218 hgz3 ?_
    refine sb_goto 29 (by decide) ?_
    refine sb_in [(29, .ireturn, 1)] 30 (by decide +kernel) ?_
    cases h
    subst hr
    refine sb_ireturn ?_
    exact ⟨.int, rfl, rfl⟩
theorem tfM_given {P : Px} {x1 : Int32} {M : Mm} {rr : (Int32 × Mm)} (h : fM_given x1 M = some rr) : EX P 2 kX12_given [.ref 217, .int x1] (S M) (some (.int rr.1), S rr.2) := ex_of oX12_given (Nat.le_of_ble_eq_true rfl) (nfM_given  h rfl)
set_option maxRecDepth 20000 in
theorem nfM_book {P : Px} {x1 : Int32} {x2 : Int32} {M : Mm} {rr : (Int32 × Mm)} (h : fM_book x1 x2 M = some rr) {r : Option Value × Sg} (hr : r = (some (.int rr.1), S rr.2)) : RN P 2 kX12_book 0 [(0, .ref 217), (1, .int x1), (2, .int x2)] [] (S M) r := by
  unfold fM_book at h
  refine sb_in [(0, .aload_n 0, 1), (1, .iconst 0, 1), (2, .putfield 116, 3), (5, .aload_n 0, 1), (6, .iload_n 1, 1), (7, .iconst 0, 1), (8, .aload_n 0, 1), (9, .getfield 7, 3), (12, .iconst 2, 1), (13, .iaload, 1), (14, .iconst 1, 1), (15, .isub, 1), (16, .invokevirtual 143, 3), (19, .ifCond .eq 26, 3)] 22 (by decide +kernel) ?_
  refine sb_aload_n rfl ?_
  refine sb_iconst cI0 ?_
  refine ss_putI p12_116 h217 (by decide) ?_
  refine sb_aload_n rfl ?_
  refine sb_iload_n rfl ?_
  refine sb_iconst cI0 ?_
  refine sb_aload_n rfl ?_
  refine ss_getR g12_7 h217 r217_1 ?_
  refine sb_iconst cI2 ?_
  refine ss_ialdL 2 h218 iL2 rfl ?_
  refine sb_iconst cI1 ?_
  refine sb_isub ?_
  refine sb_callVi 3 rfl oX12_isIn ln12_143 vX12_isIn (rc_own h217.1 (S_lt h217.2) (by decide)) (rnCk_of (by decide +kernel) rfl) (tfM_isIn) ?_
  rcases ife h with ⟨cz5, h⟩ | ⟨cz5, h⟩
  · refine sb_if_eq_t 45 cz5 (by decide) ?_
    refine sb_in [(45, .bipush (-2), 2)] 47 (by decide +kernel) ?_
    refine sb_bipush cBm2 ?_
    refine sb_end ?_
    refine sb_in [(47, .ireturn, 1)] 48 (by decide +kernel) ?_
    cases h
    subst hr
    refine sb_ireturn ?_
    exact ⟨.int, rfl, rfl⟩
  · refine sb_if_eq_f 45 cz5 (by decide) ?_
    refine sb_in [(22, .aload_n 0, 1), (23, .iload_n 2, 1), (24, .iconst 0, 1), (25, .iconst 3, 1), (26, .invokevirtual 143, 3), (29, .ifCond .eq 16, 3)] 32 (by decide +kernel) ?_
    refine sb_aload_n rfl ?_
    refine sb_iload_n rfl ?_
    refine sb_iconst cI0 ?_
    refine sb_iconst cI3 ?_
    refine sb_callVi 3 rfl oX12_isIn ln12_143 vX12_isIn (rc_own h217.1 (S_lt h217.2) (by decide)) (rnCk_of (by decide +kernel) rfl) (tfM_isIn) ?_
    rcases ife h with ⟨cz6, h⟩ | ⟨cz6, h⟩
    · refine sb_if_eq_t 45 cz6 (by decide) ?_
      refine sb_in [(45, .bipush (-2), 2)] 47 (by decide +kernel) ?_
      refine sb_bipush cBm2 ?_
      refine sb_end ?_
      refine sb_in [(47, .ireturn, 1)] 48 (by decide +kernel) ?_
      cases h
      subst hr
      refine sb_ireturn ?_
      exact ⟨.int, rfl, rfl⟩
    · refine sb_if_eq_f 45 cz6 (by decide) ?_
      refine sb_in [(32, .aload_n 0, 1), (33, .getfield 22, 3), (36, .iconst 4, 1), (37, .iload_n 1, 1), (38, .imul, 1), (39, .iload_n 2, 1), (40, .iadd, 1), (41, .iaload, 1), (42, .goto 5, 3)] 45 (by decide +kernel) ?_
      refine sb_aload_n rfl ?_
      refine ss_getR g12_22 h217 r217_8 ?_
      refine sb_iconst cI4 ?_
      refine sb_iload_n rfl ?_
      refine sb_imul ?_
      refine sb_iload_n rfl ?_
      refine sb_iadd ?_
      obtain ⟨hgz4, h⟩ := gd h
      refine ss_iald h222 hgz4 ?_
      refine sb_goto 47 (by decide) ?_
      refine sb_in [(47, .ireturn, 1)] 48 (by decide +kernel) ?_
      cases h
      subst hr
      refine sb_ireturn ?_
      exact ⟨.int, rfl, rfl⟩
theorem tfM_book {P : Px} {x1 : Int32} {x2 : Int32} {M : Mm} {rr : (Int32 × Mm)} (h : fM_book x1 x2 M = some rr) : EX P 2 kX12_book [.ref 217, .int x1, .int x2] (S M) (some (.int rr.1), S rr.2) := ex_of oX12_book (Nat.le_of_ble_eq_true rfl) (nfM_book  h rfl)
set_option maxRecDepth 20000 in
theorem nfM_goes {P : Px} {x1 : Int32} {x2 : Int32} {M : Mm} {rr : (Int32 × Mm)} (h : fM_goes x1 x2 M = some rr) {r : Option Value × Sg} (hr : r = (some (.int rr.1), S rr.2)) : RN P 9 kX12_goes 0 [(0, .ref 217), (1, .int x1), (2, .int x2)] [] (S M) r := by
  unfold fM_goes at h
  refine sb_in [(0, .aload_n 0, 1), (1, .iconst 0, 1), (2, .putfield 116, 3), (5, .aload_n 0, 1), (6, .iload_n 1, 1), (7, .iconst 1, 1), (8, .bipush 60, 2), (10, .invokevirtual 143, 3), (13, .ifCond .eq 13, 3)] 16 (by decide +kernel) ?_
  refine sb_aload_n rfl ?_
  refine sb_iconst cI0 ?_
  refine ss_putI p12_116 h217 (by decide) ?_
  refine sb_aload_n rfl ?_
  refine sb_iload_n rfl ?_
  refine sb_iconst cI1 ?_
  refine sb_bipush cB60 ?_
  refine sb_callVi 3 rfl oX12_isIn ln12_143 vX12_isIn (rc_own h217.1 (S_lt h217.2) (by decide)) (rnCk_of (by decide +kernel) rfl) (tfM_isIn) ?_
  rcases ife h with ⟨cz13, h⟩ | ⟨cz13, h⟩
  · refine sb_if_eq_t 26 cz13 (by decide) ?_
    refine sb_in [(26, .iconst (-1), 1), (27, .ireturn, 1)] 28 (by decide +kernel) ?_
    refine sb_iconst cIm1 ?_
    cases h
    subst hr
    refine sb_ireturn ?_
    exact ⟨.int, rfl, rfl⟩
  · refine sb_if_eq_f 26 cz13 (by decide) ?_
    refine sb_in [(16, .aload_n 0, 1), (17, .iload_n 2, 1), (18, .iconst 0, 1), (19, .iconst 3, 1), (20, .invokevirtual 143, 3), (23, .ifCond .ne 5, 3)] 26 (by decide +kernel) ?_
    refine sb_aload_n rfl ?_
    refine sb_iload_n rfl ?_
    refine sb_iconst cI0 ?_
    refine sb_iconst cI3 ?_
    refine sb_callVi 3 rfl oX12_isIn ln12_143 vX12_isIn (rc_own h217.1 (S_lt h217.2) (by decide)) (rnCk_of (by decide +kernel) rfl) (tfM_isIn) ?_
    rcases ife h with ⟨cz14, h⟩ | ⟨cz14, h⟩
    · refine sb_if_ne_f 28 cz14 (by decide) ?_
      refine sb_in [(26, .iconst (-1), 1), (27, .ireturn, 1)] 28 (by decide +kernel) ?_
      refine sb_iconst cIm1 ?_
      cases h
      subst hr
      refine sb_ireturn ?_
      exact ⟨.int, rfl, rfl⟩
    · refine sb_if_ne_t 28 cz14 (by decide) ?_
      refine sb_in [(28, .aload_n 0, 1), (29, .invokevirtual 399, 3), (32, .iconst 0, 1), (33, .istore_n 3, 1)] 34 (by decide +kernel) ?_
      refine sb_aload_n rfl ?_
      obtain ⟨Mz5, hez4, h⟩ := bd h
      refine sb_callVv 0 rfl oX12_thinks ln12_399 vX12_thinks (rc_own h217.1 (S_lt h217.2) (by decide)) (rnCk_of (by decide +kernel) rfl) (tfM_thinks hez4) ?_
      refine sb_iconst cI0 ?_
      refine sb_istore_n (by decide) rfl ?_
      refine sb_end ?_
      obtain ⟨e34, hl34, h⟩ := bd h
      refine rn_sub [0, 1, 2, 3] rfl ?_
      refine lp_ind (P := fun s => RN P 9 kX12_goes 34 [(0, .ref 217), (1, .int x1), (2, .int x2), (3, .int s.1)] [] (S s.2) r) (E := fun p => RN P 9 kX12_goes 50 [(0, .ref 217), (2, .int x2)] [] (S p) r) ?_ _ _ _ hl34 ?_
      · intro s qx h hc
        obtain ⟨x3, M⟩ := s
        replace h : fM_goes_b34 x1 x2 x3 M = some qx := h
        show RN P 9 kX12_goes 34 [(0, .ref 217), (1, .int x1), (2, .int x2), (3, .int x3)] [] (S M) r
        unfold fM_goes_b34 at h
        refine sb_in [(34, .iload_n 3, 1), (35, .iload_n 1, 1), (36, .if_icmp .ge 14, 3)] 39 (by decide +kernel) ?_
        refine sb_iload_n rfl ?_
        refine sb_iload_n rfl ?_
        rcases ife h with ⟨cz15, h⟩ | ⟨cz15, h⟩
        · refine sb_icmp_ge_t 50 cz15 (by decide) ?_
          cases h
          exact rn_sub [0, 2] rfl hc
        · refine sb_icmp_ge_f 50 cz15 (by decide) ?_
          refine sb_in [(39, .aload_n 0, 1), (40, .invokevirtual 393, 3), (43, .pop, 1), (44, .iinc 3 1, 3), (47, .goto (-13), 3)] 50 (by decide +kernel) ?_
          refine sb_aload_n rfl ?_
          obtain ⟨qz7, hez6, h⟩ := bd h
          refine sb_callVi 0 rfl oX12_goesBy ln12_393 vX12_goesBy (rc_own h217.1 (S_lt h217.2) (by decide)) (rnCk_of (by decide +kernel) rfl) (tfM_goesBy hez6) ?_
          refine sb_pop rfl ?_
          refine ss_iinc cI1 rfl (by decide) rfl ?_
          refine sb_goto 34 (by decide) ?_
          cases h
          exact rn_sub [0, 1, 2, 3] rfl hc
      · clear hl34
        obtain ⟨Mz8, hey⟩ : ∃ z, z = e34 := ⟨_, rfl⟩
        subst hey
        show RN P 9 kX12_goes 50 [(0, .ref 217), (2, .int x2)] [] (S Mz8) r
        refine sb_in [(50, .iload_n 2, 1), (51, .ifCond .ne 10, 3)] 54 (by decide +kernel) ?_
        refine sb_iload_n rfl ?_
        obtain ⟨yz10, hj97, h⟩ := bd h
        have hJ97 : RN P 9 kX12_goes 97 [(0, .ref 217)] [.int yz10] (S Mz8) r := by
          refine sb_in [(97, .istore_n 3, 1), (98, .aload_n 0, 1), (99, .invokevirtual 402, 3), (102, .iload_n 3, 1), (103, .ireturn, 1)] 104 (by decide +kernel) ?_
          refine sb_istore_n (by decide) rfl ?_
          refine sb_aload_n rfl ?_
          obtain ⟨Mz12, hez11, h⟩ := bd h
          refine sb_callVv 0 rfl oX12_endsThought ln12_402 vX12_endsThought (rc_own h217.1 (S_lt h217.2) (by decide)) (rnCk_of (by decide +kernel) rfl) (tfM_endsThought hez11) ?_
          refine sb_iload_n rfl ?_
          cases h
          subst hr
          refine sb_ireturn ?_
          exact ⟨.int, rfl, rfl⟩
        clear h
        have h := hj97
        clear hj97
        rcases ife h with ⟨cz16, h⟩ | ⟨cz16, h⟩
        · refine sb_if_ne_f 61 cz16 (by decide) ?_
          refine sb_in [(54, .aload_n 0, 1), (55, .invokevirtual 312, 3), (58, .goto 39, 3)] 61 (by decide +kernel) ?_
          refine sb_aload_n rfl ?_
          refine sb_callVi 0 rfl oX12_health ln12_312 vX12_health (rc_own h217.1 (S_lt h217.2) (by decide)) (rnCk_of (by decide +kernel) rfl) (tfM_health) ?_
          refine sb_goto 97 (by decide) ?_
          cases h
          exact rn_sub [0] rfl hJ97
        · refine sb_if_ne_t 61 cz16 (by decide) ?_
          refine sb_in [(61, .iload_n 2, 1), (62, .iconst 1, 1), (63, .if_icmp .ne 12, 3)] 66 (by decide +kernel) ?_
          refine sb_iload_n rfl ?_
          refine sb_iconst cI1 ?_
          rcases ife h with ⟨cz17, h⟩ | ⟨cz17, h⟩
          · refine sb_icmp_ne_f 75 cz17 (by decide) ?_
            refine sb_in [(66, .aload_n 0, 1), (67, .getfield 7, 3), (70, .iconst 5, 1), (71, .iaload, 1), (72, .goto 25, 3)] 75 (by decide +kernel) ?_
            refine sb_aload_n rfl ?_
            refine ss_getR g12_7 h217 r217_1 ?_
            refine sb_iconst cI5 ?_
            refine ss_ialdL 5 h218 iL5 rfl ?_
            refine sb_goto 97 (by decide) ?_
            cases h
            exact rn_sub [0] rfl hJ97
          · refine sb_icmp_ne_t 75 cz17 (by decide) ?_
            refine sb_in [(75, .iload_n 2, 1), (76, .iconst 2, 1), (77, .if_icmp .ne 13, 3)] 80 (by decide +kernel) ?_
            refine sb_iload_n rfl ?_
            refine sb_iconst cI2 ?_
            rcases ife h with ⟨cz18, h⟩ | ⟨cz18, h⟩
            · refine sb_icmp_ne_f 90 cz18 (by decide) ?_
              refine sb_in [(80, .aload_n 0, 1), (81, .getfield 7, 3), (84, .bipush 10, 2), (86, .iaload, 1), (87, .goto 10, 3)] 90 (by decide +kernel) ?_
              refine sb_aload_n rfl ?_
              refine ss_getR g12_7 h217 r217_1 ?_
              refine sb_bipush cB10 ?_
              refine ss_ialdL 10 h218 iL10 rfl ?_
              refine sb_goto 97 (by decide) ?_
              cases h
              exact rn_sub [0] rfl hJ97
            · refine sb_icmp_ne_t 90 cz18 (by decide) ?_
              refine sb_in [(90, .aload_n 0, 1), (91, .getfield 7, 3), (94, .bipush 7, 2), (96, .iaload, 1)] 97 (by decide +kernel) ?_
              refine sb_aload_n rfl ?_
              refine ss_getR g12_7 h217 r217_1 ?_
              refine sb_bipush cB7 ?_
              refine ss_ialdL 7 h218 iL7 rfl ?_
              refine sb_end ?_
              cases h
              exact rn_sub [0] rfl hJ97
theorem tfM_goes {P : Px} {x1 : Int32} {x2 : Int32} {M : Mm} {rr : (Int32 × Mm)} (h : fM_goes x1 x2 M = some rr) : EX P 9 kX12_goes [.ref 217, .int x1, .int x2] (S M) (some (.int rr.1), S rr.2) := ex_of oX12_goes (Nat.le_of_ble_eq_true rfl) (nfM_goes  h rfl)
set_option maxRecDepth 20000 in
theorem nfM_findsWays {P : Px} {M : Mm} {rr : Mm} (h : fM_findsWays M = some rr) {r : Option Value × Sg} (hr : r = (none, S rr)) : RN P 2 kX12_findsWays 0 [(0, .ref 217)] [] (S M) r := by
  unfold fM_findsWays at h
  refine sb_in [(0, .iconst 0, 1), (1, .istore_n 1, 1)] 2 (by decide +kernel) ?_
  refine sb_iconst cI0 ?_
  refine sb_istore_n (by decide) rfl ?_
  refine sb_end ?_
  obtain ⟨e2, hl2, h⟩ := bd h
  refine rn_sub [0, 1] rfl ?_
  refine lp_ind (P := fun s => RN P 2 kX12_findsWays 2 [(0, .ref 217), (1, .int s.1)] [] (S s.2) r) (E := fun p => RN P 2 kX12_findsWays 83 [(0, .ref 217)] [] (S p) r) ?_ _ _ _ hl2 ?_
  · intro s qx h hc
    obtain ⟨x1, M⟩ := s
    replace h : fM_findsWays_b2 x1 M = some qx := h
    show RN P 2 kX12_findsWays 2 [(0, .ref 217), (1, .int x1)] [] (S M) r
    unfold fM_findsWays_b2 at h
    refine sb_in [(2, .iload_n 1, 1), (3, .aload_n 0, 1), (4, .getfield 129, 3), (7, .if_icmp .ge 76, 3)] 10 (by decide +kernel) ?_
    refine sb_iload_n rfl ?_
    refine sb_aload_n rfl ?_
    refine ss_getI g12_129 h217 ?_
    rcases ife h with ⟨cz17, h⟩ | ⟨cz17, h⟩
    · refine sb_icmp_ge_t 83 cz17 (by decide) ?_
      cases h
      exact rn_sub [0] rfl hc
    · refine sb_icmp_ge_f 83 cz17 (by decide) ?_
      refine sb_in [(10, .iconst 0, 1), (11, .istore_n 2, 1)] 12 (by decide +kernel) ?_
      refine sb_iconst cI0 ?_
      refine sb_istore_n (by decide) rfl ?_
      refine sb_end ?_
      obtain ⟨e12, hl12, h⟩ := bd h
      refine rn_sub [0, 1, 2] rfl ?_
      refine lp_ind (P := fun s => RN P 2 kX12_findsWays 12 [(0, .ref 217), (1, .int x1), (2, .int s.1)] [] (S s.2) r) (E := fun p => RN P 2 kX12_findsWays 77 [(0, .ref 217), (1, .int x1)] [] (S p) r) ?_ _ _ _ hl12 ?_
      · intro s qx h hc
        obtain ⟨x2, M⟩ := s
        replace h : fM_findsWays_b12 x1 x2 M = some qx := h
        show RN P 2 kX12_findsWays 12 [(0, .ref 217), (1, .int x1), (2, .int x2)] [] (S M) r
        unfold fM_findsWays_b12 at h
        refine sb_in [(12, .iload_n 2, 1), (13, .aload_n 0, 1), (14, .getfield 129, 3), (17, .if_icmp .ge 60, 3)] 20 (by decide +kernel) ?_
        refine sb_iload_n rfl ?_
        refine sb_aload_n rfl ?_
        refine ss_getI g12_129 h217 ?_
        rcases ife h with ⟨cz18, h⟩ | ⟨cz18, h⟩
        · refine sb_icmp_ge_t 77 cz18 (by decide) ?_
          cases h
          exact rn_sub [0, 1] rfl hc
        · refine sb_icmp_ge_f 77 cz18 (by decide) ?_
          refine sb_in [(20, .aload_n 0, 1), (21, .getfield 74, 3), (24, .bipush 12, 2), (26, .iload_n 1, 1), (27, .imul, 1), (28, .iload_n 2, 1), (29, .iadd, 1), (30, .iload_n 1, 1), (31, .iload_n 2, 1), (32, .if_icmp .ne 7, 3)] 35 (by decide +kernel) ?_
          refine sb_aload_n rfl ?_
          refine ss_getR g12_74 h217 r217_41 ?_
          refine sb_bipush cB12 ?_
          refine sb_iload_n rfl ?_
          refine sb_imul ?_
          refine sb_iload_n rfl ?_
          refine sb_iadd ?_
          refine sb_iload_n rfl ?_
          refine sb_iload_n rfl ?_
          obtain ⟨yz3, hj70, h⟩ := bd h
          have hJ70 : RN P 2 kX12_findsWays 70 [(0, .ref 217), (1, .int x1), (2, .int x2)] [.int yz3, .int ((12 * x1) + x2), .ref 238] (S M) r := by
            refine sb_in [(70, .iastore, 1), (71, .iinc 2 1, 3), (74, .goto (-62), 3)] 77 (by decide +kernel) ?_
            obtain ⟨hgz5, h⟩ := gd h
            refine ss_iast h238 (by decide) hgz5 ?_
            refine ss_iinc cI1 rfl (by decide) rfl ?_
            refine sb_goto 12 (by decide) ?_
            cases h
            exact rn_sub [0, 1, 2] rfl hc
          clear h
          have h := hj70
          clear hj70
          rcases ife h with ⟨cz19, h⟩ | ⟨cz19, h⟩
          · refine sb_icmp_ne_f 39 cz19 (by decide) ?_
            refine sb_in [(35, .iconst 0, 1), (36, .goto 34, 3)] 39 (by decide +kernel) ?_
            refine sb_iconst cI0 ?_
            refine sb_goto 70 (by decide) ?_
            cases h
            exact rn_sub [0, 1, 2] rfl hJ70
          · refine sb_icmp_ne_t 39 cz19 (by decide) ?_
            refine sb_in [(39, .aload_n 0, 1), (40, .getfield 65, 3), (43, .bipush 12, 2), (45, .iload_n 1, 1), (46, .imul, 1), (47, .iload_n 2, 1), (48, .iadd, 1), (49, .iaload, 1), (50, .ifCond .ne 9, 3)] 53 (by decide +kernel) ?_
            refine sb_aload_n rfl ?_
            refine ss_getR g12_65 h217 r217_37 ?_
            refine sb_bipush cB12 ?_
            refine sb_iload_n rfl ?_
            refine sb_imul ?_
            refine sb_iload_n rfl ?_
            refine sb_iadd ?_
            obtain ⟨hgz1, h⟩ := gd h
            refine ss_iald h235 hgz1 ?_
            rcases ife h with ⟨cz20, h⟩ | ⟨cz20, h⟩
            · refine sb_if_ne_f 59 cz20 (by decide) ?_
              refine sb_in [(53, .ldc_w 405, 3), (56, .goto 14, 3)] 59 (by decide +kernel) ?_
              refine sb_ldcw (v := 100000000) rfl ?_
              refine sb_goto 70 (by decide) ?_
              cases h
              exact rn_sub [0, 1, 2] rfl hJ70
            · refine sb_if_ne_t 59 cz20 (by decide) ?_
              refine sb_in [(59, .aload_n 0, 1), (60, .getfield 65, 3), (63, .bipush 12, 2), (65, .iload_n 1, 1), (66, .imul, 1), (67, .iload_n 2, 1), (68, .iadd, 1), (69, .iaload, 1)] 70 (by decide +kernel) ?_
              refine sb_aload_n rfl ?_
              refine ss_getR g12_65 h217 r217_37 ?_
              refine sb_bipush cB12 ?_
              refine sb_iload_n rfl ?_
              refine sb_imul ?_
              refine sb_iload_n rfl ?_
              refine sb_iadd ?_
              obtain ⟨hgz2, h⟩ := gd h
              refine ss_iald h235 hgz2 ?_
              refine sb_end ?_
              cases h
              exact rn_sub [0, 1, 2] rfl hJ70
      · clear hl12
        obtain ⟨Mz6, hey⟩ : ∃ z, z = e12 := ⟨_, rfl⟩
        subst hey
        show RN P 2 kX12_findsWays 77 [(0, .ref 217), (1, .int x1)] [] (S Mz6) r
        refine sb_in [(77, .iinc 1 1, 3), (80, .goto (-78), 3)] 83 (by decide +kernel) ?_
        refine ss_iinc cI1 rfl (by decide) rfl ?_
        refine sb_goto 2 (by decide) ?_
        cases h
        exact rn_sub [0, 1] rfl hc
  · clear hl2
    obtain ⟨Mz7, hey⟩ : ∃ z, z = e2 := ⟨_, rfl⟩
    subst hey
    show RN P 2 kX12_findsWays 83 [(0, .ref 217)] [] (S Mz7) r
    refine sb_in [(83, .iconst 0, 1), (84, .istore_n 1, 1)] 85 (by decide +kernel) ?_
    refine sb_iconst cI0 ?_
    refine sb_istore_n (by decide) rfl ?_
    refine sb_end ?_
    obtain ⟨e85, hl85, h⟩ := bd h
    refine rn_sub [0, 1] rfl ?_
    refine lp_ind (P := fun s => RN P 2 kX12_findsWays 85 [(0, .ref 217), (1, .int s.1)] [] (S s.2) r) (E := fun p => RN P 2 kX12_findsWays 180 [] [] (S p) r) ?_ _ _ _ hl85 ?_
    · intro s qx h hc
      obtain ⟨x1, M⟩ := s
      replace h : fM_findsWays_b85 x1 M = some qx := h
      show RN P 2 kX12_findsWays 85 [(0, .ref 217), (1, .int x1)] [] (S M) r
      unfold fM_findsWays_b85 at h
      refine sb_in [(85, .iload_n 1, 1), (86, .aload_n 0, 1), (87, .getfield 129, 3), (90, .if_icmp .ge 90, 3)] 93 (by decide +kernel) ?_
      refine sb_iload_n rfl ?_
      refine sb_aload_n rfl ?_
      refine ss_getI g12_129 h217 ?_
      rcases ife h with ⟨cz21, h⟩ | ⟨cz21, h⟩
      · refine sb_icmp_ge_t 180 cz21 (by decide) ?_
        cases h
        exact rn_sub [] rfl hc
      · refine sb_icmp_ge_f 180 cz21 (by decide) ?_
        refine sb_in [(93, .iconst 0, 1), (94, .istore_n 2, 1)] 95 (by decide +kernel) ?_
        refine sb_iconst cI0 ?_
        refine sb_istore_n (by decide) rfl ?_
        refine sb_end ?_
        obtain ⟨e95, hl95, h⟩ := bd h
        refine rn_sub [0, 1, 2] rfl ?_
        refine lp_ind (P := fun s => RN P 2 kX12_findsWays 95 [(0, .ref 217), (1, .int x1), (2, .int s.1)] [] (S s.2) r) (E := fun p => RN P 2 kX12_findsWays 174 [(0, .ref 217), (1, .int x1)] [] (S p) r) ?_ _ _ _ hl95 ?_
        · intro s qx h hc
          obtain ⟨x2, M⟩ := s
          replace h : fM_findsWays_b95 x1 x2 M = some qx := h
          show RN P 2 kX12_findsWays 95 [(0, .ref 217), (1, .int x1), (2, .int x2)] [] (S M) r
          unfold fM_findsWays_b95 at h
          refine sb_in [(95, .iload_n 2, 1), (96, .aload_n 0, 1), (97, .getfield 129, 3), (100, .if_icmp .ge 74, 3)] 103 (by decide +kernel) ?_
          refine sb_iload_n rfl ?_
          refine sb_aload_n rfl ?_
          refine ss_getI g12_129 h217 ?_
          rcases ife h with ⟨cz22, h⟩ | ⟨cz22, h⟩
          · refine sb_icmp_ge_t 174 cz22 (by decide) ?_
            cases h
            exact rn_sub [0, 1] rfl hc
          · refine sb_icmp_ge_f 174 cz22 (by decide) ?_
            refine sb_in [(103, .iconst 0, 1), (104, .istore_n 3, 1)] 105 (by decide +kernel) ?_
            refine sb_iconst cI0 ?_
            refine sb_istore_n (by decide) rfl ?_
            refine sb_end ?_
            obtain ⟨e105, hl105, h⟩ := bd h
            refine rn_sub [0, 1, 2, 3] rfl ?_
            refine lp_ind (P := fun s => RN P 2 kX12_findsWays 105 [(0, .ref 217), (1, .int x1), (2, .int x2), (3, .int s.1)] [] (S s.2) r) (E := fun p => RN P 2 kX12_findsWays 168 [(0, .ref 217), (1, .int x1), (2, .int x2)] [] (S p) r) ?_ _ _ _ hl105 ?_
            · intro s qx h hc
              obtain ⟨x3, M⟩ := s
              replace h : fM_findsWays_b105 x1 x2 x3 M = some qx := h
              show RN P 2 kX12_findsWays 105 [(0, .ref 217), (1, .int x1), (2, .int x2), (3, .int x3)] [] (S M) r
              unfold fM_findsWays_b105 at h
              refine sb_in [(105, .iload_n 3, 1), (106, .aload_n 0, 1), (107, .getfield 129, 3), (110, .if_icmp .ge 58, 3)] 113 (by decide +kernel) ?_
              refine sb_iload_n rfl ?_
              refine sb_aload_n rfl ?_
              refine ss_getI g12_129 h217 ?_
              rcases ife h with ⟨cz23, h⟩ | ⟨cz23, h⟩
              · refine sb_icmp_ge_t 168 cz23 (by decide) ?_
                cases h
                exact rn_sub [0, 1, 2] rfl hc
              · refine sb_icmp_ge_f 168 cz23 (by decide) ?_
                refine sb_in [(113, .aload_n 0, 1), (114, .getfield 74, 3), (117, .bipush 12, 2), (119, .iload_n 2, 1), (120, .imul, 1), (121, .iload_n 3, 1), (122, .iadd, 1), (123, .aload_n 0, 1), (124, .aload_n 0, 1), (125, .getfield 74, 3), (128, .bipush 12, 2), (130, .iload_n 2, 1), (131, .imul, 1), (132, .iload_n 3, 1), (133, .iadd, 1), (134, .iaload, 1), (135, .aload_n 0, 1), (136, .getfield 74, 3), (139, .bipush 12, 2), (141, .iload_n 2, 1), (142, .imul, 1), (143, .iload_n 1, 1), (144, .iadd, 1), (145, .iaload, 1), (146, .aload_n 0, 1), (147, .getfield 74, 3), (150, .bipush 12, 2), (152, .iload_n 1, 1), (153, .imul, 1), (154, .iload_n 3, 1), (155, .iadd, 1), (156, .iaload, 1), (157, .iadd, 1), (158, .invokevirtual 353, 3), (161, .iastore, 1), (162, .iinc 3 1, 3), (165, .goto (-60), 3)] 168 (by decide +kernel) ?_
                refine sb_aload_n rfl ?_
                refine ss_getR g12_74 h217 r217_41 ?_
                refine sb_bipush cB12 ?_
                refine sb_iload_n rfl ?_
                refine sb_imul ?_
                refine sb_iload_n rfl ?_
                refine sb_iadd ?_
                refine sb_aload_n rfl ?_
                refine sb_aload_n rfl ?_
                refine ss_getR g12_74 h217 r217_41 ?_
                refine sb_bipush cB12 ?_
                refine sb_iload_n rfl ?_
                refine sb_imul ?_
                refine sb_iload_n rfl ?_
                refine sb_iadd ?_
                obtain ⟨hgz8, h⟩ := gd h
                refine ss_iald h238 hgz8 ?_
                refine sb_aload_n rfl ?_
                refine ss_getR g12_74 h217 r217_41 ?_
                refine sb_bipush cB12 ?_
                refine sb_iload_n rfl ?_
                refine sb_imul ?_
                refine sb_iload_n rfl ?_
                refine sb_iadd ?_
                obtain ⟨hgz9, h⟩ := gd h
                refine ss_iald h238 hgz9 ?_
                refine sb_aload_n rfl ?_
                refine ss_getR g12_74 h217 r217_41 ?_
                refine sb_bipush cB12 ?_
                refine sb_iload_n rfl ?_
                refine sb_imul ?_
                refine sb_iload_n rfl ?_
                refine sb_iadd ?_
                obtain ⟨hgz10, h⟩ := gd h
                refine ss_iald h238 hgz10 ?_
                refine sb_iadd ?_
                refine sb_callVi 2 rfl oX12_lesser ln12_353 vX12_lesser (rc_own h217.1 (S_lt h217.2) (by decide)) (rnCk_of (by decide +kernel) rfl) (tfM_lesser) ?_
                obtain ⟨hgz13, h⟩ := gd h
                refine ss_iast h238 (by decide) hgz13 ?_
                refine ss_iinc cI1 rfl (by decide) rfl ?_
                refine sb_goto 105 (by decide) ?_
                cases h
                exact rn_sub [0, 1, 2, 3] rfl hc
            · clear hl105
              obtain ⟨Mz14, hey⟩ : ∃ z, z = e105 := ⟨_, rfl⟩
              subst hey
              show RN P 2 kX12_findsWays 168 [(0, .ref 217), (1, .int x1), (2, .int x2)] [] (S Mz14) r
              refine sb_in [(168, .iinc 2 1, 3), (171, .goto (-76), 3)] 174 (by decide +kernel) ?_
              refine ss_iinc cI1 rfl (by decide) rfl ?_
              refine sb_goto 95 (by decide) ?_
              cases h
              exact rn_sub [0, 1, 2] rfl hc
        · clear hl95
          obtain ⟨Mz15, hey⟩ : ∃ z, z = e95 := ⟨_, rfl⟩
          subst hey
          show RN P 2 kX12_findsWays 174 [(0, .ref 217), (1, .int x1)] [] (S Mz15) r
          refine sb_in [(174, .iinc 1 1, 3), (177, .goto (-92), 3)] 180 (by decide +kernel) ?_
          refine ss_iinc cI1 rfl (by decide) rfl ?_
          refine sb_goto 85 (by decide) ?_
          cases h
          exact rn_sub [0, 1] rfl hc
    · clear hl85
      obtain ⟨Mz16, hey⟩ : ∃ z, z = e85 := ⟨_, rfl⟩
      subst hey
      show RN P 2 kX12_findsWays 180 [] [] (S Mz16) r
      refine sb_in [(180, .return_, 1)] 181 (by decide +kernel) ?_
      cases h
      subst hr
      refine sb_return ?_
      exact rfl
theorem tfM_findsWays {P : Px} {M : Mm} {rr : Mm} (h : fM_findsWays M = some rr) : EX P 2 kX12_findsWays [.ref 217] (S M) (none, S rr) := ex_of oX12_findsWays (Nat.le_of_ble_eq_true rfl) (nfM_findsWays  h rfl)
set_option maxRecDepth 20000 in
theorem nfM_findsGoals {P : Px} {x1 : Int32} {M : Mm} {rr : Mm} (h : fM_findsGoals x1 M = some rr) {r : Option Value × Sg} (hr : r = (none, S rr)) : RN P 4 kX12_findsGoals 0 [(0, .ref 217), (1, .int x1)] [] (S M) r := by
  unfold fM_findsGoals at h
  refine sb_in [(0, .aload_n 0, 1), (1, .iconst 0, 1), (2, .putfield 406, 3), (5, .iconst 0, 1), (6, .istore_n 2, 1)] 7 (by decide +kernel) ?_
  refine sb_aload_n rfl ?_
  refine sb_iconst cI0 ?_
  refine ss_putI p12_406 h217 (by decide) ?_
  refine sb_iconst cI0 ?_
  refine sb_istore_n (by decide) rfl ?_
  refine sb_end ?_
  obtain ⟨e7, hl7, h⟩ := bd h
  refine rn_sub [0, 1, 2] rfl ?_
  refine lp_ind (P := fun s => RN P 4 kX12_findsGoals 7 [(0, .ref 217), (1, .int x1), (2, .int s.1)] [] (S s.2) r) (E := fun p => RN P 4 kX12_findsGoals 57 [] [] (S p) r) ?_ _ _ _ hl7 ?_
  · intro s qx h hc
    obtain ⟨x2, M⟩ := s
    replace h : fM_findsGoals_b7 x1 x2 M = some qx := h
    show RN P 4 kX12_findsGoals 7 [(0, .ref 217), (1, .int x1), (2, .int x2)] [] (S M) r
    unfold fM_findsGoals_b7 at h
    refine sb_in [(7, .iload_n 2, 1), (8, .aload_n 0, 1), (9, .getfield 129, 3), (12, .if_icmp .ge 45, 3)] 15 (by decide +kernel) ?_
    refine sb_iload_n rfl ?_
    refine sb_aload_n rfl ?_
    refine ss_getI g12_129 h217 ?_
    rcases ife h with ⟨cz9, h⟩ | ⟨cz9, h⟩
    · refine sb_icmp_ge_t 57 cz9 (by decide) ?_
      cases h
      exact rn_sub [] rfl hc
    · refine sb_icmp_ge_f 57 cz9 (by decide) ?_
      refine sb_in [(15, .iload_n 2, 1), (16, .iload_n 1, 1), (17, .if_icmp .eq 34, 3)] 20 (by decide +kernel) ?_
      refine sb_iload_n rfl ?_
      refine sb_iload_n rfl ?_
      obtain ⟨Mz7, hj51, h⟩ := bd h
      have hJ51 : RN P 4 kX12_findsGoals 51 [(0, .ref 217), (1, .int x1), (2, .int x2)] [] (S Mz7) r := by
        refine sb_in [(51, .iinc 2 1, 3), (54, .goto (-47), 3)] 57 (by decide +kernel) ?_
        refine ss_iinc cI1 rfl (by decide) rfl ?_
        refine sb_goto 7 (by decide) ?_
        cases h
        exact rn_sub [0, 1, 2] rfl hc
      clear h
      have h := hj51
      clear hj51
      rcases ife h with ⟨cz10, h⟩ | ⟨cz10, h⟩
      · refine sb_icmp_eq_t 51 cz10 (by decide) ?_
        cases h
        exact rn_sub [0, 1, 2] rfl hJ51
      · refine sb_icmp_eq_f 51 cz10 (by decide) ?_
        refine sb_in [(20, .aload_n 0, 1), (21, .iload_n 2, 1), (22, .invokevirtual 396, 3), (25, .ifCond .ne 6, 3)] 28 (by decide +kernel) ?_
        refine sb_aload_n rfl ?_
        refine sb_iload_n rfl ?_
        obtain ⟨qz3, hez2, h⟩ := bd h
        refine sb_callVi 1 rfl oX12_lettersFor ln12_396 vX12_lettersFor (rc_own h217.1 (S_lt h217.2) (by decide)) (rnCk_of (by decide +kernel) rfl) (tfM_lettersFor hez2) ?_
        rcases ife h with ⟨cz11, h⟩ | ⟨cz11, h⟩
        · refine sb_if_ne_f 31 cz11 (by decide) ?_
          refine sb_in [(28, .goto 23, 3)] 31 (by decide +kernel) ?_
          refine sb_goto 51 (by decide) ?_
          cases h
          exact rn_sub [0, 1, 2] rfl hJ51
        · refine sb_if_ne_t 31 cz11 (by decide) ?_
          refine sb_in [(31, .aload_n 0, 1), (32, .getfield 77, 3), (35, .aload_n 0, 1), (36, .getfield 406, 3), (39, .iload_n 2, 1), (40, .iastore, 1), (41, .aload_n 0, 1), (42, .aload_n 0, 1), (43, .getfield 406, 3), (46, .iconst 1, 1), (47, .iadd, 1), (48, .putfield 406, 3)] 51 (by decide +kernel) ?_
          refine sb_aload_n rfl ?_
          refine ss_getR g12_77 h217 r217_43 ?_
          refine sb_aload_n rfl ?_
          refine ss_getI g12_406 h217 ?_
          refine sb_iload_n rfl ?_
          obtain ⟨hgz5, h⟩ := gd h
          refine ss_iast h239 (by decide) hgz5 ?_
          refine sb_aload_n rfl ?_
          refine sb_aload_n rfl ?_
          refine ss_getI g12_406 h217 ?_
          refine sb_iconst cI1 ?_
          refine sb_iadd ?_
          refine ss_putI p12_406 h217 (by decide) ?_
          refine sb_end ?_
          cases h
          exact rn_sub [0, 1, 2] rfl hJ51
  · clear hl7
    obtain ⟨Mz8, hey⟩ : ∃ z, z = e7 := ⟨_, rfl⟩
    subst hey
    show RN P 4 kX12_findsGoals 57 [] [] (S Mz8) r
    refine sb_in [(57, .return_, 1)] 58 (by decide +kernel) ?_
    cases h
    subst hr
    refine sb_return ?_
    exact rfl
theorem tfM_findsGoals {P : Px} {x1 : Int32} {M : Mm} {rr : Mm} (h : fM_findsGoals x1 M = some rr) : EX P 4 kX12_findsGoals [.ref 217, .int x1] (S M) (none, S rr) := ex_of oX12_findsGoals (Nat.le_of_ble_eq_true rfl) (nfM_findsGoals  h rfl)
set_option maxRecDepth 20000 in
theorem nfM_leastTo {P : Px} {x1 : Int32} {x2 : Int32} {x3 : Int32} {M : Mm} {rr : Int32} (h : fM_leastTo x1 x2 x3 M = some rr) {r : Option Value × Sg} (hr : r = (some (.int rr), S M)) : RN P 2 kX12_leastTo 0 [(0, .ref 217), (1, .int x1), (2, .int x2), (3, .int x3)] [] (S M) r := by
  unfold fM_leastTo at h
  refine sb_in [(0, .iload_n 2, 1), (1, .iconst 1, 1), (2, .iload_n 3, 1), (3, .ishl, 1), (4, .iconst (-1), 1), (5, .ixor, 1), (6, .iand, 1), (7, .istore 4, 2), (9, .iload 4, 2), (11, .ifCond .ne 20, 3)] 14 (by decide +kernel) ?_
  refine sb_iload_n rfl ?_
  refine sb_iconst cI1 ?_
  refine sb_iload_n rfl ?_
  refine sb_ishl ?_
  refine sb_iconst cIm1 ?_
  refine sb_ixor ?_
  refine sb_iand ?_
  refine sb_istore (by decide) rfl ?_
  refine sb_iload rfl ?_
  rcases ife h with ⟨cz12, h⟩ | ⟨cz12, h⟩
  · refine sb_if_ne_f 31 cz12 (by decide) ?_
    refine sb_in [(14, .aload_n 0, 1), (15, .getfield 74, 3), (18, .bipush 12, 2), (20, .iload_n 1, 1), (21, .imul, 1), (22, .aload_n 0, 1), (23, .getfield 77, 3), (26, .iload_n 3, 1), (27, .iaload, 1), (28, .iadd, 1), (29, .iaload, 1), (30, .ireturn, 1)] 31 (by decide +kernel) ?_
    refine sb_aload_n rfl ?_
    refine ss_getR g12_74 h217 r217_41 ?_
    refine sb_bipush cB12 ?_
    refine sb_iload_n rfl ?_
    refine sb_imul ?_
    refine sb_aload_n rfl ?_
    refine ss_getR g12_77 h217 r217_43 ?_
    refine sb_iload_n rfl ?_
    obtain ⟨hgz10, h⟩ := gd h
    refine ss_iald h239 hgz10 ?_
    refine sb_iadd ?_
    obtain ⟨hgz11, h⟩ := gd h
    refine ss_iald h238 hgz11 ?_
    cases h
    subst hr
    refine sb_ireturn ?_
    exact ⟨.int, rfl, rfl⟩
  · refine sb_if_ne_t 31 cz12 (by decide) ?_
    refine sb_in [(31, .ldc_w 405, 3), (34, .istore 5, 2), (36, .iconst 0, 1), (37, .istore 6, 2)] 39 (by decide +kernel) ?_
    refine sb_ldcw (v := 100000000) rfl ?_
    refine sb_istore (by decide) rfl ?_
    refine sb_iconst cI0 ?_
    refine sb_istore (by decide) rfl ?_
    refine sb_end ?_
    obtain ⟨e39, hl39, h⟩ := bd h
    refine rn_sub [0, 3, 4, 5, 6] rfl ?_
    refine lp_ind (P := fun s => RN P 2 kX12_leastTo 39 [(0, .ref 217), (3, .int x3), (4, .int ((x2 &&& (((1 : Int32) <<< (x3 &&& 31)) ^^^ (-1))))), (5, .int s.1), (6, .int s.2)] [] (S M) r) (E := fun p => RN P 2 kX12_leastTo 109 [(5, .int p)] [] (S M) r) ?_ _ _ _ hl39 ?_
    · intro s qx h hc
      obtain ⟨x5, x6⟩ := s
      replace h : fM_leastTo_b39 x3 ((x2 &&& (((1 : Int32) <<< (x3 &&& 31)) ^^^ (-1)))) M x5 x6 = some qx := h
      show RN P 2 kX12_leastTo 39 [(0, .ref 217), (3, .int x3), (4, .int ((x2 &&& (((1 : Int32) <<< (x3 &&& 31)) ^^^ (-1))))), (5, .int x5), (6, .int x6)] [] (S M) r
      generalize ((x2 &&& (((1 : Int32) <<< (x3 &&& 31)) ^^^ (-1)))) = x4 at h hc ⊢
      unfold fM_leastTo_b39 at h
      refine sb_in [(39, .iload 6, 2), (41, .aload_n 0, 1), (42, .getfield 406, 3), (45, .if_icmp .ge 64, 3)] 48 (by decide +kernel) ?_
      refine sb_iload rfl ?_
      refine sb_aload_n rfl ?_
      refine ss_getI g12_406 h217 ?_
      rcases ife h with ⟨cz13, h⟩ | ⟨cz13, h⟩
      · refine sb_icmp_ge_t 109 cz13 (by decide) ?_
        cases h
        exact rn_sub [5] rfl hc
      · refine sb_icmp_ge_f 109 cz13 (by decide) ?_
        refine sb_in [(48, .aload_n 0, 1), (49, .iload 4, 2), (51, .iload 6, 2), (53, .invokevirtual 377, 3), (56, .ifCond .eq 47, 3)] 59 (by decide +kernel) ?_
        refine sb_aload_n rfl ?_
        refine sb_iload rfl ?_
        refine sb_iload rfl ?_
        refine sb_callVi 2 rfl oX12_lies ln12_377 vX12_lies (rc_own h217.1 (S_lt h217.2) (by decide)) (rnCk_of (by decide +kernel) rfl) (tfM_lies) ?_
        obtain ⟨yz8, hj103, h⟩ := bd h
        have hJ103 : RN P 2 kX12_leastTo 103 [(0, .ref 217), (3, .int x3), (4, .int x4), (5, .int yz8), (6, .int x6)] [] (S M) r := by
          refine sb_in [(103, .iinc 6 1, 3), (106, .goto (-67), 3)] 109 (by decide +kernel) ?_
          refine ss_iinc cI1 rfl (by decide) rfl ?_
          refine sb_goto 39 (by decide) ?_
          cases h
          exact rn_sub [0, 3, 4, 5, 6] rfl hc
        clear h
        have h := hj103
        clear hj103
        rcases ife h with ⟨cz14, h⟩ | ⟨cz14, h⟩
        · refine sb_if_eq_t 103 cz14 (by decide) ?_
          cases h
          exact rn_sub [0, 3, 4, 5, 6] rfl hJ103
        · refine sb_if_eq_f 103 cz14 (by decide) ?_
          refine sb_in [(59, .aload_n 0, 1), (60, .iload 5, 2), (62, .aload_n 0, 1), (63, .getfield 80, 3), (66, .bipush 8, 2), (68, .iload 4, 2), (70, .imul, 1), (71, .iload 6, 2), (73, .iadd, 1), (74, .iaload, 1), (75, .aload_n 0, 1), (76, .getfield 74, 3), (79, .bipush 12, 2), (81, .aload_n 0, 1), (82, .getfield 77, 3), (85, .iload 6, 2), (87, .iaload, 1), (88, .imul, 1), (89, .aload_n 0, 1), (90, .getfield 77, 3), (93, .iload_n 3, 1), (94, .iaload, 1), (95, .iadd, 1), (96, .iaload, 1), (97, .iadd, 1), (98, .invokevirtual 353, 3), (101, .istore 5, 2)] 103 (by decide +kernel) ?_
          refine sb_aload_n rfl ?_
          refine sb_iload rfl ?_
          refine sb_aload_n rfl ?_
          refine ss_getR g12_80 h217 r217_44 ?_
          refine sb_bipush cB8 ?_
          refine sb_iload rfl ?_
          refine sb_imul ?_
          refine sb_iload rfl ?_
          refine sb_iadd ?_
          obtain ⟨hgz3, h⟩ := gd h
          refine ss_iald h240 hgz3 ?_
          refine sb_aload_n rfl ?_
          refine ss_getR g12_74 h217 r217_41 ?_
          refine sb_bipush cB12 ?_
          refine sb_aload_n rfl ?_
          refine ss_getR g12_77 h217 r217_43 ?_
          refine sb_iload rfl ?_
          obtain ⟨hgz4, h⟩ := gd h
          refine ss_iald h239 hgz4 ?_
          refine sb_imul ?_
          refine sb_aload_n rfl ?_
          refine ss_getR g12_77 h217 r217_43 ?_
          refine sb_iload_n rfl ?_
          obtain ⟨hgz5, h⟩ := gd h
          refine ss_iald h239 hgz5 ?_
          refine sb_iadd ?_
          obtain ⟨hgz6, h⟩ := gd h
          refine ss_iald h238 hgz6 ?_
          refine sb_iadd ?_
          refine sb_callVi 2 rfl oX12_lesser ln12_353 vX12_lesser (rc_own h217.1 (S_lt h217.2) (by decide)) (rnCk_of (by decide +kernel) rfl) (tfM_lesser) ?_
          refine sb_istore (by decide) rfl ?_
          refine sb_end ?_
          cases h
          exact rn_sub [0, 3, 4, 5, 6] rfl hJ103
    · clear hl39
      obtain ⟨yz9, hey⟩ : ∃ z, z = e39 := ⟨_, rfl⟩
      subst hey
      show RN P 2 kX12_leastTo 109 [(5, .int yz9)] [] (S M) r
      refine sb_in [(109, .iload 5, 2), (111, .ireturn, 1)] 112 (by decide +kernel) ?_
      refine sb_iload rfl ?_
      cases h
      subst hr
      refine sb_ireturn ?_
      exact ⟨.int, rfl, rfl⟩
theorem tfM_leastTo {P : Px} {x1 : Int32} {x2 : Int32} {x3 : Int32} {M : Mm} {rr : Int32} (h : fM_leastTo x1 x2 x3 M = some rr) : EX P 2 kX12_leastTo [.ref 217, .int x1, .int x2, .int x3] (S M) (some (.int rr), S M) := ex_of oX12_leastTo (Nat.le_of_ble_eq_true rfl) (nfM_leastTo  h rfl)
set_option maxRecDepth 20000 in
theorem nfM_shortest {P : Px} {x1 : Int32} {x2 : Int32} {M : Mm} {rr : (Int32 × Mm)} (h : fM_shortest x1 x2 M = some rr) {r : Option Value × Sg} (hr : r = (some (.int rr.1), S rr.2)) : RN P 5 kX12_shortest 0 [(0, .ref 217), (1, .int x1), (2, .int x2)] [] (S M) r := by
  unfold fM_shortest at h
  refine sb_in [(0, .aload_n 0, 1), (1, .iconst 0, 1), (2, .putfield 116, 3), (5, .aload_n 0, 1), (6, .iload_n 1, 1), (7, .invokevirtual 147, 3), (10, .ifCond .eq 13, 3)] 13 (by decide +kernel) ?_
  refine sb_aload_n rfl ?_
  refine sb_iconst cI0 ?_
  refine ss_putI p12_116 h217 (by decide) ?_
  refine sb_aload_n rfl ?_
  refine sb_iload_n rfl ?_
  refine sb_callVi 1 rfl oX12_isDoor ln12_147 vX12_isDoor (rc_own h217.1 (S_lt h217.2) (by decide)) (rnCk_of (by decide +kernel) rfl) (tfM_isDoor) ?_
  rcases ife h with ⟨cz23, h⟩ | ⟨cz23, h⟩
  · refine sb_if_eq_t 23 cz23 (by decide) ?_
    refine sb_in [(23, .iconst (-1), 1), (24, .ireturn, 1)] 25 (by decide +kernel) ?_
    refine sb_iconst cIm1 ?_
    cases h
    subst hr
    refine sb_ireturn ?_
    exact ⟨.int, rfl, rfl⟩
  · refine sb_if_eq_f 23 cz23 (by decide) ?_
    refine sb_in [(13, .aload_n 0, 1), (14, .iload_n 2, 1), (15, .iconst 0, 1), (16, .iconst 1, 1), (17, .invokevirtual 143, 3), (20, .ifCond .ne 5, 3)] 23 (by decide +kernel) ?_
    refine sb_aload_n rfl ?_
    refine sb_iload_n rfl ?_
    refine sb_iconst cI0 ?_
    refine sb_iconst cI1 ?_
    refine sb_callVi 3 rfl oX12_isIn ln12_143 vX12_isIn (rc_own h217.1 (S_lt h217.2) (by decide)) (rnCk_of (by decide +kernel) rfl) (tfM_isIn) ?_
    rcases ife h with ⟨cz24, h⟩ | ⟨cz24, h⟩
    · refine sb_if_ne_f 25 cz24 (by decide) ?_
      refine sb_in [(23, .iconst (-1), 1), (24, .ireturn, 1)] 25 (by decide +kernel) ?_
      refine sb_iconst cIm1 ?_
      cases h
      subst hr
      refine sb_ireturn ?_
      exact ⟨.int, rfl, rfl⟩
    · refine sb_if_ne_t 25 cz24 (by decide) ?_
      refine sb_in [(25, .aload_n 0, 1), (26, .iload_n 1, 1), (27, .invokevirtual 409, 3), (30, .aload_n 0, 1), (31, .getfield 406, 3), (34, .bipush 8, 2), (36, .if_icmp .le 5, 3)] 39 (by decide +kernel) ?_
      refine sb_aload_n rfl ?_
      refine sb_iload_n rfl ?_
      obtain ⟨Mz5, hez4, h⟩ := bd h
      refine sb_callVv 1 rfl oX12_findsGoals ln12_409 vX12_findsGoals (rc_own h217.1 (S_lt h217.2) (by decide)) (rnCk_of (by decide +kernel) rfl) (tfM_findsGoals hez4) ?_
      refine sb_aload_n rfl ?_
      refine ss_getI g12_406 h217 ?_
      refine sb_bipush cB8 ?_
      rcases ife h with ⟨cz25, h⟩ | ⟨cz25, h⟩
      · refine sb_icmp_le_t 41 cz25 (by decide) ?_
        refine sb_in [(41, .aload_n 0, 1), (42, .getfield 406, 3), (45, .ifCond .ne 13, 3)] 48 (by decide +kernel) ?_
        refine sb_aload_n rfl ?_
        refine ss_getI g12_406 h217 ?_
        rcases ife h with ⟨cz26, h⟩ | ⟨cz26, h⟩
        · refine sb_if_ne_f 58 cz26 (by decide) ?_
          refine sb_in [(48, .iload_n 2, 1), (49, .ifCond .ne 7, 3)] 52 (by decide +kernel) ?_
          refine sb_iload_n rfl ?_
          rcases ife h with ⟨cz27, h⟩ | ⟨cz27, h⟩
          · refine sb_if_ne_f 56 cz27 (by decide) ?_
            refine sb_in [(52, .iconst 0, 1), (53, .goto 4, 3)] 56 (by decide +kernel) ?_
            refine sb_iconst cI0 ?_
            refine sb_goto 57 (by decide) ?_
            refine sb_in [(57, .ireturn, 1)] 58 (by decide +kernel) ?_
            cases h
            subst hr
            refine sb_ireturn ?_
            exact ⟨.int, rfl, rfl⟩
          · refine sb_if_ne_t 56 cz27 (by decide) ?_
            refine sb_in [(56, .iload_n 1, 1)] 57 (by decide +kernel) ?_
            refine sb_iload_n rfl ?_
            refine sb_end ?_
            refine sb_in [(57, .ireturn, 1)] 58 (by decide +kernel) ?_
            cases h
            subst hr
            refine sb_ireturn ?_
            exact ⟨.int, rfl, rfl⟩
        · refine sb_if_ne_t 58 cz26 (by decide) ?_
          refine sb_in [(58, .aload_n 0, 1), (59, .invokevirtual 412, 3), (62, .iconst 1, 1), (63, .aload_n 0, 1), (64, .getfield 406, 3), (67, .ishl, 1), (68, .iconst 1, 1), (69, .isub, 1), (70, .istore_n 3, 1), (71, .iconst 1, 1), (72, .istore 4, 2)] 74 (by decide +kernel) ?_
          refine sb_aload_n rfl ?_
          obtain ⟨Mz7, hez6, h⟩ := bd h
          refine sb_callVv 0 rfl oX12_findsWays ln12_412 vX12_findsWays (rc_own h217.1 (S_lt h217.2) (by decide)) (rnCk_of (by decide +kernel) rfl) (tfM_findsWays hez6) ?_
          refine sb_iconst cI1 ?_
          refine sb_aload_n rfl ?_
          refine ss_getI g12_406 h217 ?_
          refine sb_ishl ?_
          refine sb_iconst cI1 ?_
          refine sb_isub ?_
          refine sb_istore_n (by decide) rfl ?_
          refine sb_iconst cI1 ?_
          refine sb_istore (by decide) rfl ?_
          refine sb_end ?_
          obtain ⟨e74, hl74, h⟩ := bd h
          refine rn_sub [0, 1, 2, 3, 4] rfl ?_
          refine lp_ind (P := fun s => RN P 5 kX12_shortest 74 [(0, .ref 217), (1, .int x1), (2, .int x2), (3, .int ((((1 : Int32) <<< ((Mz7 217 42) &&& 31)) - 1))), (4, .int s.1)] [] (S s.2) r) (E := fun p => RN P 5 kX12_shortest 137 [(0, .ref 217), (2, .int x2), (3, .int ((((1 : Int32) <<< ((Mz7 217 42) &&& 31)) - 1)))] [] (S p) r) ?_ _ _ _ hl74 ?_
          · intro s qx h hc
            replace h : fM_shortest_b74 x1 x2 ((((1 : Int32) <<< ((Mz7 217 42) &&& 31)) - 1)) s.1 s.2 = some qx := h
            show RN P 5 kX12_shortest 74 [(0, .ref 217), (1, .int x1), (2, .int x2), (3, .int ((((1 : Int32) <<< ((Mz7 217 42) &&& 31)) - 1))), (4, .int s.1)] [] (S s.2) r
            generalize ((((1 : Int32) <<< ((Mz7 217 42) &&& 31)) - 1)) = x3 at h hc ⊢
            obtain ⟨x4, M⟩ := s
            replace h : fM_shortest_b74 x1 x2 x3 x4 M = some qx := h
            show RN P 5 kX12_shortest 74 [(0, .ref 217), (1, .int x1), (2, .int x2), (3, .int x3), (4, .int x4)] [] (S M) r
            unfold fM_shortest_b74 at h
            refine sb_in [(74, .iload 4, 2), (76, .iload_n 3, 1), (77, .if_icmp .gt 60, 3)] 80 (by decide +kernel) ?_
            refine sb_iload rfl ?_
            refine sb_iload_n rfl ?_
            rcases ife h with ⟨cz28, h⟩ | ⟨cz28, h⟩
            · refine sb_icmp_gt_t 137 cz28 (by decide) ?_
              cases h
              exact rn_sub [0, 2, 3] rfl hc
            · refine sb_icmp_gt_f 137 cz28 (by decide) ?_
              refine sb_in [(80, .iconst 0, 1), (81, .istore 5, 2)] 83 (by decide +kernel) ?_
              refine sb_iconst cI0 ?_
              refine sb_istore (by decide) rfl ?_
              refine sb_end ?_
              obtain ⟨e83, hl83, h⟩ := bd h
              refine rn_sub [0, 1, 2, 3, 4, 5] rfl ?_
              refine lp_ind (P := fun s => RN P 5 kX12_shortest 83 [(0, .ref 217), (1, .int x1), (2, .int x2), (3, .int x3), (4, .int x4), (5, .int s.1)] [] (S s.2) r) (E := fun p => RN P 5 kX12_shortest 131 [(0, .ref 217), (1, .int x1), (2, .int x2), (3, .int x3), (4, .int x4)] [] (S p) r) ?_ _ _ _ hl83 ?_
              · intro s qx h hc
                obtain ⟨x5, M⟩ := s
                replace h : fM_shortest_b83 x1 x2 x3 x4 x5 M = some qx := h
                show RN P 5 kX12_shortest 83 [(0, .ref 217), (1, .int x1), (2, .int x2), (3, .int x3), (4, .int x4), (5, .int x5)] [] (S M) r
                unfold fM_shortest_b83 at h
                refine sb_in [(83, .iload 5, 2), (85, .aload_n 0, 1), (86, .getfield 406, 3), (89, .if_icmp .ge 42, 3)] 92 (by decide +kernel) ?_
                refine sb_iload rfl ?_
                refine sb_aload_n rfl ?_
                refine ss_getI g12_406 h217 ?_
                rcases ife h with ⟨cz29, h⟩ | ⟨cz29, h⟩
                · refine sb_icmp_ge_t 131 cz29 (by decide) ?_
                  cases h
                  exact rn_sub [0, 1, 2, 3, 4] rfl hc
                · refine sb_icmp_ge_f 131 cz29 (by decide) ?_
                  refine sb_in [(92, .aload_n 0, 1), (93, .iload 4, 2), (95, .iload 5, 2), (97, .invokevirtual 377, 3), (100, .ifCond .eq 25, 3)] 103 (by decide +kernel) ?_
                  refine sb_aload_n rfl ?_
                  refine sb_iload rfl ?_
                  refine sb_iload rfl ?_
                  refine sb_callVi 2 rfl oX12_lies ln12_377 vX12_lies (rc_own h217.1 (S_lt h217.2) (by decide)) (rnCk_of (by decide +kernel) rfl) (tfM_lies) ?_
                  obtain ⟨Mz14, hj125, h⟩ := bd h
                  have hJ125 : RN P 5 kX12_shortest 125 [(0, .ref 217), (1, .int x1), (2, .int x2), (3, .int x3), (4, .int x4), (5, .int x5)] [] (S Mz14) r := by
                    refine sb_in [(125, .iinc 5 1, 3), (128, .goto (-45), 3)] 131 (by decide +kernel) ?_
                    refine ss_iinc cI1 rfl (by decide) rfl ?_
                    refine sb_goto 83 (by decide) ?_
                    cases h
                    exact rn_sub [0, 1, 2, 3, 4, 5] rfl hc
                  clear h
                  have h := hj125
                  clear hj125
                  rcases ife h with ⟨cz30, h⟩ | ⟨cz30, h⟩
                  · refine sb_if_eq_t 125 cz30 (by decide) ?_
                    cases h
                    exact rn_sub [0, 1, 2, 3, 4, 5] rfl hJ125
                  · refine sb_if_eq_f 125 cz30 (by decide) ?_
                    refine sb_in [(103, .aload_n 0, 1), (104, .getfield 80, 3), (107, .bipush 8, 2), (109, .iload 4, 2), (111, .imul, 1), (112, .iload 5, 2), (114, .iadd, 1), (115, .aload_n 0, 1), (116, .iload_n 1, 1), (117, .iload 4, 2), (119, .iload 5, 2), (121, .invokevirtual 415, 3), (124, .iastore, 1)] 125 (by decide +kernel) ?_
                    refine sb_aload_n rfl ?_
                    refine ss_getR g12_80 h217 r217_44 ?_
                    refine sb_bipush cB8 ?_
                    refine sb_iload rfl ?_
                    refine sb_imul ?_
                    refine sb_iload rfl ?_
                    refine sb_iadd ?_
                    refine sb_aload_n rfl ?_
                    refine sb_iload_n rfl ?_
                    refine sb_iload rfl ?_
                    refine sb_iload rfl ?_
                    obtain ⟨qz11, hez10, h⟩ := bd h
                    refine sb_callVi 3 rfl oX12_leastTo ln12_415 vX12_leastTo (rc_own h217.1 (S_lt h217.2) (by decide)) (rnCk_of (by decide +kernel) rfl) (tfM_leastTo hez10) ?_
                    obtain ⟨hgz13, h⟩ := gd h
                    refine ss_iast h240 (by decide) hgz13 ?_
                    refine sb_end ?_
                    cases h
                    exact rn_sub [0, 1, 2, 3, 4, 5] rfl hJ125
              · clear hl83
                obtain ⟨Mz15, hey⟩ : ∃ z, z = e83 := ⟨_, rfl⟩
                subst hey
                show RN P 5 kX12_shortest 131 [(0, .ref 217), (1, .int x1), (2, .int x2), (3, .int x3), (4, .int x4)] [] (S Mz15) r
                refine sb_in [(131, .iinc 4 1, 3), (134, .goto (-60), 3)] 137 (by decide +kernel) ?_
                refine ss_iinc cI1 rfl (by decide) rfl ?_
                refine sb_goto 74 (by decide) ?_
                cases h
                exact rn_sub [0, 1, 2, 3, 4] rfl hc
          · clear hl74
            obtain ⟨Mz16, hey⟩ : ∃ z, z = e74 := ⟨_, rfl⟩
            subst hey
            show RN P 5 kX12_shortest 137 [(0, .ref 217), (2, .int x2), (3, .int ((((1 : Int32) <<< ((Mz7 217 42) &&& 31)) - 1)))] [] (S Mz16) r
            refine sb_in [(137, .iconst 0, 1), (138, .istore 4, 2), (140, .iconst 1, 1), (141, .istore 5, 2)] 143 (by decide +kernel) ?_
            refine sb_iconst cI0 ?_
            refine sb_istore (by decide) rfl ?_
            refine sb_iconst cI1 ?_
            refine sb_istore (by decide) rfl ?_
            refine sb_end ?_
            obtain ⟨e143, hl143, h⟩ := bd h
            refine rn_sub [0, 2, 3, 4, 5] rfl ?_
            refine lp_ind (P := fun s => RN P 5 kX12_shortest 143 [(0, .ref 217), (2, .int x2), (3, .int ((((1 : Int32) <<< ((Mz7 217 42) &&& 31)) - 1))), (4, .int s.1), (5, .int s.2)] [] (S Mz16) r) (E := fun p => RN P 5 kX12_shortest 189 [(0, .ref 217), (2, .int x2), (3, .int ((((1 : Int32) <<< ((Mz7 217 42) &&& 31)) - 1))), (4, .int p)] [] (S Mz16) r) ?_ _ _ _ hl143 ?_
            · intro s qx h hc
              obtain ⟨x4, x5⟩ := s
              replace h : fM_shortest_b143 x2 ((((1 : Int32) <<< ((Mz7 217 42) &&& 31)) - 1)) Mz16 x4 x5 = some qx := h
              show RN P 5 kX12_shortest 143 [(0, .ref 217), (2, .int x2), (3, .int ((((1 : Int32) <<< ((Mz7 217 42) &&& 31)) - 1))), (4, .int x4), (5, .int x5)] [] (S Mz16) r
              generalize ((((1 : Int32) <<< ((Mz7 217 42) &&& 31)) - 1)) = x3 at h hc ⊢
              generalize Mz16 = M at h hc ⊢
              unfold fM_shortest_b143 at h
              refine sb_in [(143, .iload 5, 2), (145, .aload_n 0, 1), (146, .getfield 406, 3), (149, .if_icmp .ge 40, 3)] 152 (by decide +kernel) ?_
              refine sb_iload rfl ?_
              refine sb_aload_n rfl ?_
              refine ss_getI g12_406 h217 ?_
              rcases ife h with ⟨cz31, h⟩ | ⟨cz31, h⟩
              · refine sb_icmp_ge_t 189 cz31 (by decide) ?_
                cases h
                exact rn_sub [0, 2, 3, 4] rfl hc
              · refine sb_icmp_ge_f 189 cz31 (by decide) ?_
                refine sb_in [(152, .aload_n 0, 1), (153, .getfield 80, 3), (156, .bipush 8, 2), (158, .iload_n 3, 1), (159, .imul, 1), (160, .iload 5, 2), (162, .iadd, 1), (163, .iaload, 1), (164, .aload_n 0, 1), (165, .getfield 80, 3), (168, .bipush 8, 2), (170, .iload_n 3, 1), (171, .imul, 1), (172, .iload 4, 2), (174, .iadd, 1), (175, .iaload, 1), (176, .if_icmp .ge 7, 3)] 179 (by decide +kernel) ?_
                refine sb_aload_n rfl ?_
                refine ss_getR g12_80 h217 r217_44 ?_
                refine sb_bipush cB8 ?_
                refine sb_iload_n rfl ?_
                refine sb_imul ?_
                refine sb_iload rfl ?_
                refine sb_iadd ?_
                obtain ⟨hgz17, h⟩ := gd h
                refine ss_iald h240 hgz17 ?_
                refine sb_aload_n rfl ?_
                refine ss_getR g12_80 h217 r217_44 ?_
                refine sb_bipush cB8 ?_
                refine sb_iload_n rfl ?_
                refine sb_imul ?_
                refine sb_iload rfl ?_
                refine sb_iadd ?_
                obtain ⟨hgz18, h⟩ := gd h
                refine ss_iald h240 hgz18 ?_
                have hJ183 : RN P 5 kX12_shortest 183 [(0, .ref 217), (2, .int x2), (3, .int x3), (4, .int (if (M 240 (jix ((8 * x3) + x4))) ≤ (M 240 (jix ((8 * x3) + x5))) then x4 else x5)), (5, .int x5)] [] (S M) r := by
                  refine sb_in [(183, .iinc 5 1, 3), (186, .goto (-43), 3)] 189 (by decide +kernel) ?_
                  refine ss_iinc cI1 rfl (by decide) rfl ?_
                  refine sb_goto 143 (by decide) ?_
                  cases h
                  exact rn_sub [0, 2, 3, 4, 5] rfl hc
                rcases Decidable.em ((M 240 (jix ((8 * x3) + x4))) ≤ (M 240 (jix ((8 * x3) + x5)))) with cz32 | cz32
                · refine sb_icmp_ge_t 183 cz32 (by decide) ?_
                  have hq := hJ183
                  simp only [if_pos cz32] at hq
                  exact rn_sub [0, 2, 3, 4, 5] rfl hq
                · refine sb_icmp_ge_f 183 cz32 (by decide) ?_
                  refine sb_in [(179, .iload 5, 2), (181, .istore 4, 2)] 183 (by decide +kernel) ?_
                  refine sb_iload rfl ?_
                  refine sb_istore (by decide) rfl ?_
                  refine sb_end ?_
                  have hq := hJ183
                  simp only [if_neg cz32] at hq
                  exact rn_sub [0, 2, 3, 4, 5] rfl hq
            · clear hl143
              obtain ⟨yz19, hey⟩ : ∃ z, z = e143 := ⟨_, rfl⟩
              subst hey
              show RN P 5 kX12_shortest 189 [(0, .ref 217), (2, .int x2), (3, .int ((((1 : Int32) <<< ((Mz7 217 42) &&& 31)) - 1))), (4, .int yz19)] [] (S Mz16) r
              refine sb_in [(189, .aload_n 0, 1), (190, .getfield 80, 3), (193, .bipush 8, 2), (195, .iload_n 3, 1), (196, .imul, 1), (197, .iload 4, 2), (199, .iadd, 1), (200, .iaload, 1), (201, .ldc_w 405, 3), (204, .if_icmp .lt 5, 3)] 207 (by decide +kernel) ?_
              refine sb_aload_n rfl ?_
              refine ss_getR g12_80 h217 r217_44 ?_
              refine sb_bipush cB8 ?_
              refine sb_iload_n rfl ?_
              refine sb_imul ?_
              refine sb_iload rfl ?_
              refine sb_iadd ?_
              obtain ⟨hgz20, h⟩ := gd h
              refine ss_iald h240 hgz20 ?_
              refine sb_ldcw (v := 100000000) rfl ?_
              rcases ife h with ⟨cz33, h⟩ | ⟨cz33, h⟩
              · refine sb_icmp_lt_t 209 cz33 (by decide) ?_
                refine sb_in [(209, .iload_n 2, 1), (210, .ifCond .ne 18, 3)] 213 (by decide +kernel) ?_
                refine sb_iload_n rfl ?_
                rcases ife h with ⟨cz34, h⟩ | ⟨cz34, h⟩
                · refine sb_if_ne_f 228 cz34 (by decide) ?_
                  refine sb_in [(213, .aload_n 0, 1), (214, .getfield 80, 3), (217, .bipush 8, 2), (219, .iload_n 3, 1), (220, .imul, 1), (221, .iload 4, 2), (223, .iadd, 1), (224, .iaload, 1), (225, .goto 10, 3)] 228 (by decide +kernel) ?_
                  refine sb_aload_n rfl ?_
                  refine ss_getR g12_80 h217 r217_44 ?_
                  refine sb_bipush cB8 ?_
                  refine sb_iload_n rfl ?_
                  refine sb_imul ?_
                  refine sb_iload rfl ?_
                  refine sb_iadd ?_
                  obtain ⟨hgz22, h⟩ := gd h
                  refine ss_iald h240 hgz22 ?_
                  refine sb_goto 235 (by decide) ?_
                  refine sb_in [(235, .ireturn, 1)] 236 (by decide +kernel) ?_
                  cases h
                  subst hr
                  refine sb_ireturn ?_
                  exact ⟨.int, rfl, rfl⟩
                · refine sb_if_ne_t 228 cz34 (by decide) ?_
                  refine sb_in [(228, .aload_n 0, 1), (229, .getfield 77, 3), (232, .iload 4, 2), (234, .iaload, 1)] 235 (by decide +kernel) ?_
                  refine sb_aload_n rfl ?_
                  refine ss_getR g12_77 h217 r217_43 ?_
                  refine sb_iload rfl ?_
                  obtain ⟨hgz21, h⟩ := gd h
                  refine ss_iald h239 hgz21 ?_
                  refine sb_end ?_
                  refine sb_in [(235, .ireturn, 1)] 236 (by decide +kernel) ?_
                  cases h
                  subst hr
                  refine sb_ireturn ?_
                  exact ⟨.int, rfl, rfl⟩
              · refine sb_icmp_lt_f 209 cz33 (by decide) ?_
                refine sb_in [(207, .iconst (-1), 1), (208, .ireturn, 1)] 209 (by decide +kernel) ?_
                refine sb_iconst cIm1 ?_
                cases h
                subst hr
                refine sb_ireturn ?_
                exact ⟨.int, rfl, rfl⟩
      · refine sb_icmp_le_f 41 cz25 (by decide) ?_
        refine sb_in [(39, .iconst (-1), 1), (40, .ireturn, 1)] 41 (by decide +kernel) ?_
        refine sb_iconst cIm1 ?_
        cases h
        subst hr
        refine sb_ireturn ?_
        exact ⟨.int, rfl, rfl⟩
theorem tfM_shortest {P : Px} {x1 : Int32} {x2 : Int32} {M : Mm} {rr : (Int32 × Mm)} (h : fM_shortest x1 x2 M = some rr) : EX P 5 kX12_shortest [.ref 217, .int x1, .int x2] (S M) (some (.int rr.1), S rr.2) := ex_of oX12_shortest (Nat.le_of_ble_eq_true rfl) (nfM_shortest  h rfl)
set_option maxRecDepth 20000 in
theorem nfM_farthestFrom {P : Px} {x1 : Int32} {M : Mm} {rr : Int32} (h : fM_farthestFrom x1 M = some rr) {r : Option Value × Sg} (hr : r = (some (.int rr), S M)) : RN P 2 kX12_farthestFrom 0 [(0, .ref 217), (1, .int x1)] [] (S M) r := by
  unfold fM_farthestFrom at h
  refine sb_in [(0, .iconst 0, 1), (1, .istore_n 2, 1), (2, .iconst 0, 1), (3, .istore_n 3, 1)] 4 (by decide +kernel) ?_
  refine sb_iconst cI0 ?_
  refine sb_istore_n (by decide) rfl ?_
  refine sb_iconst cI0 ?_
  refine sb_istore_n (by decide) rfl ?_
  refine sb_end ?_
  obtain ⟨e4, hl4, h⟩ := bd h
  refine rn_sub [0, 1, 2, 3] rfl ?_
  refine lp_ind (P := fun s => RN P 2 kX12_farthestFrom 4 [(0, .ref 217), (1, .int x1), (2, .int s.1), (3, .int s.2)] [] (S M) r) (E := fun p => RN P 2 kX12_farthestFrom 35 [(2, .int p)] [] (S M) r) ?_ _ _ _ hl4 ?_
  · intro s qx h hc
    obtain ⟨x2, x3⟩ := s
    replace h : fM_farthestFrom_b4 x1 M x2 x3 = some qx := h
    show RN P 2 kX12_farthestFrom 4 [(0, .ref 217), (1, .int x1), (2, .int x2), (3, .int x3)] [] (S M) r
    unfold fM_farthestFrom_b4 at h
    refine sb_in [(4, .iload_n 3, 1), (5, .aload_n 0, 1), (6, .getfield 129, 3), (9, .if_icmp .ge 26, 3)] 12 (by decide +kernel) ?_
    refine sb_iload_n rfl ?_
    refine sb_aload_n rfl ?_
    refine ss_getI g12_129 h217 ?_
    rcases ife h with ⟨cz4, h⟩ | ⟨cz4, h⟩
    · refine sb_icmp_ge_t 35 cz4 (by decide) ?_
      cases h
      exact rn_sub [2] rfl hc
    · refine sb_icmp_ge_f 35 cz4 (by decide) ?_
      refine sb_in [(12, .aload_n 0, 1), (13, .iload_n 2, 1), (14, .aload_n 0, 1), (15, .getfield 74, 3), (18, .bipush 12, 2), (20, .iload_n 1, 1), (21, .imul, 1), (22, .iload_n 3, 1), (23, .iadd, 1), (24, .iaload, 1), (25, .invokevirtual 332, 3), (28, .istore_n 2, 1), (29, .iinc 3 1, 3), (32, .goto (-28), 3)] 35 (by decide +kernel) ?_
      refine sb_aload_n rfl ?_
      refine sb_iload_n rfl ?_
      refine sb_aload_n rfl ?_
      refine ss_getR g12_74 h217 r217_41 ?_
      refine sb_bipush cB12 ?_
      refine sb_iload_n rfl ?_
      refine sb_imul ?_
      refine sb_iload_n rfl ?_
      refine sb_iadd ?_
      obtain ⟨hgz1, h⟩ := gd h
      refine ss_iald h238 hgz1 ?_
      refine sb_callVi 2 rfl oX12_greater ln12_332 vX12_greater (rc_own h217.1 (S_lt h217.2) (by decide)) (rnCk_of (by decide +kernel) rfl) (tfM_greater) ?_
      refine sb_istore_n (by decide) rfl ?_
      refine ss_iinc cI1 rfl (by decide) rfl ?_
      refine sb_goto 4 (by decide) ?_
      cases h
      exact rn_sub [0, 1, 2, 3] rfl hc
  · clear hl4
    obtain ⟨yz3, hey⟩ : ∃ z, z = e4 := ⟨_, rfl⟩
    subst hey
    show RN P 2 kX12_farthestFrom 35 [(2, .int yz3)] [] (S M) r
    refine sb_in [(35, .iload_n 2, 1), (36, .ireturn, 1)] 37 (by decide +kernel) ?_
    refine sb_iload_n rfl ?_
    cases h
    subst hr
    refine sb_ireturn ?_
    exact ⟨.int, rfl, rfl⟩
theorem tfM_farthestFrom {P : Px} {x1 : Int32} {M : Mm} {rr : Int32} (h : fM_farthestFrom x1 M = some rr) : EX P 2 kX12_farthestFrom [.ref 217, .int x1] (S M) (some (.int rr), S M) := ex_of oX12_farthestFrom (Nat.le_of_ble_eq_true rfl) (nfM_farthestFrom  h rfl)
set_option maxRecDepth 20000 in
theorem nfM_box {P : Px} {x1 : Int32} {M : Mm} {rr : (Int32 × Mm)} (h : fM_box x1 M = some rr) {r : Option Value × Sg} (hr : r = (some (.int rr.1), S rr.2)) : RN P 3 kX12_box 0 [(0, .ref 217), (1, .int x1)] [] (S M) r := by
  unfold fM_box at h
  refine sb_in [(0, .aload_n 0, 1), (1, .iconst 0, 1), (2, .putfield 116, 3), (5, .aload_n 0, 1), (6, .getfield 129, 3), (9, .ifCond .eq 13, 3)] 12 (by decide +kernel) ?_
  refine sb_aload_n rfl ?_
  refine sb_iconst cI0 ?_
  refine ss_putI p12_116 h217 (by decide) ?_
  refine sb_aload_n rfl ?_
  refine ss_getI g12_129 h217 ?_
  rcases ife h with ⟨cz14, h⟩ | ⟨cz14, h⟩
  · refine sb_if_eq_t 22 cz14 (by decide) ?_
    refine sb_in [(22, .iconst (-1), 1), (23, .ireturn, 1)] 24 (by decide +kernel) ?_
    refine sb_iconst cIm1 ?_
    cases h
    subst hr
    refine sb_ireturn ?_
    exact ⟨.int, rfl, rfl⟩
  · refine sb_if_eq_f 22 cz14 (by decide) ?_
    refine sb_in [(12, .aload_n 0, 1), (13, .iload_n 1, 1), (14, .iconst 0, 1), (15, .iconst 1, 1), (16, .invokevirtual 143, 3), (19, .ifCond .ne 5, 3)] 22 (by decide +kernel) ?_
    refine sb_aload_n rfl ?_
    refine sb_iload_n rfl ?_
    refine sb_iconst cI0 ?_
    refine sb_iconst cI1 ?_
    refine sb_callVi 3 rfl oX12_isIn ln12_143 vX12_isIn (rc_own h217.1 (S_lt h217.2) (by decide)) (rnCk_of (by decide +kernel) rfl) (tfM_isIn) ?_
    rcases ife h with ⟨cz15, h⟩ | ⟨cz15, h⟩
    · refine sb_if_ne_f 24 cz15 (by decide) ?_
      refine sb_in [(22, .iconst (-1), 1), (23, .ireturn, 1)] 24 (by decide +kernel) ?_
      refine sb_iconst cIm1 ?_
      cases h
      subst hr
      refine sb_ireturn ?_
      exact ⟨.int, rfl, rfl⟩
    · refine sb_if_ne_t 24 cz15 (by decide) ?_
      refine sb_in [(24, .aload_n 0, 1), (25, .invokevirtual 412, 3), (28, .iconst 0, 1), (29, .istore_n 2, 1), (30, .iconst 1, 1), (31, .istore_n 3, 1)] 32 (by decide +kernel) ?_
      refine sb_aload_n rfl ?_
      obtain ⟨Mz4, hez3, h⟩ := bd h
      refine sb_callVv 0 rfl oX12_findsWays ln12_412 vX12_findsWays (rc_own h217.1 (S_lt h217.2) (by decide)) (rnCk_of (by decide +kernel) rfl) (tfM_findsWays hez3) ?_
      refine sb_iconst cI0 ?_
      refine sb_istore_n (by decide) rfl ?_
      refine sb_iconst cI1 ?_
      refine sb_istore_n (by decide) rfl ?_
      refine sb_end ?_
      obtain ⟨e32, hl32, h⟩ := bd h
      refine rn_sub [0, 1, 2, 3] rfl ?_
      refine lp_ind (P := fun s => RN P 3 kX12_box 32 [(0, .ref 217), (1, .int x1), (2, .int s.1), (3, .int s.2)] [] (S Mz4) r) (E := fun p => RN P 3 kX12_box 61 [(0, .ref 217), (1, .int x1), (2, .int p)] [] (S Mz4) r) ?_ _ _ _ hl32 ?_
      · intro s qx h hc
        obtain ⟨x2, x3⟩ := s
        replace h : fM_box_b32 x1 Mz4 x2 x3 = some qx := h
        show RN P 3 kX12_box 32 [(0, .ref 217), (1, .int x1), (2, .int x2), (3, .int x3)] [] (S Mz4) r
        generalize Mz4 = M at h hc ⊢
        unfold fM_box_b32 at h
        refine sb_in [(32, .iload_n 3, 1), (33, .aload_n 0, 1), (34, .getfield 129, 3), (37, .if_icmp .ge 24, 3)] 40 (by decide +kernel) ?_
        refine sb_iload_n rfl ?_
        refine sb_aload_n rfl ?_
        refine ss_getI g12_129 h217 ?_
        rcases ife h with ⟨cz16, h⟩ | ⟨cz16, h⟩
        · refine sb_icmp_ge_t 61 cz16 (by decide) ?_
          cases h
          exact rn_sub [0, 1, 2] rfl hc
        · refine sb_icmp_ge_f 61 cz16 (by decide) ?_
          refine sb_in [(40, .aload_n 0, 1), (41, .iload_n 3, 1), (42, .invokevirtual 418, 3), (45, .aload_n 0, 1), (46, .iload_n 2, 1), (47, .invokevirtual 418, 3), (50, .if_icmp .ge 5, 3)] 53 (by decide +kernel) ?_
          refine sb_aload_n rfl ?_
          refine sb_iload_n rfl ?_
          obtain ⟨qz6, hez5, h⟩ := bd h
          refine sb_callVi 1 rfl oX12_farthestFrom ln12_418 vX12_farthestFrom (rc_own h217.1 (S_lt h217.2) (by decide)) (rnCk_of (by decide +kernel) rfl) (tfM_farthestFrom hez5) ?_
          refine sb_aload_n rfl ?_
          refine sb_iload_n rfl ?_
          obtain ⟨qz8, hez7, h⟩ := bd h
          refine sb_callVi 1 rfl oX12_farthestFrom ln12_418 vX12_farthestFrom (rc_own h217.1 (S_lt h217.2) (by decide)) (rnCk_of (by decide +kernel) rfl) (tfM_farthestFrom hez7) ?_
          have hJ55 : RN P 3 kX12_box 55 [(0, .ref 217), (1, .int x1), (2, .int (if qz8 ≤ qz6 then x2 else x3)), (3, .int x3)] [] (S M) r := by
            refine sb_in [(55, .iinc 3 1, 3), (58, .goto (-26), 3)] 61 (by decide +kernel) ?_
            refine ss_iinc cI1 rfl (by decide) rfl ?_
            refine sb_goto 32 (by decide) ?_
            cases h
            exact rn_sub [0, 1, 2, 3] rfl hc
          rcases Decidable.em (qz8 ≤ qz6) with cz17 | cz17
          · refine sb_icmp_ge_t 55 cz17 (by decide) ?_
            have hq := hJ55
            simp only [if_pos cz17] at hq
            exact rn_sub [0, 1, 2, 3] rfl hq
          · refine sb_icmp_ge_f 55 cz17 (by decide) ?_
            refine sb_in [(53, .iload_n 3, 1), (54, .istore_n 2, 1)] 55 (by decide +kernel) ?_
            refine sb_iload_n rfl ?_
            refine sb_istore_n (by decide) rfl ?_
            refine sb_end ?_
            have hq := hJ55
            simp only [if_neg cz17] at hq
            exact rn_sub [0, 1, 2, 3] rfl hq
      · clear hl32
        obtain ⟨yz9, hey⟩ : ∃ z, z = e32 := ⟨_, rfl⟩
        subst hey
        show RN P 3 kX12_box 61 [(0, .ref 217), (1, .int x1), (2, .int yz9)] [] (S Mz4) r
        refine sb_in [(61, .aload_n 0, 1), (62, .iload_n 2, 1), (63, .invokevirtual 418, 3), (66, .ldc_w 405, 3), (69, .if_icmp .lt 5, 3)] 72 (by decide +kernel) ?_
        refine sb_aload_n rfl ?_
        refine sb_iload_n rfl ?_
        obtain ⟨qz11, hez10, h⟩ := bd h
        refine sb_callVi 1 rfl oX12_farthestFrom ln12_418 vX12_farthestFrom (rc_own h217.1 (S_lt h217.2) (by decide)) (rnCk_of (by decide +kernel) rfl) (tfM_farthestFrom hez10) ?_
        refine sb_ldcw (v := 100000000) rfl ?_
        rcases ife h with ⟨cz18, h⟩ | ⟨cz18, h⟩
        · refine sb_icmp_lt_t 74 cz18 (by decide) ?_
          refine sb_in [(74, .iload_n 1, 1), (75, .ifCond .ne 7, 3)] 78 (by decide +kernel) ?_
          refine sb_iload_n rfl ?_
          rcases ife h with ⟨cz19, h⟩ | ⟨cz19, h⟩
          · refine sb_if_ne_f 82 cz19 (by decide) ?_
            refine sb_in [(78, .iload_n 2, 1), (79, .goto 8, 3)] 82 (by decide +kernel) ?_
            refine sb_iload_n rfl ?_
            refine sb_goto 87 (by decide) ?_
            refine sb_in [(87, .ireturn, 1)] 88 (by decide +kernel) ?_
            cases h
            subst hr
            refine sb_ireturn ?_
            exact ⟨.int, rfl, rfl⟩
          · refine sb_if_ne_t 82 cz19 (by decide) ?_
            refine sb_in [(82, .aload_n 0, 1), (83, .iload_n 2, 1), (84, .invokevirtual 418, 3)] 87 (by decide +kernel) ?_
            refine sb_aload_n rfl ?_
            refine sb_iload_n rfl ?_
            obtain ⟨qz13, hez12, h⟩ := bd h
            refine sb_callVi 1 rfl oX12_farthestFrom ln12_418 vX12_farthestFrom (rc_own h217.1 (S_lt h217.2) (by decide)) (rnCk_of (by decide +kernel) rfl) (tfM_farthestFrom hez12) ?_
            refine sb_end ?_
            refine sb_in [(87, .ireturn, 1)] 88 (by decide +kernel) ?_
            cases h
            subst hr
            refine sb_ireturn ?_
            exact ⟨.int, rfl, rfl⟩
        · refine sb_icmp_lt_f 74 cz18 (by decide) ?_
          refine sb_in [(72, .iconst (-1), 1), (73, .ireturn, 1)] 74 (by decide +kernel) ?_
          refine sb_iconst cIm1 ?_
          cases h
          subst hr
          refine sb_ireturn ?_
          exact ⟨.int, rfl, rfl⟩
theorem tfM_box {P : Px} {x1 : Int32} {M : Mm} {rr : (Int32 × Mm)} (h : fM_box x1 M = some rr) : EX P 3 kX12_box [.ref 217, .int x1] (S M) (some (.int rr.1), S rr.2) := ex_of oX12_box (Nat.le_of_ble_eq_true rfl) (nfM_box  h rfl)
set_option maxRecDepth 20000 in
theorem nfM_blow {P : Px} {x1 : Int32} {M : Mm} {rr : (Int32 × Mm)} (h : fM_blow x1 M = some rr) {r : Option Value × Sg} (hr : r = (some (.int rr.1), S rr.2)) : RN P 2 kX12_blow 0 [(0, .ref 217), (1, .int x1)] [] (S M) r := by
  unfold fM_blow at h
  refine sb_in [(0, .aload_n 0, 1), (1, .iconst 0, 1), (2, .putfield 116, 3), (5, .iload_n 1, 1), (6, .ifCond .ne 10, 3)] 9 (by decide +kernel) ?_
  refine sb_aload_n rfl ?_
  refine sb_iconst cI0 ?_
  refine ss_putI p12_116 h217 (by decide) ?_
  refine sb_iload_n rfl ?_
  rcases ife h with ⟨cz7, h⟩ | ⟨cz7, h⟩
  · refine sb_if_ne_f 16 cz7 (by decide) ?_
    refine sb_in [(9, .aload_n 0, 1), (10, .iconst 0, 1), (11, .putfield 421, 3), (14, .iconst 0, 1), (15, .ireturn, 1)] 16 (by decide +kernel) ?_
    refine sb_aload_n rfl ?_
    refine sb_iconst cI0 ?_
    refine ss_putI p12_421 h217 (by decide) ?_
    refine sb_iconst cI0 ?_
    cases h
    subst hr
    refine sb_ireturn ?_
    exact ⟨.int, rfl, rfl⟩
  · refine sb_if_ne_t 16 cz7 (by decide) ?_
    refine sb_in [(16, .aload_n 0, 1), (17, .iload_n 1, 1), (18, .bipush (-50), 2), (20, .bipush 50, 2), (22, .invokevirtual 143, 3), (25, .ifCond .eq 12, 3)] 28 (by decide +kernel) ?_
    refine sb_aload_n rfl ?_
    refine sb_iload_n rfl ?_
    refine sb_bipush cBm50 ?_
    refine sb_bipush cB50 ?_
    refine sb_callVi 3 rfl oX12_isIn ln12_143 vX12_isIn (rc_own h217.1 (S_lt h217.2) (by decide)) (rnCk_of (by decide +kernel) rfl) (tfM_isIn) ?_
    rcases ife h with ⟨cz8, h⟩ | ⟨cz8, h⟩
    · refine sb_if_eq_t 37 cz8 (by decide) ?_
      refine sb_in [(37, .iconst (-1), 1), (38, .ireturn, 1)] 39 (by decide +kernel) ?_
      refine sb_iconst cIm1 ?_
      cases h
      subst hr
      refine sb_ireturn ?_
      exact ⟨.int, rfl, rfl⟩
    · refine sb_if_eq_f 37 cz8 (by decide) ?_
      refine sb_in [(28, .aload_n 0, 1), (29, .getfield 421, 3), (32, .bipush 8, 2), (34, .if_icmp .ne 5, 3)] 37 (by decide +kernel) ?_
      refine sb_aload_n rfl ?_
      refine ss_getI g12_421 h217 ?_
      refine sb_bipush cB8 ?_
      rcases ife h with ⟨cz9, h⟩ | ⟨cz9, h⟩
      · refine sb_icmp_ne_f 39 cz9 (by decide) ?_
        refine sb_in [(37, .iconst (-1), 1), (38, .ireturn, 1)] 39 (by decide +kernel) ?_
        refine sb_iconst cIm1 ?_
        cases h
        subst hr
        refine sb_ireturn ?_
        exact ⟨.int, rfl, rfl⟩
      · refine sb_icmp_ne_t 39 cz9 (by decide) ?_
        refine sb_in [(39, .aload_n 0, 1), (40, .getfield 83, 3), (43, .aload_n 0, 1), (44, .getfield 421, 3), (47, .iload_n 1, 1), (48, .iastore, 1), (49, .aload_n 0, 1), (50, .aload_n 0, 1), (51, .getfield 421, 3), (54, .iconst 1, 1), (55, .iadd, 1), (56, .putfield 421, 3), (59, .aload_n 0, 1), (60, .getfield 421, 3), (63, .ireturn, 1)] 64 (by decide +kernel) ?_
        refine sb_aload_n rfl ?_
        refine ss_getR g12_83 h217 r217_46 ?_
        refine sb_aload_n rfl ?_
        refine ss_getI g12_421 h217 ?_
        refine sb_iload_n rfl ?_
        obtain ⟨hgz4, h⟩ := gd h
        refine ss_iast h241 (by decide) hgz4 ?_
        refine sb_aload_n rfl ?_
        refine sb_aload_n rfl ?_
        refine ss_getI g12_421 h217 ?_
        refine sb_iconst cI1 ?_
        refine sb_iadd ?_
        refine ss_putI p12_421 h217 (by decide) ?_
        refine sb_aload_n rfl ?_
        refine ss_getI g12_421 h217 ?_
        cases h
        subst hr
        refine sb_ireturn ?_
        exact ⟨.int, rfl, rfl⟩
theorem tfM_blow {P : Px} {x1 : Int32} {M : Mm} {rr : (Int32 × Mm)} (h : fM_blow x1 M = some rr) : EX P 2 kX12_blow [.ref 217, .int x1] (S M) (some (.int rr.1), S rr.2) := ex_of oX12_blow (Nat.le_of_ble_eq_true rfl) (nfM_blow  h rfl)
set_option maxRecDepth 20000 in
theorem nfM_behind {P : Px} {x1 : Int32} {x2 : Int32} {M : Mm} {rr : Int32} (h : fM_behind x1 x2 M = some rr) {r : Option Value × Sg} (hr : r = (some (.int rr), S M)) : RN P 2 kX12_behind 0 [(0, .ref 217), (1, .int x1), (2, .int x2)] [] (S M) r := by
  unfold fM_behind at h
  refine sb_in [(0, .iload_n 1, 1), (1, .iconst (-1), 1), (2, .if_icmp .ne 7, 3)] 5 (by decide +kernel) ?_
  refine sb_iload_n rfl ?_
  refine sb_iconst cIm1 ?_
  obtain ⟨yz3, hj23, h⟩ := bd h
  have hJ23 : RN P 2 kX12_behind 23 [] [.int yz3] (S M) r := by
    refine sb_in [(23, .istore_n 3, 1), (24, .iload_n 3, 1), (25, .iconst 1, 1), (26, .if_icmp .ge 7, 3)] 29 (by decide +kernel) ?_
    refine sb_istore_n (by decide) rfl ?_
    refine sb_iload_n rfl ?_
    refine sb_iconst cI1 ?_
    rcases ife h with ⟨cz4, h⟩ | ⟨cz4, h⟩
    · refine sb_icmp_ge_t 33 cz4 (by decide) ?_
      refine sb_in [(33, .iload_n 3, 1)] 34 (by decide +kernel) ?_
      refine sb_iload_n rfl ?_
      refine sb_end ?_
      refine sb_in [(34, .ireturn, 1)] 35 (by decide +kernel) ?_
      cases h
      subst hr
      refine sb_ireturn ?_
      exact ⟨.int, rfl, rfl⟩
    · refine sb_icmp_ge_f 33 cz4 (by decide) ?_
      refine sb_in [(29, .iconst (-1), 1), (30, .goto 4, 3)] 33 (by decide +kernel) ?_
      refine sb_iconst cIm1 ?_
      refine sb_goto 34 (by decide) ?_
      refine sb_in [(34, .ireturn, 1)] 35 (by decide +kernel) ?_
      cases h
      subst hr
      refine sb_ireturn ?_
      exact ⟨.int, rfl, rfl⟩
  clear h
  have h := hj23
  clear hj23
  rcases ife h with ⟨cz5, h⟩ | ⟨cz5, h⟩
  · refine sb_icmp_ne_f 9 cz5 (by decide) ?_
    refine sb_in [(5, .iconst (-1), 1), (6, .goto 17, 3)] 9 (by decide +kernel) ?_
    refine sb_iconst cIm1 ?_
    refine sb_goto 23 (by decide) ?_
    cases h
    exact rn_sub [] rfl hJ23
  · refine sb_icmp_ne_t 9 cz5 (by decide) ?_
    refine sb_in [(9, .aload_n 0, 1), (10, .bipush 99, 2), (12, .iload_n 1, 1), (13, .aload_n 0, 1), (14, .getfield 83, 3), (17, .iload_n 2, 1), (18, .iaload, 1), (19, .iadd, 1), (20, .invokevirtual 353, 3)] 23 (by decide +kernel) ?_
    refine sb_aload_n rfl ?_
    refine sb_bipush cB99 ?_
    refine sb_iload_n rfl ?_
    refine sb_aload_n rfl ?_
    refine ss_getR g12_83 h217 r217_46 ?_
    refine sb_iload_n rfl ?_
    obtain ⟨hgz1, h⟩ := gd h
    refine ss_iald h241 hgz1 ?_
    refine sb_iadd ?_
    refine sb_callVi 2 rfl oX12_lesser ln12_353 vX12_lesser (rc_own h217.1 (S_lt h217.2) (by decide)) (rnCk_of (by decide +kernel) rfl) (tfM_lesser) ?_
    refine sb_end ?_
    cases h
    exact rn_sub [] rfl hJ23
theorem tfM_behind {P : Px} {x1 : Int32} {x2 : Int32} {M : Mm} {rr : Int32} (h : fM_behind x1 x2 M = some rr) : EX P 2 kX12_behind [.ref 217, .int x1, .int x2] (S M) (some (.int rr), S M) := ex_of oX12_behind (Nat.le_of_ble_eq_true rfl) (nfM_behind  h rfl)
set_option maxRecDepth 20000 in
theorem nfM_mostLeft {P : Px} {x1 : Int32} {x2 : Int32} {M : Mm} {rr : (Int32 × Mm)} (h : fM_mostLeft x1 x2 M = some rr) {r : Option Value × Sg} (hr : r = (some (.int rr.1), S rr.2)) : RN P 3 kX12_mostLeft 0 [(0, .ref 217), (1, .int x1), (2, .int x2)] [] (S M) r := by
  unfold fM_mostLeft at h
  refine sb_in [(0, .iconst 1, 1), (1, .aload_n 0, 1), (2, .getfield 421, 3), (5, .ishl, 1), (6, .iconst 1, 1), (7, .isub, 1), (8, .istore_n 3, 1), (9, .iconst 0, 1), (10, .istore 4, 2)] 12 (by decide +kernel) ?_
  refine sb_iconst cI1 ?_
  refine sb_aload_n rfl ?_
  refine ss_getI g12_421 h217 ?_
  refine sb_ishl ?_
  refine sb_iconst cI1 ?_
  refine sb_isub ?_
  refine sb_istore_n (by decide) rfl ?_
  refine sb_iconst cI0 ?_
  refine sb_istore (by decide) rfl ?_
  refine sb_end ?_
  obtain ⟨e12, hl12, h⟩ := bd h
  refine rn_sub [0, 1, 2, 3, 4] rfl ?_
  refine lp_ind (P := fun s => RN P 3 kX12_mostLeft 12 [(0, .ref 217), (1, .int x1), (2, .int x2), (3, .int ((((1 : Int32) <<< ((M 217 45) &&& 31)) - 1))), (4, .int s.1)] [] (S s.2) r) (E := fun p => RN P 3 kX12_mostLeft 161 [(0, .ref 217), (3, .int ((((1 : Int32) <<< ((M 217 45) &&& 31)) - 1)))] [] (S p) r) ?_ _ _ _ hl12 ?_
  · intro s qx h hc
    replace h : fM_mostLeft_b12 x1 x2 ((((1 : Int32) <<< ((M 217 45) &&& 31)) - 1)) s.1 s.2 = some qx := h
    show RN P 3 kX12_mostLeft 12 [(0, .ref 217), (1, .int x1), (2, .int x2), (3, .int ((((1 : Int32) <<< ((M 217 45) &&& 31)) - 1))), (4, .int s.1)] [] (S s.2) r
    generalize ((((1 : Int32) <<< ((M 217 45) &&& 31)) - 1)) = x3 at h hc ⊢
    obtain ⟨x4, M⟩ := s
    replace h : fM_mostLeft_b12 x1 x2 x3 x4 M = some qx := h
    show RN P 3 kX12_mostLeft 12 [(0, .ref 217), (1, .int x1), (2, .int x2), (3, .int x3), (4, .int x4)] [] (S M) r
    unfold fM_mostLeft_b12 at h
    refine sb_in [(12, .iload 4, 2), (14, .iload_n 3, 1), (15, .if_icmp .gt 146, 3)] 18 (by decide +kernel) ?_
    refine sb_iload rfl ?_
    refine sb_iload_n rfl ?_
    rcases ife h with ⟨cz22, h⟩ | ⟨cz22, h⟩
    · refine sb_icmp_gt_t 161 cz22 (by decide) ?_
      cases h
      exact rn_sub [0, 3] rfl hc
    · refine sb_icmp_gt_f 161 cz22 (by decide) ?_
      refine sb_in [(18, .aload_n 0, 1), (19, .getfield 86, 3), (22, .iload 4, 2), (24, .iload 4, 2), (26, .ifCond .ne 12, 3)] 29 (by decide +kernel) ?_
      refine sb_aload_n rfl ?_
      refine ss_getR g12_86 h217 r217_47 ?_
      refine sb_iload rfl ?_
      refine sb_iload rfl ?_
      have hJ39 : RN P 3 kX12_mostLeft 39 [(0, .ref 217), (1, .int x1), (2, .int x2), (3, .int x3), (4, .int x4)] [.int (if x4 = 0 then (if x2 = (-1) then x1 else (-1)) else (-1)), .int x4, .ref 242] (S M) r := by
        refine sb_in [(39, .iastore, 1), (40, .iload_n 2, 1), (41, .iconst (-1), 1), (42, .if_icmp .eq 24, 3)] 45 (by decide +kernel) ?_
        obtain ⟨hgz3, h⟩ := gd h
        refine ss_iast h242 (by decide) hgz3 ?_
        refine sb_iload_n rfl ?_
        refine sb_iconst cIm1 ?_
        obtain ⟨Mz8, hj66, h⟩ := bd h
        have hJ66 : RN P 3 kX12_mostLeft 66 [(0, .ref 217), (1, .int x1), (2, .int x2), (3, .int x3), (4, .int x4)] [] (S Mz8) r := by
          refine sb_in [(66, .iconst 0, 1), (67, .istore 5, 2)] 69 (by decide +kernel) ?_
          refine sb_iconst cI0 ?_
          refine sb_istore (by decide) rfl ?_
          refine sb_end ?_
          obtain ⟨e69, hl69, h⟩ := bd h
          refine rn_sub [0, 1, 2, 3, 4, 5] rfl ?_
          refine lp_ind (P := fun s => RN P 3 kX12_mostLeft 69 [(0, .ref 217), (1, .int x1), (2, .int x2), (3, .int x3), (4, .int x4), (5, .int s.1)] [] (S s.2) r) (E := fun p => RN P 3 kX12_mostLeft 155 [(0, .ref 217), (1, .int x1), (2, .int x2), (3, .int x3), (4, .int x4)] [] (S p) r) ?_ _ _ _ hl69 ?_
          · intro s qx h hc
            obtain ⟨x5, M⟩ := s
            replace h : fM_mostLeft_b69 x1 x2 x3 x4 x5 M = some qx := h
            show RN P 3 kX12_mostLeft 69 [(0, .ref 217), (1, .int x1), (2, .int x2), (3, .int x3), (4, .int x4), (5, .int x5)] [] (S M) r
            unfold fM_mostLeft_b69 at h
            refine sb_in [(69, .iload 5, 2), (71, .aload_n 0, 1), (72, .getfield 421, 3), (75, .if_icmp .ge 80, 3)] 78 (by decide +kernel) ?_
            refine sb_iload rfl ?_
            refine sb_aload_n rfl ?_
            refine ss_getI g12_421 h217 ?_
            rcases ife h with ⟨cz23, h⟩ | ⟨cz23, h⟩
            · refine sb_icmp_ge_t 155 cz23 (by decide) ?_
              cases h
              exact rn_sub [0, 1, 2, 3, 4] rfl hc
            · refine sb_icmp_ge_f 155 cz23 (by decide) ?_
              refine sb_in [(78, .aload_n 0, 1), (79, .iload 4, 2), (81, .iload 5, 2), (83, .invokevirtual 377, 3), (86, .ifCond .eq 63, 3)] 89 (by decide +kernel) ?_
              refine sb_aload_n rfl ?_
              refine sb_iload rfl ?_
              refine sb_iload rfl ?_
              refine sb_callVi 2 rfl oX12_lies ln12_377 vX12_lies (rc_own h217.1 (S_lt h217.2) (by decide)) (rnCk_of (by decide +kernel) rfl) (tfM_lies) ?_
              obtain ⟨Mz18, hj149, h⟩ := bd h
              have hJ149 : RN P 3 kX12_mostLeft 149 [(0, .ref 217), (1, .int x1), (2, .int x2), (3, .int x3), (4, .int x4), (5, .int x5)] [] (S Mz18) r := by
                refine sb_in [(149, .iinc 5 1, 3), (152, .goto (-83), 3)] 155 (by decide +kernel) ?_
                refine ss_iinc cI1 rfl (by decide) rfl ?_
                refine sb_goto 69 (by decide) ?_
                cases h
                exact rn_sub [0, 1, 2, 3, 4, 5] rfl hc
              clear h
              have h := hj149
              clear hj149
              rcases ife h with ⟨cz24, h⟩ | ⟨cz24, h⟩
              · refine sb_if_eq_t 149 cz24 (by decide) ?_
                cases h
                exact rn_sub [0, 1, 2, 3, 4, 5] rfl hJ149
              · refine sb_if_eq_f 149 cz24 (by decide) ?_
                refine sb_in [(89, .iload_n 2, 1), (90, .iconst (-1), 1), (91, .if_icmp .eq 20, 3)] 94 (by decide +kernel) ?_
                refine sb_iload_n rfl ?_
                refine sb_iconst cIm1 ?_
                have hJ111 : ∀ (M : Mm), fM_mostLeft_j111 x1 x2 x3 x4 x5 M = some Mz18 → RN P 3 kX12_mostLeft 111 [(0, .ref 217), (1, .int x1), (2, .int x2), (3, .int x3), (4, .int x4), (5, .int x5)] [] (S M) r := by
                  intro M h
                  unfold fM_mostLeft_j111 at h
                  refine sb_in [(111, .aload_n 0, 1), (112, .getfield 86, 3), (115, .iload 4, 2), (117, .aload_n 0, 1), (118, .aload_n 0, 1), (119, .getfield 86, 3), (122, .iload 4, 2), (124, .iaload, 1), (125, .aload_n 0, 1), (126, .aload_n 0, 1), (127, .getfield 86, 3), (130, .iload 4, 2), (132, .iconst 1, 1), (133, .iload 5, 2), (135, .ishl, 1), (136, .iconst (-1), 1), (137, .ixor, 1), (138, .iand, 1), (139, .iaload, 1), (140, .iload 5, 2), (142, .invokevirtual 424, 3), (145, .invokevirtual 332, 3), (148, .iastore, 1)] 149 (by decide +kernel) ?_
                  refine sb_aload_n rfl ?_
                  refine ss_getR g12_86 h217 r217_47 ?_
                  refine sb_iload rfl ?_
                  refine sb_aload_n rfl ?_
                  refine sb_aload_n rfl ?_
                  refine ss_getR g12_86 h217 r217_47 ?_
                  refine sb_iload rfl ?_
                  obtain ⟨hgz11, h⟩ := gd h
                  refine ss_iald h242 hgz11 ?_
                  refine sb_aload_n rfl ?_
                  refine sb_aload_n rfl ?_
                  refine ss_getR g12_86 h217 r217_47 ?_
                  refine sb_iload rfl ?_
                  refine sb_iconst cI1 ?_
                  refine sb_iload rfl ?_
                  refine sb_ishl ?_
                  refine sb_iconst cIm1 ?_
                  refine sb_ixor ?_
                  refine sb_iand ?_
                  obtain ⟨hgz12, h⟩ := gd h
                  refine ss_iald h242 hgz12 ?_
                  refine sb_iload rfl ?_
                  obtain ⟨qz14, hez13, h⟩ := bd h
                  refine sb_callVi 2 rfl oX12_behind ln12_424 vX12_behind (rc_own h217.1 (S_lt h217.2) (by decide)) (rnCk_of (by decide +kernel) rfl) (tfM_behind hez13) ?_
                  refine sb_callVi 2 rfl oX12_greater ln12_332 vX12_greater (rc_own h217.1 (S_lt h217.2) (by decide)) (rnCk_of (by decide +kernel) rfl) (tfM_greater) ?_
                  obtain ⟨hgz17, h⟩ := gd h
                  refine ss_iast h242 (by decide) hgz17 ?_
                  refine sb_end ?_
                  cases h
                  exact rn_sub [0, 1, 2, 3, 4, 5] rfl hJ149
                rcases ife h with ⟨cz25, h⟩ | ⟨cz25, h⟩
                · refine sb_icmp_eq_t 111 cz25 (by decide) ?_
                  exact rn_sub [0, 1, 2, 3, 4, 5] rfl (hJ111 _ h)
                · refine sb_icmp_eq_f 111 cz25 (by decide) ?_
                  refine sb_in [(94, .aload_n 0, 1), (95, .iload 4, 2), (97, .iconst 1, 1), (98, .iload 5, 2), (100, .ishl, 1), (101, .iconst (-1), 1), (102, .ixor, 1), (103, .iand, 1), (104, .iload_n 2, 1), (105, .invokevirtual 377, 3), (108, .ifCond .eq 41, 3)] 111 (by decide +kernel) ?_
                  refine sb_aload_n rfl ?_
                  refine sb_iload rfl ?_
                  refine sb_iconst cI1 ?_
                  refine sb_iload rfl ?_
                  refine sb_ishl ?_
                  refine sb_iconst cIm1 ?_
                  refine sb_ixor ?_
                  refine sb_iand ?_
                  refine sb_iload_n rfl ?_
                  refine sb_callVi 2 rfl oX12_lies ln12_377 vX12_lies (rc_own h217.1 (S_lt h217.2) (by decide)) (rnCk_of (by decide +kernel) rfl) (tfM_lies) ?_
                  rcases ife h with ⟨cz26, h⟩ | ⟨cz26, h⟩
                  · refine sb_if_eq_t 149 cz26 (by decide) ?_
                    cases h
                    exact rn_sub [0, 1, 2, 3, 4, 5] rfl hJ149
                  · refine sb_if_eq_f 149 cz26 (by decide) ?_
                    exact rn_sub [0, 1, 2, 3, 4, 5] rfl (hJ111 _ h)
          · clear hl69
            obtain ⟨Mz19, hey⟩ : ∃ z, z = e69 := ⟨_, rfl⟩
            subst hey
            show RN P 3 kX12_mostLeft 155 [(0, .ref 217), (1, .int x1), (2, .int x2), (3, .int x3), (4, .int x4)] [] (S Mz19) r
            refine sb_in [(155, .iinc 4 1, 3), (158, .goto (-146), 3)] 161 (by decide +kernel) ?_
            refine ss_iinc cI1 rfl (by decide) rfl ?_
            refine sb_goto 12 (by decide) ?_
            cases h
            exact rn_sub [0, 1, 2, 3, 4] rfl hc
        clear h
        have h := hj66
        clear hj66
        rcases ife h with ⟨cz27, h⟩ | ⟨cz27, h⟩
        · refine sb_icmp_eq_t 66 cz27 (by decide) ?_
          cases h
          exact rn_sub [0, 1, 2, 3, 4] rfl hJ66
        · refine sb_icmp_eq_f 66 cz27 (by decide) ?_
          refine sb_in [(45, .iload 4, 2), (47, .iconst 1, 1), (48, .iload_n 2, 1), (49, .ishl, 1), (50, .if_icmp .ne 16, 3)] 53 (by decide +kernel) ?_
          refine sb_iload rfl ?_
          refine sb_iconst cI1 ?_
          refine sb_iload_n rfl ?_
          refine sb_ishl ?_
          rcases ife h with ⟨cz28, h⟩ | ⟨cz28, h⟩
          · refine sb_icmp_ne_f 66 cz28 (by decide) ?_
            refine sb_in [(53, .aload_n 0, 1), (54, .getfield 86, 3), (57, .iload 4, 2), (59, .aload_n 0, 1), (60, .iload_n 1, 1), (61, .iload_n 2, 1), (62, .invokevirtual 424, 3), (65, .iastore, 1)] 66 (by decide +kernel) ?_
            refine sb_aload_n rfl ?_
            refine ss_getR g12_86 h217 r217_47 ?_
            refine sb_iload rfl ?_
            refine sb_aload_n rfl ?_
            refine sb_iload_n rfl ?_
            refine sb_iload_n rfl ?_
            obtain ⟨qz5, hez4, h⟩ := bd h
            refine sb_callVi 2 rfl oX12_behind ln12_424 vX12_behind (rc_own h217.1 (S_lt h217.2) (by decide)) (rnCk_of (by decide +kernel) rfl) (tfM_behind hez4) ?_
            obtain ⟨hgz7, h⟩ := gd h
            refine ss_iast h242 (by decide) hgz7 ?_
            refine sb_end ?_
            cases h
            exact rn_sub [0, 1, 2, 3, 4] rfl hJ66
          · refine sb_icmp_ne_t 66 cz28 (by decide) ?_
            cases h
            exact rn_sub [0, 1, 2, 3, 4] rfl hJ66
      rcases Decidable.em (x4 = 0) with cz29 | cz29
      · refine sb_if_ne_f 38 cz29 (by decide) ?_
        refine sb_in [(29, .iload_n 2, 1), (30, .iconst (-1), 1), (31, .if_icmp .ne 7, 3)] 34 (by decide +kernel) ?_
        refine sb_iload_n rfl ?_
        refine sb_iconst cIm1 ?_
        rcases Decidable.em (x2 = (-1)) with cz30 | cz30
        · refine sb_icmp_ne_f 38 cz30 (by decide) ?_
          refine sb_in [(34, .iload_n 1, 1), (35, .goto 4, 3)] 38 (by decide +kernel) ?_
          refine sb_iload_n rfl ?_
          refine sb_goto 39 (by decide) ?_
          have hq := hJ39
          simp only [if_pos cz29] at hq
          simp only [if_pos cz30] at hq
          exact rn_sub [0, 1, 2, 3, 4] rfl hq
        · refine sb_icmp_ne_t 38 cz30 (by decide) ?_
          refine sb_in [(38, .iconst (-1), 1)] 39 (by decide +kernel) ?_
          refine sb_iconst cIm1 ?_
          refine sb_end ?_
          have hq := hJ39
          simp only [if_pos cz29] at hq
          simp only [if_neg cz30] at hq
          exact rn_sub [0, 1, 2, 3, 4] rfl hq
      · refine sb_if_ne_t 38 cz29 (by decide) ?_
        refine sb_in [(38, .iconst (-1), 1)] 39 (by decide +kernel) ?_
        refine sb_iconst cIm1 ?_
        refine sb_end ?_
        have hq := hJ39
        simp only [if_neg cz29] at hq
        exact rn_sub [0, 1, 2, 3, 4] rfl hq
  · clear hl12
    obtain ⟨Mz20, hey⟩ : ∃ z, z = e12 := ⟨_, rfl⟩
    subst hey
    show RN P 3 kX12_mostLeft 161 [(0, .ref 217), (3, .int ((((1 : Int32) <<< ((M 217 45) &&& 31)) - 1)))] [] (S Mz20) r
    refine sb_in [(161, .aload_n 0, 1), (162, .getfield 86, 3), (165, .iload_n 3, 1), (166, .iaload, 1), (167, .ireturn, 1)] 168 (by decide +kernel) ?_
    refine sb_aload_n rfl ?_
    refine ss_getR g12_86 h217 r217_47 ?_
    refine sb_iload_n rfl ?_
    obtain ⟨hgz21, h⟩ := gd h
    refine ss_iald h242 hgz21 ?_
    cases h
    subst hr
    refine sb_ireturn ?_
    exact ⟨.int, rfl, rfl⟩
theorem tfM_mostLeft {P : Px} {x1 : Int32} {x2 : Int32} {M : Mm} {rr : (Int32 × Mm)} (h : fM_mostLeft x1 x2 M = some rr) : EX P 3 kX12_mostLeft [.ref 217, .int x1, .int x2] (S M) (some (.int rr.1), S rr.2) := ex_of oX12_mostLeft (Nat.le_of_ble_eq_true rfl) (nfM_mostLeft  h rfl)
end RnT
