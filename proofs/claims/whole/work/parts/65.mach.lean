section RnT
set_option maxRecDepth 20000 in
theorem nfM_set {P : Px} {x1 : Int32} {x2 : Int32} {x3 : Int32} {M : Mm} {rr : (Int32 × Mm)} (h : fM_set x1 x2 x3 M = some rr) {r : Option Value × Sg} (hr : r = (some (.int rr.1), S rr.2)) : RN P 3 kX12_set 0 [(0, .ref 217), (1, .int x1), (2, .int x2), (3, .int x3)] [] (S M) r := by
  unfold fM_set at h
  refine sb_in [(0, .aload_n 0, 1), (1, .iconst 0, 1), (2, .putfield 116, 3), (5, .aload_n 0, 1), (6, .iload_n 1, 1), (7, .iload_n 2, 1), (8, .iload_n 3, 1), (9, .invokevirtual 151, 3), (12, .ifCond .ne 5, 3)] 15 (by decide +kernel) ?_
  refine sb_aload_n rfl ?_
  refine sb_iconst cI0 ?_
  refine ss_putI p12_116 h217 (by decide) ?_
  refine sb_aload_n rfl ?_
  refine sb_iload_n rfl ?_
  refine sb_iload_n rfl ?_
  refine sb_iload_n rfl ?_
  obtain ⟨qz3, hez2, h⟩ := bd h
  refine sb_callVi 3 rfl oX12_canSet ln12_151 vX12_canSet (rc_own h217.1 (S_lt h217.2) (by decide)) (rnCk_of (by decide +kernel) rfl) (tfM_canSet hez2) ?_
  rcases ife h with ⟨cz18, h⟩ | ⟨cz18, h⟩
  · refine sb_if_ne_f 17 cz18 (by decide) ?_
    refine sb_in [(15, .iconst 0, 1), (16, .ireturn, 1)] 17 (by decide +kernel) ?_
    refine sb_iconst cI0 ?_
    cases h
    subst hr
    refine sb_ireturn ?_
    exact ⟨.boolean, rfl, by decide⟩
  · refine sb_if_ne_t 17 cz18 (by decide) ?_
    refine sb_in [(17, .iload_n 1, 1), (18, .ifCond .ne 13, 3)] 21 (by decide +kernel) ?_
    refine sb_iload_n rfl ?_
    obtain ⟨Mz6, hj31, h⟩ := bd h
    have hJ31 : RN P 3 kX12_set 31 [(0, .ref 217), (1, .int x1), (2, .int x2), (3, .int x3)] [] (S Mz6) r := by
      refine sb_in [(31, .iload_n 1, 1), (32, .iconst 1, 1), (33, .if_icmp .ne 10, 3)] 36 (by decide +kernel) ?_
      refine sb_iload_n rfl ?_
      refine sb_iconst cI1 ?_
      obtain ⟨Mz9, hj43, h⟩ := bd h
      have hJ43 : RN P 3 kX12_set 43 [(0, .ref 217), (1, .int x1), (2, .int x2), (3, .int x3)] [] (S Mz9) r := by
        refine sb_in [(43, .iload_n 1, 1), (44, .iconst 2, 1), (45, .if_icmp .ne 13, 3)] 48 (by decide +kernel) ?_
        refine sb_iload_n rfl ?_
        refine sb_iconst cI2 ?_
        obtain ⟨Mz12, hj58, h⟩ := bd h
        have hJ58 : RN P 3 kX12_set 58 [(0, .ref 217), (1, .int x1), (3, .int x3)] [] (S Mz12) r := by
          refine sb_in [(58, .iload_n 1, 1), (59, .iconst 3, 1), (60, .if_icmp .ne 8, 3)] 63 (by decide +kernel) ?_
          refine sb_iload_n rfl ?_
          refine sb_iconst cI3 ?_
          obtain ⟨Mz14, hj68, h⟩ := bd h
          have hJ68 : RN P 3 kX12_set 68 [(0, .ref 217), (1, .int x1), (3, .int x3)] [] (S Mz14) r := by
            refine sb_in [(68, .iload_n 1, 1), (69, .iconst 4, 1), (70, .if_icmp .ne 10, 3)] 73 (by decide +kernel) ?_
            refine sb_iload_n rfl ?_
            refine sb_iconst cI4 ?_
            obtain ⟨Mz16, hj80, h⟩ := bd h
            have hJ80 : RN P 3 kX12_set 80 [(0, .ref 217)] [] (S Mz16) r := by
              refine sb_in [(80, .aload_n 0, 1), (81, .iconst 0, 1), (82, .putfield 120, 3), (85, .iconst 1, 1), (86, .ireturn, 1)] 87 (by decide +kernel) ?_
              refine sb_aload_n rfl ?_
              refine sb_iconst cI0 ?_
              refine ss_putI p12_120 h217 (by decide) ?_
              refine sb_iconst cI1 ?_
              cases h
              subst hr
              refine sb_ireturn ?_
              exact ⟨.boolean, rfl, by decide⟩
            clear h
            have h := hj80
            clear hj80
            rcases ife h with ⟨cz19, h⟩ | ⟨cz19, h⟩
            · refine sb_icmp_ne_f 80 cz19 (by decide) ?_
              refine sb_in [(73, .aload_n 0, 1), (74, .getfield 7, 3), (77, .iconst 5, 1), (78, .iload_n 3, 1), (79, .iastore, 1)] 80 (by decide +kernel) ?_
              refine sb_aload_n rfl ?_
              refine ss_getR g12_7 h217 r217_1 ?_
              refine sb_iconst cI5 ?_
              refine sb_iload_n rfl ?_
              refine ss_iastL 5 h218 (by decide) iL5 rfl ?_
              refine sb_end ?_
              cases h
              exact rn_sub [0] rfl hJ80
            · refine sb_icmp_ne_t 80 cz19 (by decide) ?_
              cases h
              exact rn_sub [0] rfl hJ80
          clear h
          have h := hj68
          clear hj68
          rcases ife h with ⟨cz20, h⟩ | ⟨cz20, h⟩
          · refine sb_icmp_ne_f 68 cz20 (by decide) ?_
            refine sb_in [(63, .aload_n 0, 1), (64, .iload_n 3, 1), (65, .invokevirtual 154, 3)] 68 (by decide +kernel) ?_
            refine sb_aload_n rfl ?_
            refine sb_iload_n rfl ?_
            refine sb_callVv 1 rfl oX12_hasHealth ln12_154 vX12_hasHealth (rc_own h217.1 (S_lt h217.2) (by decide)) (rnCk_of (by decide +kernel) rfl) (tfM_hasHealth) ?_
            refine sb_end ?_
            cases h
            exact rn_sub [0, 1, 3] rfl hJ68
          · refine sb_icmp_ne_t 68 cz20 (by decide) ?_
            cases h
            exact rn_sub [0, 1, 3] rfl hJ68
        clear h
        have h := hj58
        clear hj58
        rcases ife h with ⟨cz21, h⟩ | ⟨cz21, h⟩
        · refine sb_icmp_ne_f 58 cz21 (by decide) ?_
          refine sb_in [(48, .aload_n 0, 1), (49, .getfield 7, 3), (52, .bipush 30, 2), (54, .iload_n 2, 1), (55, .iadd, 1), (56, .iload_n 3, 1), (57, .iastore, 1)] 58 (by decide +kernel) ?_
          refine sb_aload_n rfl ?_
          refine ss_getR g12_7 h217 r217_1 ?_
          refine sb_bipush cB30 ?_
          refine sb_iload_n rfl ?_
          refine sb_iadd ?_
          refine sb_iload_n rfl ?_
          obtain ⟨hgz11, h⟩ := gd h
          refine ss_iast h218 (by decide) hgz11 ?_
          refine sb_end ?_
          cases h
          exact rn_sub [0, 1, 3] rfl hJ58
        · refine sb_icmp_ne_t 58 cz21 (by decide) ?_
          cases h
          exact rn_sub [0, 1, 3] rfl hJ58
      clear h
      have h := hj43
      clear hj43
      rcases ife h with ⟨cz22, h⟩ | ⟨cz22, h⟩
      · refine sb_icmp_ne_f 43 cz22 (by decide) ?_
        refine sb_in [(36, .aload_n 0, 1), (37, .getfield 19, 3), (40, .iload_n 2, 1), (41, .iload_n 3, 1), (42, .iastore, 1)] 43 (by decide +kernel) ?_
        refine sb_aload_n rfl ?_
        refine ss_getR g12_19 h217 r217_7 ?_
        refine sb_iload_n rfl ?_
        refine sb_iload_n rfl ?_
        obtain ⟨hgz8, h⟩ := gd h
        refine ss_iast h221 (by decide) hgz8 ?_
        refine sb_end ?_
        cases h
        exact rn_sub [0, 1, 2, 3] rfl hJ43
      · refine sb_icmp_ne_t 43 cz22 (by decide) ?_
        cases h
        exact rn_sub [0, 1, 2, 3] rfl hJ43
    clear h
    have h := hj31
    clear hj31
    rcases ife h with ⟨cz23, h⟩ | ⟨cz23, h⟩
    · refine sb_if_ne_f 31 cz23 (by decide) ?_
      refine sb_in [(21, .aload_n 0, 1), (22, .getfield 7, 3), (25, .bipush 18, 2), (27, .iload_n 2, 1), (28, .iadd, 1), (29, .iload_n 3, 1), (30, .iastore, 1)] 31 (by decide +kernel) ?_
      refine sb_aload_n rfl ?_
      refine ss_getR g12_7 h217 r217_1 ?_
      refine sb_bipush cB18 ?_
      refine sb_iload_n rfl ?_
      refine sb_iadd ?_
      refine sb_iload_n rfl ?_
      obtain ⟨hgz5, h⟩ := gd h
      refine ss_iast h218 (by decide) hgz5 ?_
      refine sb_end ?_
      cases h
      exact rn_sub [0, 1, 2, 3] rfl hJ31
    · refine sb_if_ne_t 31 cz23 (by decide) ?_
      cases h
      exact rn_sub [0, 1, 2, 3] rfl hJ31
theorem tfM_set {P : Px} {x1 : Int32} {x2 : Int32} {x3 : Int32} {M : Mm} {rr : (Int32 × Mm)} (h : fM_set x1 x2 x3 M = some rr) : EX P 3 kX12_set [.ref 217, .int x1, .int x2, .int x3] (S M) (some (.int rr.1), S rr.2) := ex_of oX12_set (Nat.le_of_ble_eq_true rfl) (nfM_set  h rfl)
set_option maxRecDepth 20000 in
theorem nfM_types {P : Px} {x1 : Int32} {M : Mm} {rr : Mm} (h : fM_types x1 M = some rr) {r : Option Value × Sg} (hr : r = (none, S rr)) : RN P 1 kX12_types 0 [(0, .ref 217), (1, .int x1)] [] (S M) r := by
  unfold fM_types at h
  refine sb_in [(0, .bipush 24, 2), (2, .istore_n 2, 1)] 3 (by decide +kernel) ?_
  refine sb_bipush cB24 ?_
  refine sb_istore_n (by decide) rfl ?_
  refine sb_end ?_
  obtain ⟨e3, hl3, h⟩ := bd h
  refine rn_sub [0, 1, 2] rfl ?_
  refine lp_ind (P := fun s => RN P 1 kX12_types 3 [(0, .ref 217), (1, .int x1), (2, .int s.1)] [] (S s.2) r) (E := fun p => RN P 1 kX12_types 39 [] [] (S p) r) ?_ _ _ _ hl3 ?_
  · intro s qx h hc
    obtain ⟨x2, M⟩ := s
    replace h : fM_types_b3 x1 x2 M = some qx := h
    show RN P 1 kX12_types 3 [(0, .ref 217), (1, .int x1), (2, .int x2)] [] (S M) r
    unfold fM_types_b3 at h
    refine sb_in [(3, .iload_n 2, 1), (4, .ifCond .lt 35, 3)] 7 (by decide +kernel) ?_
    refine sb_iload_n rfl ?_
    rcases ife h with ⟨cz5, h⟩ | ⟨cz5, h⟩
    · refine sb_if_lt_t 39 cz5 (by decide) ?_
      cases h
      exact rn_sub [] rfl hc
    · refine sb_if_lt_f 39 cz5 (by decide) ?_
      refine sb_in [(7, .aload_n 0, 1), (8, .getfield 25, 3), (11, .aload_n 0, 1), (12, .getfield 158, 3), (15, .iload_n 1, 1), (16, .iload_n 2, 1), (17, .ishr, 1), (18, .sipush 255, 3), (21, .iand, 1), (22, .iastore, 1), (23, .aload_n 0, 1), (24, .aload_n 0, 1), (25, .getfield 158, 3), (28, .iconst 1, 1), (29, .iadd, 1), (30, .putfield 158, 3), (33, .iinc 2 (-8), 3), (36, .goto (-33), 3)] 39 (by decide +kernel) ?_
      refine sb_aload_n rfl ?_
      refine ss_getR g12_25 h217 r217_9 ?_
      refine sb_aload_n rfl ?_
      refine ss_getI g12_158 h217 ?_
      refine sb_iload_n rfl ?_
      refine sb_iload_n rfl ?_
      refine sb_ishr ?_
      refine sb_sipush cS255 ?_
      refine sb_iand ?_
      obtain ⟨hgz2, h⟩ := gd h
      refine ss_iast h223 (by decide) hgz2 ?_
      refine sb_aload_n rfl ?_
      refine sb_aload_n rfl ?_
      refine ss_getI g12_158 h217 ?_
      refine sb_iconst cI1 ?_
      refine sb_iadd ?_
      refine ss_putI p12_158 h217 (by decide) ?_
      refine ss_iinc cIm8 rfl (by decide) rfl ?_
      refine sb_goto 3 (by decide) ?_
      cases h
      exact rn_sub [0, 1, 2] rfl hc
  · clear hl3
    obtain ⟨Mz4, hey⟩ : ∃ z, z = e3 := ⟨_, rfl⟩
    subst hey
    show RN P 1 kX12_types 39 [] [] (S Mz4) r
    refine sb_in [(39, .return_, 1)] 40 (by decide +kernel) ?_
    cases h
    subst hr
    refine sb_return ?_
    exact rfl
theorem tfM_types {P : Px} {x1 : Int32} {M : Mm} {rr : Mm} (h : fM_types x1 M = some rr) : EX P 1 kX12_types [.ref 217, .int x1] (S M) (none, S rr) := ex_of oX12_types (Nat.le_of_ble_eq_true rfl) (nfM_types  h rfl)
set_option maxRecDepth 20000 in
theorem nfM_feed {P : Px} {x1 : Int32} {x2 : Int32} {x3 : Int32} {x4 : Int32} {x5 : Int32} {M : Mm} {rr : (Int32 × Mm)} (h : fM_feed x1 x2 x3 x4 x5 M = some rr) {r : Option Value × Sg} (hr : r = (some (.int rr.1), S rr.2)) : RN P 2 kX12_feed 0 [(0, .ref 217), (1, .int x1), (2, .int x2), (3, .int x3), (4, .int x4), (5, .int x5)] [] (S M) r := by
  unfold fM_feed at h
  refine sb_in [(0, .aload_n 0, 1), (1, .iconst 0, 1), (2, .putfield 116, 3), (5, .aload_n 0, 1), (6, .getfield 158, 3), (9, .sipush 380, 3), (12, .if_icmp .le 5, 3)] 15 (by decide +kernel) ?_
  refine sb_aload_n rfl ?_
  refine sb_iconst cI0 ?_
  refine ss_putI p12_116 h217 (by decide) ?_
  refine sb_aload_n rfl ?_
  refine ss_getI g12_158 h217 ?_
  refine sb_sipush cS380 ?_
  rcases ife h with ⟨cz12, h⟩ | ⟨cz12, h⟩
  · refine sb_icmp_le_t 17 cz12 (by decide) ?_
    refine sb_in [(17, .aload_n 0, 1), (18, .iload_n 1, 1), (19, .invokevirtual 161, 3), (22, .aload_n 0, 1), (23, .iload_n 2, 1), (24, .invokevirtual 161, 3), (27, .aload_n 0, 1), (28, .iload_n 3, 1), (29, .invokevirtual 161, 3), (32, .aload_n 0, 1), (33, .iload 4, 2), (35, .invokevirtual 161, 3), (38, .aload_n 0, 1), (39, .iload 5, 2), (41, .invokevirtual 161, 3), (44, .aload_n 0, 1), (45, .getfield 158, 3), (48, .ireturn, 1)] 49 (by decide +kernel) ?_
    refine sb_aload_n rfl ?_
    refine sb_iload_n rfl ?_
    obtain ⟨Mz3, hez2, h⟩ := bd h
    refine sb_callVv 1 rfl oX12_types ln12_161 vX12_types (rc_own h217.1 (S_lt h217.2) (by decide)) (rnCk_of (by decide +kernel) rfl) (tfM_types hez2) ?_
    refine sb_aload_n rfl ?_
    refine sb_iload_n rfl ?_
    obtain ⟨Mz5, hez4, h⟩ := bd h
    refine sb_callVv 1 rfl oX12_types ln12_161 vX12_types (rc_own h217.1 (S_lt h217.2) (by decide)) (rnCk_of (by decide +kernel) rfl) (tfM_types hez4) ?_
    refine sb_aload_n rfl ?_
    refine sb_iload_n rfl ?_
    obtain ⟨Mz7, hez6, h⟩ := bd h
    refine sb_callVv 1 rfl oX12_types ln12_161 vX12_types (rc_own h217.1 (S_lt h217.2) (by decide)) (rnCk_of (by decide +kernel) rfl) (tfM_types hez6) ?_
    refine sb_aload_n rfl ?_
    refine sb_iload rfl ?_
    obtain ⟨Mz9, hez8, h⟩ := bd h
    refine sb_callVv 1 rfl oX12_types ln12_161 vX12_types (rc_own h217.1 (S_lt h217.2) (by decide)) (rnCk_of (by decide +kernel) rfl) (tfM_types hez8) ?_
    refine sb_aload_n rfl ?_
    refine sb_iload rfl ?_
    obtain ⟨Mz11, hez10, h⟩ := bd h
    refine sb_callVv 1 rfl oX12_types ln12_161 vX12_types (rc_own h217.1 (S_lt h217.2) (by decide)) (rnCk_of (by decide +kernel) rfl) (tfM_types hez10) ?_
    refine sb_aload_n rfl ?_
    refine ss_getI g12_158 h217 ?_
    cases h
    subst hr
    refine sb_ireturn ?_
    exact ⟨.int, rfl, rfl⟩
  · refine sb_icmp_le_f 17 cz12 (by decide) ?_
    refine sb_in [(15, .iconst (-1), 1), (16, .ireturn, 1)] 17 (by decide +kernel) ?_
    refine sb_iconst cIm1 ?_
    cases h
    subst hr
    refine sb_ireturn ?_
    exact ⟨.int, rfl, rfl⟩
theorem tfM_feed {P : Px} {x1 : Int32} {x2 : Int32} {x3 : Int32} {x4 : Int32} {x5 : Int32} {M : Mm} {rr : (Int32 × Mm)} (h : fM_feed x1 x2 x3 x4 x5 M = some rr) : EX P 2 kX12_feed [.ref 217, .int x1, .int x2, .int x3, .int x4, .int x5] (S M) (some (.int rr.1), S rr.2) := ex_of oX12_feed (Nat.le_of_ble_eq_true rfl) (nfM_feed  h rfl)
set_option maxRecDepth 20000 in
theorem nfM_end {P : Px} {x1 : Int32} {M : Mm} {rr : (Int32 × Mm)} (h : fM_end x1 M = rr) {r : Option Value × Sg} (hr : r = (some (.int rr.1), S rr.2)) : RN P 2 kX12_end 0 [(0, .ref 217), (1, .int x1)] [] (S M) r := by
  unfold fM_end at h
  refine sb_in [(0, .aload_n 0, 1), (1, .iconst 0, 1), (2, .putfield 116, 3), (5, .aload_n 0, 1), (6, .iload_n 1, 1), (7, .iconst 0, 1), (8, .aload_n 0, 1), (9, .getfield 158, 3), (12, .invokevirtual 143, 3), (15, .ifCond .ne 5, 3)] 18 (by decide +kernel) ?_
  refine sb_aload_n rfl ?_
  refine sb_iconst cI0 ?_
  refine ss_putI p12_116 h217 (by decide) ?_
  refine sb_aload_n rfl ?_
  refine sb_iload_n rfl ?_
  refine sb_iconst cI0 ?_
  refine sb_aload_n rfl ?_
  refine ss_getI g12_158 h217 ?_
  refine sb_callVi 3 rfl oX12_isIn ln12_143 vX12_isIn (rc_own h217.1 (S_lt h217.2) (by decide)) (rnCk_of (by decide +kernel) rfl) (tfM_isIn) ?_
  rcases ife h with ⟨cz4, h⟩ | ⟨cz4, h⟩
  · refine sb_if_ne_f 20 cz4 (by decide) ?_
    refine sb_in [(18, .iconst 0, 1), (19, .ireturn, 1)] 20 (by decide +kernel) ?_
    refine sb_iconst cI0 ?_
    subst h
    subst hr
    refine sb_ireturn ?_
    exact ⟨.boolean, rfl, by decide⟩
  · refine sb_if_ne_t 20 cz4 (by decide) ?_
    refine sb_in [(20, .aload_n 0, 1), (21, .iload_n 1, 1), (22, .putfield 158, 3), (25, .iconst 1, 1), (26, .ireturn, 1)] 27 (by decide +kernel) ?_
    refine sb_aload_n rfl ?_
    refine sb_iload_n rfl ?_
    refine ss_putI p12_158 h217 (by decide) ?_
    refine sb_iconst cI1 ?_
    subst h
    subst hr
    refine sb_ireturn ?_
    exact ⟨.boolean, rfl, by decide⟩
theorem tfM_end {P : Px} {x1 : Int32} {M : Mm} : EX P 2 kX12_end [.ref 217, .int x1] (S M) (some (.int (fM_end x1 M).1), S (fM_end x1 M).2) := ex_of oX12_end (Nat.le_of_ble_eq_true rfl) (nfM_end  rfl rfl)
set_option maxRecDepth 20000 in
theorem nfM_raw {P : Px} {x1 : Int32} {M : Mm} {rr : Int32} (h : fM_raw x1 M = some rr) {r : Option Value × Sg} (hr : r = (some (.int rr), S M)) : RN P 1 kX12_raw 0 [(0, .ref 217), (1, .int x1)] [] (S M) r := by
  unfold fM_raw at h
  refine sb_in [(0, .iload_n 1, 1), (1, .aload_n 0, 1), (2, .getfield 158, 3), (5, .if_icmp .ge 12, 3)] 8 (by decide +kernel) ?_
  refine sb_iload_n rfl ?_
  refine sb_aload_n rfl ?_
  refine ss_getI g12_158 h217 ?_
  rcases ife h with ⟨cz2, h⟩ | ⟨cz2, h⟩
  · refine sb_icmp_ge_t 17 cz2 (by decide) ?_
    refine sb_in [(17, .iconst (-1), 1)] 18 (by decide +kernel) ?_
    refine sb_iconst cIm1 ?_
    refine sb_end ?_
    refine sb_in [(18, .ireturn, 1)] 19 (by decide +kernel) ?_
    cases h
    subst hr
    refine sb_ireturn ?_
    exact ⟨.int, rfl, rfl⟩
  · refine sb_icmp_ge_f 17 cz2 (by decide) ?_
    refine sb_in [(8, .aload_n 0, 1), (9, .getfield 25, 3), (12, .iload_n 1, 1), (13, .iaload, 1), (14, .goto 4, 3)] 17 (by decide +kernel) ?_
    refine sb_aload_n rfl ?_
    refine ss_getR g12_25 h217 r217_9 ?_
    refine sb_iload_n rfl ?_
    obtain ⟨hgz1, h⟩ := gd h
    refine ss_iald h223 hgz1 ?_
    refine sb_goto 18 (by decide) ?_
    refine sb_in [(18, .ireturn, 1)] 19 (by decide +kernel) ?_
    cases h
    subst hr
    refine sb_ireturn ?_
    exact ⟨.int, rfl, rfl⟩
theorem tfM_raw {P : Px} {x1 : Int32} {M : Mm} {rr : Int32} (h : fM_raw x1 M = some rr) : EX P 1 kX12_raw [.ref 217, .int x1] (S M) (some (.int rr), S M) := ex_of oX12_raw (Nat.le_of_ble_eq_true rfl) (nfM_raw  h rfl)
set_option maxRecDepth 20000 in
theorem nfM_isLetter {P : Px} {x1 : Int32} {M : Mm} {rr : Int32} (h : fM_isLetter x1 = rr) {r : Option Value × Sg} (hr : r = (some (.int rr), S M)) : RN P 2 kX12_isLetter 0 [(0, .ref 217), (1, .int x1)] [] (S M) r := by
  unfold fM_isLetter at h
  refine sb_in [(0, .aload_n 0, 1), (1, .iload_n 1, 1), (2, .bipush 97, 2), (4, .bipush 122, 2), (6, .invokevirtual 143, 3), (9, .ifCond .ne 15, 3)] 12 (by decide +kernel) ?_
  refine sb_aload_n rfl ?_
  refine sb_iload_n rfl ?_
  refine sb_bipush cB97 ?_
  refine sb_bipush cB122 ?_
  refine sb_callVi 3 rfl oX12_isIn ln12_143 vX12_isIn (rc_own h217.1 (S_lt h217.2) (by decide)) (rnCk_of (by decide +kernel) rfl) (tfM_isIn) ?_
  rcases ife h with ⟨cz3, h⟩ | ⟨cz3, h⟩
  · refine sb_if_ne_f 24 cz3 (by decide) ?_
    refine sb_in [(12, .aload_n 0, 1), (13, .iload_n 1, 1), (14, .bipush 65, 2), (16, .bipush 90, 2), (18, .invokevirtual 143, 3), (21, .ifCond .eq 7, 3)] 24 (by decide +kernel) ?_
    refine sb_aload_n rfl ?_
    refine sb_iload_n rfl ?_
    refine sb_bipush cB65 ?_
    refine sb_bipush cB90 ?_
    refine sb_callVi 3 rfl oX12_isIn ln12_143 vX12_isIn (rc_own h217.1 (S_lt h217.2) (by decide)) (rnCk_of (by decide +kernel) rfl) (tfM_isIn) ?_
    rcases ife h with ⟨cz4, h⟩ | ⟨cz4, h⟩
    · refine sb_if_eq_t 28 cz4 (by decide) ?_
      refine sb_in [(28, .iconst 0, 1)] 29 (by decide +kernel) ?_
      refine sb_iconst cI0 ?_
      refine sb_end ?_
      refine sb_in [(29, .ireturn, 1)] 30 (by decide +kernel) ?_
      subst h
      subst hr
      refine sb_ireturn ?_
      exact ⟨.boolean, rfl, by decide⟩
    · refine sb_if_eq_f 28 cz4 (by decide) ?_
      refine sb_in [(24, .iconst 1, 1), (25, .goto 4, 3)] 28 (by decide +kernel) ?_
      refine sb_iconst cI1 ?_
      refine sb_goto 29 (by decide) ?_
      refine sb_in [(29, .ireturn, 1)] 30 (by decide +kernel) ?_
      subst h
      subst hr
      refine sb_ireturn ?_
      exact ⟨.boolean, rfl, by decide⟩
  · refine sb_if_ne_t 24 cz3 (by decide) ?_
    refine sb_in [(24, .iconst 1, 1), (25, .goto 4, 3)] 28 (by decide +kernel) ?_
    refine sb_iconst cI1 ?_
    refine sb_goto 29 (by decide) ?_
    refine sb_in [(29, .ireturn, 1)] 30 (by decide +kernel) ?_
    subst h
    subst hr
    refine sb_ireturn ?_
    exact ⟨.boolean, rfl, by decide⟩
theorem tfM_isLetter {P : Px} {x1 : Int32} {M : Mm} : EX P 2 kX12_isLetter [.ref 217, .int x1] (S M) (some (.int (fM_isLetter x1)), S M) := ex_of oX12_isLetter (Nat.le_of_ble_eq_true rfl) (nfM_isLetter  rfl rfl)
set_option maxRecDepth 20000 in
theorem nfM_isDigit {P : Px} {x1 : Int32} {M : Mm} {rr : Int32} (h : fM_isDigit x1 = some rr) {r : Option Value × Sg} (hr : r = (some (.int rr), S M)) : RN P 2 kX12_isDigit 0 [(0, .ref 217), (1, .int x1)] [] (S M) r := by
  unfold fM_isDigit at h
  refine sb_in [(0, .aload_n 0, 1), (1, .iload_n 1, 1), (2, .bipush 48, 2), (4, .bipush 57, 2), (6, .invokevirtual 143, 3), (9, .ireturn, 1)] 10 (by decide +kernel) ?_
  refine sb_aload_n rfl ?_
  refine sb_iload_n rfl ?_
  refine sb_bipush cB48 ?_
  refine sb_bipush cB57 ?_
  refine sb_callVi 3 rfl oX12_isIn ln12_143 vX12_isIn (rc_own h217.1 (S_lt h217.2) (by decide)) (rnCk_of (by decide +kernel) rfl) (tfM_isIn) ?_
  obtain ⟨hgz2, h⟩ := gd h
  cases h
  subst hr
  refine sb_ireturn ?_
  exact ⟨.boolean, rfl, rn_nz hgz2⟩
theorem tfM_isDigit {P : Px} {x1 : Int32} {M : Mm} {rr : Int32} (h : fM_isDigit x1 = some rr) : EX P 2 kX12_isDigit [.ref 217, .int x1] (S M) (some (.int rr), S M) := ex_of oX12_isDigit (Nat.le_of_ble_eq_true rfl) (nfM_isDigit  h rfl)
set_option maxRecDepth 20000 in
theorem nfM_isMarkSign {P : Px} {x1 : Int32} {M : Mm} {rr : Int32} (h : fM_isMarkSign x1 = rr) {r : Option Value × Sg} (hr : r = (some (.int rr), S M)) : RN P 1 kX12_isMarkSign 0 [(0, .ref 217), (1, .int x1)] [] (S M) r := by
  unfold fM_isMarkSign at h
  refine sb_in [(0, .iload_n 1, 1), (1, .bipush 59, 2), (3, .if_icmp .eq 57, 3)] 6 (by decide +kernel) ?_
  refine sb_iload_n rfl ?_
  refine sb_bipush cB59 ?_
  rcases ife h with ⟨cz1, h⟩ | ⟨cz1, h⟩
  · refine sb_icmp_eq_t 60 cz1 (by decide) ?_
    refine sb_in [(60, .iconst 1, 1), (61, .goto 4, 3)] 64 (by decide +kernel) ?_
    refine sb_iconst cI1 ?_
    refine sb_goto 65 (by decide) ?_
    refine sb_in [(65, .ireturn, 1)] 66 (by decide +kernel) ?_
    subst h
    subst hr
    refine sb_ireturn ?_
    exact ⟨.boolean, rfl, by decide⟩
  · refine sb_icmp_eq_f 60 cz1 (by decide) ?_
    refine sb_in [(6, .iload_n 1, 1), (7, .bipush 43, 2), (9, .if_icmp .eq 51, 3)] 12 (by decide +kernel) ?_
    refine sb_iload_n rfl ?_
    refine sb_bipush cB43 ?_
    rcases ife h with ⟨cz2, h⟩ | ⟨cz2, h⟩
    · refine sb_icmp_eq_t 60 cz2 (by decide) ?_
      refine sb_in [(60, .iconst 1, 1), (61, .goto 4, 3)] 64 (by decide +kernel) ?_
      refine sb_iconst cI1 ?_
      refine sb_goto 65 (by decide) ?_
      refine sb_in [(65, .ireturn, 1)] 66 (by decide +kernel) ?_
      subst h
      subst hr
      refine sb_ireturn ?_
      exact ⟨.boolean, rfl, by decide⟩
    · refine sb_icmp_eq_f 60 cz2 (by decide) ?_
      refine sb_in [(12, .iload_n 1, 1), (13, .bipush 45, 2), (15, .if_icmp .eq 45, 3)] 18 (by decide +kernel) ?_
      refine sb_iload_n rfl ?_
      refine sb_bipush cB45 ?_
      rcases ife h with ⟨cz3, h⟩ | ⟨cz3, h⟩
      · refine sb_icmp_eq_t 60 cz3 (by decide) ?_
        refine sb_in [(60, .iconst 1, 1), (61, .goto 4, 3)] 64 (by decide +kernel) ?_
        refine sb_iconst cI1 ?_
        refine sb_goto 65 (by decide) ?_
        refine sb_in [(65, .ireturn, 1)] 66 (by decide +kernel) ?_
        subst h
        subst hr
        refine sb_ireturn ?_
        exact ⟨.boolean, rfl, by decide⟩
      · refine sb_icmp_eq_f 60 cz3 (by decide) ?_
        refine sb_in [(18, .iload_n 1, 1), (19, .bipush 42, 2), (21, .if_icmp .eq 39, 3)] 24 (by decide +kernel) ?_
        refine sb_iload_n rfl ?_
        refine sb_bipush cB42 ?_
        rcases ife h with ⟨cz4, h⟩ | ⟨cz4, h⟩
        · refine sb_icmp_eq_t 60 cz4 (by decide) ?_
          refine sb_in [(60, .iconst 1, 1), (61, .goto 4, 3)] 64 (by decide +kernel) ?_
          refine sb_iconst cI1 ?_
          refine sb_goto 65 (by decide) ?_
          refine sb_in [(65, .ireturn, 1)] 66 (by decide +kernel) ?_
          subst h
          subst hr
          refine sb_ireturn ?_
          exact ⟨.boolean, rfl, by decide⟩
        · refine sb_icmp_eq_f 60 cz4 (by decide) ?_
          refine sb_in [(24, .iload_n 1, 1), (25, .bipush 47, 2), (27, .if_icmp .eq 33, 3)] 30 (by decide +kernel) ?_
          refine sb_iload_n rfl ?_
          refine sb_bipush cB47 ?_
          rcases ife h with ⟨cz5, h⟩ | ⟨cz5, h⟩
          · refine sb_icmp_eq_t 60 cz5 (by decide) ?_
            refine sb_in [(60, .iconst 1, 1), (61, .goto 4, 3)] 64 (by decide +kernel) ?_
            refine sb_iconst cI1 ?_
            refine sb_goto 65 (by decide) ?_
            refine sb_in [(65, .ireturn, 1)] 66 (by decide +kernel) ?_
            subst h
            subst hr
            refine sb_ireturn ?_
            exact ⟨.boolean, rfl, by decide⟩
          · refine sb_icmp_eq_f 60 cz5 (by decide) ?_
            refine sb_in [(30, .iload_n 1, 1), (31, .bipush 40, 2), (33, .if_icmp .eq 27, 3)] 36 (by decide +kernel) ?_
            refine sb_iload_n rfl ?_
            refine sb_bipush cB40 ?_
            rcases ife h with ⟨cz6, h⟩ | ⟨cz6, h⟩
            · refine sb_icmp_eq_t 60 cz6 (by decide) ?_
              refine sb_in [(60, .iconst 1, 1), (61, .goto 4, 3)] 64 (by decide +kernel) ?_
              refine sb_iconst cI1 ?_
              refine sb_goto 65 (by decide) ?_
              refine sb_in [(65, .ireturn, 1)] 66 (by decide +kernel) ?_
              subst h
              subst hr
              refine sb_ireturn ?_
              exact ⟨.boolean, rfl, by decide⟩
            · refine sb_icmp_eq_f 60 cz6 (by decide) ?_
              refine sb_in [(36, .iload_n 1, 1), (37, .bipush 41, 2), (39, .if_icmp .eq 21, 3)] 42 (by decide +kernel) ?_
              refine sb_iload_n rfl ?_
              refine sb_bipush cB41 ?_
              rcases ife h with ⟨cz7, h⟩ | ⟨cz7, h⟩
              · refine sb_icmp_eq_t 60 cz7 (by decide) ?_
                refine sb_in [(60, .iconst 1, 1), (61, .goto 4, 3)] 64 (by decide +kernel) ?_
                refine sb_iconst cI1 ?_
                refine sb_goto 65 (by decide) ?_
                refine sb_in [(65, .ireturn, 1)] 66 (by decide +kernel) ?_
                subst h
                subst hr
                refine sb_ireturn ?_
                exact ⟨.boolean, rfl, by decide⟩
              · refine sb_icmp_eq_f 60 cz7 (by decide) ?_
                refine sb_in [(42, .iload_n 1, 1), (43, .bipush 60, 2), (45, .if_icmp .eq 15, 3)] 48 (by decide +kernel) ?_
                refine sb_iload_n rfl ?_
                refine sb_bipush cB60 ?_
                rcases ife h with ⟨cz8, h⟩ | ⟨cz8, h⟩
                · refine sb_icmp_eq_t 60 cz8 (by decide) ?_
                  refine sb_in [(60, .iconst 1, 1), (61, .goto 4, 3)] 64 (by decide +kernel) ?_
                  refine sb_iconst cI1 ?_
                  refine sb_goto 65 (by decide) ?_
                  refine sb_in [(65, .ireturn, 1)] 66 (by decide +kernel) ?_
                  subst h
                  subst hr
                  refine sb_ireturn ?_
                  exact ⟨.boolean, rfl, by decide⟩
                · refine sb_icmp_eq_f 60 cz8 (by decide) ?_
                  refine sb_in [(48, .iload_n 1, 1), (49, .bipush 61, 2), (51, .if_icmp .eq 9, 3)] 54 (by decide +kernel) ?_
                  refine sb_iload_n rfl ?_
                  refine sb_bipush cB61 ?_
                  rcases ife h with ⟨cz9, h⟩ | ⟨cz9, h⟩
                  · refine sb_icmp_eq_t 60 cz9 (by decide) ?_
                    refine sb_in [(60, .iconst 1, 1), (61, .goto 4, 3)] 64 (by decide +kernel) ?_
                    refine sb_iconst cI1 ?_
                    refine sb_goto 65 (by decide) ?_
                    refine sb_in [(65, .ireturn, 1)] 66 (by decide +kernel) ?_
                    subst h
                    subst hr
                    refine sb_ireturn ?_
                    exact ⟨.boolean, rfl, by decide⟩
                  · refine sb_icmp_eq_f 60 cz9 (by decide) ?_
                    refine sb_in [(54, .iload_n 1, 1), (55, .bipush 62, 2), (57, .if_icmp .ne 7, 3)] 60 (by decide +kernel) ?_
                    refine sb_iload_n rfl ?_
                    refine sb_bipush cB62 ?_
                    rcases ife h with ⟨cz10, h⟩ | ⟨cz10, h⟩
                    · refine sb_icmp_ne_f 64 cz10 (by decide) ?_
                      refine sb_in [(60, .iconst 1, 1), (61, .goto 4, 3)] 64 (by decide +kernel) ?_
                      refine sb_iconst cI1 ?_
                      refine sb_goto 65 (by decide) ?_
                      refine sb_in [(65, .ireturn, 1)] 66 (by decide +kernel) ?_
                      subst h
                      subst hr
                      refine sb_ireturn ?_
                      exact ⟨.boolean, rfl, by decide⟩
                    · refine sb_icmp_ne_t 64 cz10 (by decide) ?_
                      refine sb_in [(64, .iconst 0, 1)] 65 (by decide +kernel) ?_
                      refine sb_iconst cI0 ?_
                      refine sb_end ?_
                      refine sb_in [(65, .ireturn, 1)] 66 (by decide +kernel) ?_
                      subst h
                      subst hr
                      refine sb_ireturn ?_
                      exact ⟨.boolean, rfl, by decide⟩
theorem tfM_isMarkSign {P : Px} {x1 : Int32} {M : Mm} : EX P 1 kX12_isMarkSign [.ref 217, .int x1] (S M) (some (.int (fM_isMarkSign x1)), S M) := ex_of oX12_isMarkSign (Nat.le_of_ble_eq_true rfl) (nfM_isMarkSign  rfl rfl)
set_option maxRecDepth 20000 in
theorem nfM_wordAt {P : Px} {x1 : Int32} {x2 : Int32} {M : Mm} {rr : Int32} (h : fM_wordAt x1 x2 M = some rr) {r : Option Value × Sg} (hr : r = (some (.int rr), S M)) : RN P 1 kX12_wordAt 0 [(0, .ref 217), (1, .int x1), (2, .int x2)] [] (S M) r := by
  unfold fM_wordAt at h
  refine sb_in [(0, .iconst (-1), 1), (1, .istore_n 3, 1), (2, .iconst 0, 1), (3, .istore 4, 2)] 5 (by decide +kernel) ?_
  refine sb_iconst cIm1 ?_
  refine sb_istore_n (by decide) rfl ?_
  refine sb_iconst cI0 ?_
  refine sb_istore (by decide) rfl ?_
  refine sb_end ?_
  obtain ⟨e5, hl5, h⟩ := bd h
  refine rn_sub [0, 1, 2, 3, 4] rfl ?_
  refine lp_ind (P := fun s => RN P 1 kX12_wordAt 5 [(0, .ref 217), (1, .int x1), (2, .int x2), (3, .int s.1), (4, .int s.2)] [] (S M) r) (E := fun e => match e with | Sum.inl p => RN P 1 kX12_wordAt 86 [(3, .int p)] [] (S M) r | Sum.inr p => RN P 1 kX12_wordAt 118 [] [] (S M) r) ?_ _ _ _ hl5 ?_
  · intro s qx h hc
    obtain ⟨x3, x4⟩ := s
    replace h : fM_wordAt_b5 x1 x2 M x3 x4 = some qx := h
    show RN P 1 kX12_wordAt 5 [(0, .ref 217), (1, .int x1), (2, .int x2), (3, .int x3), (4, .int x4)] [] (S M) r
    unfold fM_wordAt_b5 at h
    refine sb_in [(5, .iload 4, 2), (7, .sipush 152, 3), (10, .if_icmp .ge 108, 3)] 13 (by decide +kernel) ?_
    refine sb_iload rfl ?_
    refine sb_sipush cS152 ?_
    rcases ife h with ⟨cz12, h⟩ | ⟨cz12, h⟩
    · refine sb_icmp_ge_t 118 cz12 (by decide) ?_
      cases h
      exact rn_sub [] rfl hc
    · refine sb_icmp_ge_f 118 cz12 (by decide) ?_
      refine sb_in [(13, .iconst 0, 1), (14, .istore 5, 2), (16, .iload_n 3, 1), (17, .iconst 1, 1), (18, .iadd, 1), (19, .istore_n 3, 1)] 20 (by decide +kernel) ?_
      refine sb_iconst cI0 ?_
      refine sb_istore (by decide) rfl ?_
      refine sb_iload_n rfl ?_
      refine sb_iconst cI1 ?_
      refine sb_iadd ?_
      refine sb_istore_n (by decide) rfl ?_
      refine sb_end ?_
      obtain ⟨e20, hl20, h⟩ := bd h
      refine rn_sub [0, 1, 2, 3, 4, 5] rfl ?_
      refine lp_ind (P := fun s => RN P 1 kX12_wordAt 20 [(0, .ref 217), (1, .int x1), (2, .int x2), (3, .int ((x3 + 1))), (4, .int x4), (5, .int s)] [] (S M) r) (E := fun p => RN P 1 kX12_wordAt 61 [(0, .ref 217), (1, .int x1), (2, .int x2), (3, .int ((x3 + 1))), (4, .int x4), (5, .int p)] [] (S M) r) ?_ _ _ _ hl20 ?_
      · intro x5 qx h hc
        replace h : fM_wordAt_b20 x1 x2 ((x3 + 1)) x4 M x5 = some qx := h
        show RN P 1 kX12_wordAt 20 [(0, .ref 217), (1, .int x1), (2, .int x2), (3, .int ((x3 + 1))), (4, .int x4), (5, .int x5)] [] (S M) r
        generalize ((x3 + 1)) = x3 at h hc ⊢
        unfold fM_wordAt_b20 at h
        refine sb_in [(20, .iload_n 1, 1), (21, .iload 5, 2), (23, .iadd, 1), (24, .iload_n 2, 1), (25, .if_icmp .ge 36, 3)] 28 (by decide +kernel) ?_
        refine sb_iload_n rfl ?_
        refine sb_iload rfl ?_
        refine sb_iadd ?_
        refine sb_iload_n rfl ?_
        rcases ife h with ⟨cz13, h⟩ | ⟨cz13, h⟩
        · refine sb_icmp_ge_t 61 cz13 (by decide) ?_
          cases h
          exact rn_sub [0, 1, 2, 3, 4, 5] rfl hc
        · refine sb_icmp_ge_f 61 cz13 (by decide) ?_
          refine sb_in [(28, .aload_n 0, 1), (29, .getfield 28, 3), (32, .iload 4, 2), (34, .iconst 1, 1), (35, .iadd, 1), (36, .iload 5, 2), (38, .iadd, 1), (39, .iaload, 1), (40, .aload_n 0, 1), (41, .getfield 25, 3), (44, .iload_n 1, 1), (45, .iload 5, 2), (47, .iadd, 1), (48, .iaload, 1), (49, .if_icmp .ne 12, 3)] 52 (by decide +kernel) ?_
          refine sb_aload_n rfl ?_
          refine ss_getR g12_28 h217 r217_15 ?_
          refine sb_iload rfl ?_
          refine sb_iconst cI1 ?_
          refine sb_iadd ?_
          refine sb_iload rfl ?_
          refine sb_iadd ?_
          obtain ⟨hgz2, h⟩ := gd h
          refine ss_iald h224 hgz2 ?_
          refine sb_aload_n rfl ?_
          refine ss_getR g12_25 h217 r217_9 ?_
          refine sb_iload_n rfl ?_
          refine sb_iload rfl ?_
          refine sb_iadd ?_
          obtain ⟨hgz3, h⟩ := gd h
          refine ss_iald h223 hgz3 ?_
          rcases ife h with ⟨cz14, h⟩ | ⟨cz14, h⟩
          · refine sb_icmp_ne_f 61 cz14 (by decide) ?_
            refine sb_in [(52, .iload 5, 2), (54, .iconst 1, 1), (55, .iadd, 1), (56, .istore 5, 2), (58, .goto (-38), 3)] 61 (by decide +kernel) ?_
            refine sb_iload rfl ?_
            refine sb_iconst cI1 ?_
            refine sb_iadd ?_
            refine sb_istore (by decide) rfl ?_
            refine sb_goto 20 (by decide) ?_
            cases h
            exact rn_sub [0, 1, 2, 3, 4, 5] rfl hc
          · refine sb_icmp_ne_t 61 cz14 (by decide) ?_
            cases h
            exact rn_sub [0, 1, 2, 3, 4, 5] rfl hc
      · clear hl20
        obtain ⟨yz5, hey⟩ : ∃ z, z = e20 := ⟨_, rfl⟩
        subst hey
        show RN P 1 kX12_wordAt 61 [(0, .ref 217), (1, .int x1), (2, .int x2), (3, .int ((x3 + 1))), (4, .int x4), (5, .int yz5)] [] (S M) r
        refine sb_in [(61, .iload_n 1, 1), (62, .iload 5, 2), (64, .iadd, 1), (65, .iload_n 2, 1), (66, .if_icmp .ne 22, 3)] 69 (by decide +kernel) ?_
        refine sb_iload_n rfl ?_
        refine sb_iload rfl ?_
        refine sb_iadd ?_
        refine sb_iload_n rfl ?_
        have hJ88 : ∀ (z3 : Int32) (z4 : Int32), fM_wordAt_j88 x1 x2 z3 z4 M = some qx → RN P 1 kX12_wordAt 88 [(0, .ref 217), (1, .int x1), (2, .int x2), (3, .int z3), (4, .int z4)] [] (S M) r := by
          intro z3 z4 h
          unfold fM_wordAt_j88 at h
          refine sb_in [(88, .iload 4, 2), (90, .iconst 1, 1), (91, .iadd, 1), (92, .istore 4, 2)] 94 (by decide +kernel) ?_
          refine sb_iload rfl ?_
          refine sb_iconst cI1 ?_
          refine sb_iadd ?_
          refine sb_istore (by decide) rfl ?_
          refine sb_end ?_
          obtain ⟨e94, hl94, h⟩ := bd h
          refine rn_sub [0, 1, 2, 3, 4] rfl ?_
          refine lp_ind (P := fun s => RN P 1 kX12_wordAt 94 [(0, .ref 217), (1, .int x1), (2, .int x2), (3, .int z3), (4, .int s)] [] (S M) r) (E := fun p => RN P 1 kX12_wordAt 115 [(0, .ref 217), (1, .int x1), (2, .int x2), (3, .int z3), (4, .int p)] [] (S M) r) ?_ _ _ _ hl94 ?_
          · intro x4 qx h hc
            replace h : fM_wordAt_b94 x1 x2 z3 M x4 = some qx := h
            show RN P 1 kX12_wordAt 94 [(0, .ref 217), (1, .int x1), (2, .int x2), (3, .int z3), (4, .int x4)] [] (S M) r
            generalize z3 = x3 at h hc ⊢
            unfold fM_wordAt_b94 at h
            refine sb_in [(94, .aload_n 0, 1), (95, .getfield 28, 3), (98, .iload 4, 2), (100, .iaload, 1), (101, .bipush 32, 2), (103, .if_icmp .eq 12, 3)] 106 (by decide +kernel) ?_
            refine sb_aload_n rfl ?_
            refine ss_getR g12_28 h217 r217_15 ?_
            refine sb_iload rfl ?_
            obtain ⟨hgz8, h⟩ := gd h
            refine ss_iald h224 hgz8 ?_
            refine sb_bipush cB32 ?_
            rcases ife h with ⟨cz15, h⟩ | ⟨cz15, h⟩
            · refine sb_icmp_eq_t 115 cz15 (by decide) ?_
              cases h
              exact rn_sub [0, 1, 2, 3, 4] rfl hc
            · refine sb_icmp_eq_f 115 cz15 (by decide) ?_
              refine sb_in [(106, .iload 4, 2), (108, .iconst 1, 1), (109, .iadd, 1), (110, .istore 4, 2), (112, .goto (-18), 3)] 115 (by decide +kernel) ?_
              refine sb_iload rfl ?_
              refine sb_iconst cI1 ?_
              refine sb_iadd ?_
              refine sb_istore (by decide) rfl ?_
              refine sb_goto 94 (by decide) ?_
              cases h
              exact rn_sub [0, 1, 2, 3, 4] rfl hc
          · clear hl94
            obtain ⟨yz10, hey⟩ : ∃ z, z = e94 := ⟨_, rfl⟩
            subst hey
            show RN P 1 kX12_wordAt 115 [(0, .ref 217), (1, .int x1), (2, .int x2), (3, .int z3), (4, .int yz10)] [] (S M) r
            refine sb_in [(115, .goto (-110), 3)] 118 (by decide +kernel) ?_
            refine sb_goto 5 (by decide) ?_
            cases h
            exact rn_sub [0, 1, 2, 3, 4] rfl hc
        rcases ife h with ⟨cz16, h⟩ | ⟨cz16, h⟩
        · refine sb_icmp_ne_f 88 cz16 (by decide) ?_
          refine sb_in [(69, .aload_n 0, 1), (70, .getfield 28, 3), (73, .iload 4, 2), (75, .iconst 1, 1), (76, .iadd, 1), (77, .iload 5, 2), (79, .iadd, 1), (80, .iaload, 1), (81, .bipush 32, 2), (83, .if_icmp .ne 5, 3)] 86 (by decide +kernel) ?_
          refine sb_aload_n rfl ?_
          refine ss_getR g12_28 h217 r217_15 ?_
          refine sb_iload rfl ?_
          refine sb_iconst cI1 ?_
          refine sb_iadd ?_
          refine sb_iload rfl ?_
          refine sb_iadd ?_
          obtain ⟨hgz6, h⟩ := gd h
          refine ss_iald h224 hgz6 ?_
          refine sb_bipush cB32 ?_
          rcases ife h with ⟨cz17, h⟩ | ⟨cz17, h⟩
          · refine sb_icmp_ne_f 88 cz17 (by decide) ?_
            cases h
            exact rn_sub [3] rfl hc
          · refine sb_icmp_ne_t 88 cz17 (by decide) ?_
            exact rn_sub [0, 1, 2, 3, 4] rfl (hJ88 _ _ h)
        · refine sb_icmp_ne_t 88 cz16 (by decide) ?_
          exact rn_sub [0, 1, 2, 3, 4] rfl (hJ88 _ _ h)
  · clear hl5
    rcases e5 with e5 | e5
    · skip
      obtain ⟨yz11, hey⟩ : ∃ z, z = e5 := ⟨_, rfl⟩
      subst hey
      show RN P 1 kX12_wordAt 86 [(3, .int yz11)] [] (S M) r
      refine sb_in [(86, .iload_n 3, 1), (87, .ireturn, 1)] 88 (by decide +kernel) ?_
      refine sb_iload_n rfl ?_
      cases h
      subst hr
      refine sb_ireturn ?_
      exact ⟨.int, rfl, rfl⟩
    · skip
      show RN P 1 kX12_wordAt 118 [] [] (S M) r
      refine sb_in [(118, .iconst (-1), 1), (119, .ireturn, 1)] 120 (by decide +kernel) ?_
      refine sb_iconst cIm1 ?_
      cases h
      subst hr
      refine sb_ireturn ?_
      exact ⟨.int, rfl, rfl⟩
theorem tfM_wordAt {P : Px} {x1 : Int32} {x2 : Int32} {M : Mm} {rr : Int32} (h : fM_wordAt x1 x2 M = some rr) : EX P 1 kX12_wordAt [.ref 217, .int x1, .int x2] (S M) (some (.int rr), S M) := ex_of oX12_wordAt (Nat.le_of_ble_eq_true rfl) (nfM_wordAt  h rfl)
set_option maxRecDepth 20000 in
theorem nfM_reads {P : Px} {M : Mm} {rr : Mm} (h : fM_reads M = some rr) {r : Option Value × Sg} (hr : r = (none, S rr)) : RN P 3 kX12_reads 0 [(0, .ref 217)] [] (S M) r := by
  unfold fM_reads at h
  obtain ⟨e0, hl0, h⟩ := bd h
  refine rn_sub [0] rfl ?_
  refine lp_ind (P := fun s => RN P 3 kX12_reads 0 [(0, .ref 217)] [] (S s) r) (E := fun p => RN P 3 kX12_reads 39 [(0, .ref 217)] [] (S p) r) ?_ _ _ _ hl0 ?_
  · intro M qx h hc
    replace h : fM_reads_b0 M = some qx := h
    show RN P 3 kX12_reads 0 [(0, .ref 217)] [] (S M) r
    unfold fM_reads_b0 at h
    refine sb_in [(0, .aload_n 0, 1), (1, .aload_n 0, 1), (2, .getfield 164, 3), (5, .invokevirtual 167, 3), (8, .bipush 32, 2), (10, .if_icmp .eq 16, 3)] 13 (by decide +kernel) ?_
    refine sb_aload_n rfl ?_
    refine sb_aload_n rfl ?_
    refine ss_getI g12_164 h217 ?_
    obtain ⟨qz2, hez1, h⟩ := bd h
    refine sb_callVi 1 rfl oX12_raw ln12_167 vX12_raw (rc_own h217.1 (S_lt h217.2) (by decide)) (rnCk_of (by decide +kernel) rfl) (tfM_raw hez1) ?_
    refine sb_bipush cB32 ?_
    have hJ26 : ∀ (M : Mm), fM_reads_j26 M = some qx → RN P 3 kX12_reads 26 [(0, .ref 217)] [] (S M) r := by
      intro M h
      unfold fM_reads_j26 at h
      refine sb_in [(26, .aload_n 0, 1), (27, .aload_n 0, 1), (28, .getfield 164, 3), (31, .iconst 1, 1), (32, .iadd, 1), (33, .putfield 164, 3), (36, .goto (-36), 3)] 39 (by decide +kernel) ?_
      refine sb_aload_n rfl ?_
      refine sb_aload_n rfl ?_
      refine ss_getI g12_164 h217 ?_
      refine sb_iconst cI1 ?_
      refine sb_iadd ?_
      refine ss_putI p12_164 h217 (by decide) ?_
      refine sb_goto 0 (by decide) ?_
      cases h
      exact rn_sub [0] rfl hc
    rcases ife h with ⟨cz40, h⟩ | ⟨cz40, h⟩
    · refine sb_icmp_eq_t 26 cz40 (by decide) ?_
      exact rn_sub [0] rfl (hJ26 _ h)
    · refine sb_icmp_eq_f 26 cz40 (by decide) ?_
      refine sb_in [(13, .aload_n 0, 1), (14, .aload_n 0, 1), (15, .getfield 164, 3), (18, .invokevirtual 167, 3), (21, .bipush 10, 2), (23, .if_icmp .ne 16, 3)] 26 (by decide +kernel) ?_
      refine sb_aload_n rfl ?_
      refine sb_aload_n rfl ?_
      refine ss_getI g12_164 h217 ?_
      obtain ⟨qz4, hez3, h⟩ := bd h
      refine sb_callVi 1 rfl oX12_raw ln12_167 vX12_raw (rc_own h217.1 (S_lt h217.2) (by decide)) (rnCk_of (by decide +kernel) rfl) (tfM_raw hez3) ?_
      refine sb_bipush cB10 ?_
      rcases ife h with ⟨cz41, h⟩ | ⟨cz41, h⟩
      · refine sb_icmp_ne_f 39 cz41 (by decide) ?_
        exact rn_sub [0] rfl (hJ26 _ h)
      · refine sb_icmp_ne_t 39 cz41 (by decide) ?_
        cases h
        exact rn_sub [0] rfl hc
  · clear hl0
    obtain ⟨Mz6, hey⟩ : ∃ z, z = e0 := ⟨_, rfl⟩
    subst hey
    show RN P 3 kX12_reads 39 [(0, .ref 217)] [] (S Mz6) r
    refine sb_in [(39, .aload_n 0, 1), (40, .aload_n 0, 1), (41, .getfield 164, 3), (44, .putfield 170, 3), (47, .aload_n 0, 1), (48, .iconst 1, 1), (49, .putfield 173, 3), (52, .aload_n 0, 1), (53, .aload_n 0, 1), (54, .getfield 164, 3), (57, .invokevirtual 167, 3), (60, .istore_n 1, 1), (61, .iload_n 1, 1), (62, .iconst (-1), 1), (63, .if_icmp .ne 9, 3)] 66 (by decide +kernel) ?_
    refine sb_aload_n rfl ?_
    refine sb_aload_n rfl ?_
    refine ss_getI g12_164 h217 ?_
    refine ss_putI p12_170 h217 (by decide) ?_
    refine sb_aload_n rfl ?_
    refine sb_iconst cI1 ?_
    refine ss_putI p12_173 h217 (by decide) ?_
    refine sb_aload_n rfl ?_
    refine sb_aload_n rfl ?_
    refine ss_getI g12_164 h217 ?_
    obtain ⟨qz10, hez9, h⟩ := bd h
    refine sb_callVi 1 rfl oX12_raw ln12_167 vX12_raw (rc_own h217.1 (S_lt h217.2) (by decide)) (rnCk_of (by decide +kernel) rfl) (tfM_raw hez9) ?_
    refine sb_istore_n (by decide) rfl ?_
    refine sb_iload_n rfl ?_
    refine sb_iconst cIm1 ?_
    rcases ife h with ⟨cz42, h⟩ | ⟨cz42, h⟩
    · refine sb_icmp_ne_f 72 cz42 (by decide) ?_
      refine sb_in [(66, .aload_n 0, 1), (67, .iconst 0, 1), (68, .putfield 173, 3), (71, .return_, 1)] 72 (by decide +kernel) ?_
      refine sb_aload_n rfl ?_
      refine sb_iconst cI0 ?_
      refine ss_putI p12_173 h217 (by decide) ?_
      cases h
      subst hr
      refine sb_return ?_
      exact rfl
    · refine sb_icmp_ne_t 72 cz42 (by decide) ?_
      refine sb_in [(72, .aload_n 0, 1), (73, .aload_n 0, 1), (74, .getfield 164, 3), (77, .iconst 1, 1), (78, .iadd, 1), (79, .putfield 164, 3), (82, .aload_n 0, 1), (83, .iload_n 1, 1), (84, .putfield 176, 3), (87, .aload_n 0, 1), (88, .iload_n 1, 1), (89, .invokevirtual 179, 3), (92, .ifCond .eq 63, 3)] 95 (by decide +kernel) ?_
      refine sb_aload_n rfl ?_
      refine sb_aload_n rfl ?_
      refine ss_getI g12_164 h217 ?_
      refine sb_iconst cI1 ?_
      refine sb_iadd ?_
      refine ss_putI p12_164 h217 (by decide) ?_
      refine sb_aload_n rfl ?_
      refine sb_iload_n rfl ?_
      refine ss_putI p12_176 h217 (by decide) ?_
      refine sb_aload_n rfl ?_
      refine sb_iload_n rfl ?_
      refine sb_callVi 1 rfl oX12_isLetter ln12_179 vX12_isLetter (rc_own h217.1 (S_lt h217.2) (by decide)) (rnCk_of (by decide +kernel) rfl) (tfM_isLetter) ?_
      rcases ife h with ⟨cz43, h⟩ | ⟨cz43, h⟩
      · refine sb_if_eq_t 155 cz43 (by decide) ?_
        refine sb_in [(155, .aload_n 0, 1), (156, .iload_n 1, 1), (157, .invokevirtual 186, 3), (160, .ifCond .eq 100, 3)] 163 (by decide +kernel) ?_
        refine sb_aload_n rfl ?_
        refine sb_iload_n rfl ?_
        obtain ⟨qz15, hez14, h⟩ := bd h
        refine sb_callVi 1 rfl oX12_isDigit ln12_186 vX12_isDigit (rc_own h217.1 (S_lt h217.2) (by decide)) (rnCk_of (by decide +kernel) rfl) (tfM_isDigit hez14) ?_
        rcases ife h with ⟨cz44, h⟩ | ⟨cz44, h⟩
        · refine sb_if_eq_t 260 cz44 (by decide) ?_
          refine sb_in [(260, .aload_n 0, 1), (261, .iload_n 1, 1), (262, .invokevirtual 189, 3), (265, .ifCond .eq 8, 3)] 268 (by decide +kernel) ?_
          refine sb_aload_n rfl ?_
          refine sb_iload_n rfl ?_
          refine sb_callVi 1 rfl oX12_isMarkSign ln12_189 vX12_isMarkSign (rc_own h217.1 (S_lt h217.2) (by decide)) (rnCk_of (by decide +kernel) rfl) (tfM_isMarkSign) ?_
          rcases ife h with ⟨cz45, h⟩ | ⟨cz45, h⟩
          · refine sb_if_eq_t 273 cz45 (by decide) ?_
            refine sb_in [(273, .return_, 1)] 274 (by decide +kernel) ?_
            cases h
            subst hr
            refine sb_return ?_
            exact rfl
          · refine sb_if_eq_f 273 cz45 (by decide) ?_
            refine sb_in [(268, .aload_n 0, 1), (269, .iconst 4, 1), (270, .putfield 173, 3)] 273 (by decide +kernel) ?_
            refine sb_aload_n rfl ?_
            refine sb_iconst cI4 ?_
            refine ss_putI p12_173 h217 (by decide) ?_
            refine sb_end ?_
            refine sb_in [(273, .return_, 1)] 274 (by decide +kernel) ?_
            cases h
            subst hr
            refine sb_return ?_
            exact rfl
        · refine sb_if_eq_f 260 cz44 (by decide) ?_
          refine sb_in [(163, .aload_n 0, 1), (164, .iload_n 1, 1), (165, .bipush 48, 2), (167, .isub, 1), (168, .putfield 176, 3)] 171 (by decide +kernel) ?_
          refine sb_aload_n rfl ?_
          refine sb_iload_n rfl ?_
          refine sb_bipush cB48 ?_
          refine sb_isub ?_
          refine ss_putI p12_176 h217 (by decide) ?_
          refine sb_end ?_
          obtain ⟨e171, hl171, h⟩ := bd h
          refine rn_sub [0] rfl ?_
          refine lp_ind (P := fun s => RN P 3 kX12_reads 171 [(0, .ref 217)] [] (S s) r) (E := fun p => RN P 3 kX12_reads 239 [(0, .ref 217)] [] (S p) r) ?_ _ _ _ hl171 ?_
          · intro M qx h hc
            replace h : fM_reads_b171 M = some qx := h
            show RN P 3 kX12_reads 171 [(0, .ref 217)] [] (S M) r
            unfold fM_reads_b171 at h
            refine sb_in [(171, .aload_n 0, 1), (172, .aload_n 0, 1), (173, .aload_n 0, 1), (174, .getfield 164, 3), (177, .invokevirtual 167, 3), (180, .invokevirtual 186, 3), (183, .ifCond .eq 56, 3)] 186 (by decide +kernel) ?_
            refine sb_aload_n rfl ?_
            refine sb_aload_n rfl ?_
            refine sb_aload_n rfl ?_
            refine ss_getI g12_164 h217 ?_
            obtain ⟨qz20, hez19, h⟩ := bd h
            refine sb_callVi 1 rfl oX12_raw ln12_167 vX12_raw (rc_own h217.1 (S_lt h217.2) (by decide)) (rnCk_of (by decide +kernel) rfl) (tfM_raw hez19) ?_
            obtain ⟨qz22, hez21, h⟩ := bd h
            refine sb_callVi 1 rfl oX12_isDigit ln12_186 vX12_isDigit (rc_own h217.1 (S_lt h217.2) (by decide)) (rnCk_of (by decide +kernel) rfl) (tfM_isDigit hez21) ?_
            rcases ife h with ⟨cz46, h⟩ | ⟨cz46, h⟩
            · refine sb_if_eq_t 239 cz46 (by decide) ?_
              cases h
              exact rn_sub [0] rfl hc
            · refine sb_if_eq_f 239 cz46 (by decide) ?_
              refine sb_in [(186, .aload_n 0, 1), (187, .aload_n 0, 1), (188, .getfield 176, 3), (191, .sipush 10000, 3), (194, .if_icmp .ge 25, 3)] 197 (by decide +kernel) ?_
              refine sb_aload_n rfl ?_
              refine sb_aload_n rfl ?_
              refine ss_getI g12_176 h217 ?_
              refine sb_sipush cS10000 ?_
              obtain ⟨yz25, hj223, h⟩ := bd h
              have hJ223 : RN P 3 kX12_reads 223 [(0, .ref 217)] [.int yz25, .ref 217] (S M) r := by
                refine sb_in [(223, .putfield 176, 3), (226, .aload_n 0, 1), (227, .aload_n 0, 1), (228, .getfield 164, 3), (231, .iconst 1, 1), (232, .iadd, 1), (233, .putfield 164, 3), (236, .goto (-65), 3)] 239 (by decide +kernel) ?_
                refine ss_putI p12_176 h217 (by decide) ?_
                refine sb_aload_n rfl ?_
                refine sb_aload_n rfl ?_
                refine ss_getI g12_164 h217 ?_
                refine sb_iconst cI1 ?_
                refine sb_iadd ?_
                refine ss_putI p12_164 h217 (by decide) ?_
                refine sb_goto 171 (by decide) ?_
                cases h
                exact rn_sub [0] rfl hc
              clear h
              have h := hj223
              clear hj223
              rcases ife h with ⟨cz47, h⟩ | ⟨cz47, h⟩
              · refine sb_icmp_ge_t 219 cz47 (by decide) ?_
                refine sb_in [(219, .aload_n 0, 1), (220, .getfield 176, 3)] 223 (by decide +kernel) ?_
                refine sb_aload_n rfl ?_
                refine ss_getI g12_176 h217 ?_
                refine sb_end ?_
                cases h
                exact rn_sub [0] rfl hJ223
              · refine sb_icmp_ge_f 219 cz47 (by decide) ?_
                refine sb_in [(197, .bipush 10, 2), (199, .aload_n 0, 1), (200, .getfield 176, 3), (203, .imul, 1), (204, .aload_n 0, 1), (205, .aload_n 0, 1), (206, .getfield 164, 3), (209, .invokevirtual 167, 3), (212, .iadd, 1), (213, .bipush 48, 2), (215, .isub, 1), (216, .goto 7, 3)] 219 (by decide +kernel) ?_
                refine sb_bipush cB10 ?_
                refine sb_aload_n rfl ?_
                refine ss_getI g12_176 h217 ?_
                refine sb_imul ?_
                refine sb_aload_n rfl ?_
                refine sb_aload_n rfl ?_
                refine ss_getI g12_164 h217 ?_
                obtain ⟨qz24, hez23, h⟩ := bd h
                refine sb_callVi 1 rfl oX12_raw ln12_167 vX12_raw (rc_own h217.1 (S_lt h217.2) (by decide)) (rnCk_of (by decide +kernel) rfl) (tfM_raw hez23) ?_
                refine sb_iadd ?_
                refine sb_bipush cB48 ?_
                refine sb_isub ?_
                refine sb_goto 223 (by decide) ?_
                cases h
                exact rn_sub [0] rfl hJ223
          · clear hl171
            obtain ⟨Mz28, hey⟩ : ∃ z, z = e171 := ⟨_, rfl⟩
            subst hey
            show RN P 3 kX12_reads 239 [(0, .ref 217)] [] (S Mz28) r
            refine sb_in [(239, .aload_n 0, 1), (240, .getfield 164, 3), (243, .aload_n 0, 1), (244, .getfield 170, 3), (247, .isub, 1), (248, .iconst 5, 1), (249, .if_icmp .ge 24, 3)] 252 (by decide +kernel) ?_
            refine sb_aload_n rfl ?_
            refine ss_getI g12_164 h217 ?_
            refine sb_aload_n rfl ?_
            refine ss_getI g12_170 h217 ?_
            refine sb_isub ?_
            refine sb_iconst cI5 ?_
            rcases ife h with ⟨cz48, h⟩ | ⟨cz48, h⟩
            · refine sb_icmp_ge_t 273 cz48 (by decide) ?_
              refine sb_in [(273, .return_, 1)] 274 (by decide +kernel) ?_
              cases h
              subst hr
              refine sb_return ?_
              exact rfl
            · refine sb_icmp_ge_f 273 cz48 (by decide) ?_
              refine sb_in [(252, .aload_n 0, 1), (253, .iconst 3, 1), (254, .putfield 173, 3), (257, .goto 16, 3)] 260 (by decide +kernel) ?_
              refine sb_aload_n rfl ?_
              refine sb_iconst cI3 ?_
              refine ss_putI p12_173 h217 (by decide) ?_
              refine sb_goto 273 (by decide) ?_
              refine sb_in [(273, .return_, 1)] 274 (by decide +kernel) ?_
              cases h
              subst hr
              refine sb_return ?_
              exact rfl
      · refine sb_if_eq_f 155 cz43 (by decide) ?_
        obtain ⟨e95, hl95, h⟩ := bd h
        refine rn_sub [0] rfl ?_
        refine lp_ind (P := fun s => RN P 3 kX12_reads 95 [(0, .ref 217)] [] (S s) r) (E := fun p => RN P 3 kX12_reads 123 [(0, .ref 217)] [] (S p) r) ?_ _ _ _ hl95 ?_
        · intro M qx h hc
          replace h : fM_reads_b95 M = some qx := h
          show RN P 3 kX12_reads 95 [(0, .ref 217)] [] (S M) r
          unfold fM_reads_b95 at h
          refine sb_in [(95, .aload_n 0, 1), (96, .aload_n 0, 1), (97, .aload_n 0, 1), (98, .getfield 164, 3), (101, .invokevirtual 167, 3), (104, .invokevirtual 179, 3), (107, .ifCond .eq 16, 3)] 110 (by decide +kernel) ?_
          refine sb_aload_n rfl ?_
          refine sb_aload_n rfl ?_
          refine sb_aload_n rfl ?_
          refine ss_getI g12_164 h217 ?_
          obtain ⟨qz31, hez30, h⟩ := bd h
          refine sb_callVi 1 rfl oX12_raw ln12_167 vX12_raw (rc_own h217.1 (S_lt h217.2) (by decide)) (rnCk_of (by decide +kernel) rfl) (tfM_raw hez30) ?_
          refine sb_callVi 1 rfl oX12_isLetter ln12_179 vX12_isLetter (rc_own h217.1 (S_lt h217.2) (by decide)) (rnCk_of (by decide +kernel) rfl) (tfM_isLetter) ?_
          rcases ife h with ⟨cz49, h⟩ | ⟨cz49, h⟩
          · refine sb_if_eq_t 123 cz49 (by decide) ?_
            cases h
            exact rn_sub [0] rfl hc
          · refine sb_if_eq_f 123 cz49 (by decide) ?_
            refine sb_in [(110, .aload_n 0, 1), (111, .aload_n 0, 1), (112, .getfield 164, 3), (115, .iconst 1, 1), (116, .iadd, 1), (117, .putfield 164, 3), (120, .goto (-25), 3)] 123 (by decide +kernel) ?_
            refine sb_aload_n rfl ?_
            refine sb_aload_n rfl ?_
            refine ss_getI g12_164 h217 ?_
            refine sb_iconst cI1 ?_
            refine sb_iadd ?_
            refine ss_putI p12_164 h217 (by decide) ?_
            refine sb_goto 95 (by decide) ?_
            cases h
            exact rn_sub [0] rfl hc
        · clear hl95
          obtain ⟨Mz34, hey⟩ : ∃ z, z = e95 := ⟨_, rfl⟩
          subst hey
          show RN P 3 kX12_reads 123 [(0, .ref 217)] [] (S Mz34) r
          refine sb_in [(123, .aload_n 0, 1), (124, .aload_n 0, 1), (125, .aload_n 0, 1), (126, .getfield 170, 3), (129, .aload_n 0, 1), (130, .getfield 164, 3), (133, .invokevirtual 182, 3), (136, .putfield 176, 3), (139, .aload_n 0, 1), (140, .getfield 176, 3), (143, .iconst (-1), 1), (144, .if_icmp .eq 129, 3)] 147 (by decide +kernel) ?_
          refine sb_aload_n rfl ?_
          refine sb_aload_n rfl ?_
          refine sb_aload_n rfl ?_
          refine ss_getI g12_170 h217 ?_
          refine sb_aload_n rfl ?_
          refine ss_getI g12_164 h217 ?_
          obtain ⟨qz36, hez35, h⟩ := bd h
          refine sb_callVi 2 rfl oX12_wordAt ln12_182 vX12_wordAt (rc_own h217.1 (S_lt h217.2) (by decide)) (rnCk_of (by decide +kernel) rfl) (tfM_wordAt hez35) ?_
          refine ss_putI p12_176 h217 (by decide) ?_
          refine sb_aload_n rfl ?_
          refine ss_getI g12_176 h217 ?_
          refine sb_iconst cIm1 ?_
          rcases ife h with ⟨cz50, h⟩ | ⟨cz50, h⟩
          · refine sb_icmp_eq_t 273 cz50 (by decide) ?_
            refine sb_in [(273, .return_, 1)] 274 (by decide +kernel) ?_
            cases h
            subst hr
            refine sb_return ?_
            exact rfl
          · refine sb_icmp_eq_f 273 cz50 (by decide) ?_
            refine sb_in [(147, .aload_n 0, 1), (148, .iconst 2, 1), (149, .putfield 173, 3), (152, .goto 121, 3)] 155 (by decide +kernel) ?_
            refine sb_aload_n rfl ?_
            refine sb_iconst cI2 ?_
            refine ss_putI p12_173 h217 (by decide) ?_
            refine sb_goto 273 (by decide) ?_
            refine sb_in [(273, .return_, 1)] 274 (by decide +kernel) ?_
            cases h
            subst hr
            refine sb_return ?_
            exact rfl
theorem tfM_reads {P : Px} {M : Mm} {rr : Mm} (h : fM_reads M = some rr) : EX P 3 kX12_reads [.ref 217] (S M) (none, S rr) := ex_of oX12_reads (Nat.le_of_ble_eq_true rfl) (nfM_reads  h rfl)
set_option maxRecDepth 20000 in
theorem nfM_errs {P : Px} {x1 : Int32} {M : Mm} {rr : (Int32 × Mm)} (h : fM_errs x1 M = rr) {r : Option Value × Sg} (hr : r = (some (.int rr.1), S rr.2)) : RN P 1 kX12_errs 0 [(0, .ref 217), (1, .int x1)] [] (S M) r := by
  unfold fM_errs at h
  refine sb_in [(0, .aload_n 0, 1), (1, .iload_n 1, 1), (2, .putfield 192, 3), (5, .aload_n 0, 1), (6, .aload_n 0, 1), (7, .getfield 170, 3), (10, .putfield 195, 3), (13, .iconst (-1), 1), (14, .ireturn, 1)] 15 (by decide +kernel) ?_
  refine sb_aload_n rfl ?_
  refine sb_iload_n rfl ?_
  refine ss_putI p12_192 h217 (by decide) ?_
  refine sb_aload_n rfl ?_
  refine sb_aload_n rfl ?_
  refine ss_getI g12_170 h217 ?_
  refine ss_putI p12_195 h217 (by decide) ?_
  refine sb_iconst cIm1 ?_
  subst h
  subst hr
  refine sb_ireturn ?_
  exact ⟨.int, rfl, rfl⟩
theorem tfM_errs {P : Px} {x1 : Int32} {M : Mm} : EX P 1 kX12_errs [.ref 217, .int x1] (S M) (some (.int (fM_errs x1 M).1), S (fM_errs x1 M).2) := ex_of oX12_errs (Nat.le_of_ble_eq_true rfl) (nfM_errs  rfl rfl)
set_option maxRecDepth 20000 in
theorem nfM_isWord {P : Px} {x1 : Int32} {M : Mm} {rr : Int32} (h : fM_isWord x1 M = rr) {r : Option Value × Sg} (hr : r = (some (.int rr), S M)) : RN P 1 kX12_isWord 0 [(0, .ref 217), (1, .int x1)] [] (S M) r := by
  unfold fM_isWord at h
  refine sb_in [(0, .aload_n 0, 1), (1, .getfield 173, 3), (4, .iconst 2, 1), (5, .if_icmp .ne 15, 3)] 8 (by decide +kernel) ?_
  refine sb_aload_n rfl ?_
  refine ss_getI g12_173 h217 ?_
  refine sb_iconst cI2 ?_
  rcases ife h with ⟨cz1, h⟩ | ⟨cz1, h⟩
  · refine sb_icmp_ne_f 20 cz1 (by decide) ?_
    refine sb_in [(8, .aload_n 0, 1), (9, .getfield 176, 3), (12, .iload_n 1, 1), (13, .if_icmp .ne 7, 3)] 16 (by decide +kernel) ?_
    refine sb_aload_n rfl ?_
    refine ss_getI g12_176 h217 ?_
    refine sb_iload_n rfl ?_
    rcases ife h with ⟨cz2, h⟩ | ⟨cz2, h⟩
    · refine sb_icmp_ne_f 20 cz2 (by decide) ?_
      refine sb_in [(16, .iconst 1, 1), (17, .goto 4, 3)] 20 (by decide +kernel) ?_
      refine sb_iconst cI1 ?_
      refine sb_goto 21 (by decide) ?_
      refine sb_in [(21, .ireturn, 1)] 22 (by decide +kernel) ?_
      subst h
      subst hr
      refine sb_ireturn ?_
      exact ⟨.boolean, rfl, by decide⟩
    · refine sb_icmp_ne_t 20 cz2 (by decide) ?_
      refine sb_in [(20, .iconst 0, 1)] 21 (by decide +kernel) ?_
      refine sb_iconst cI0 ?_
      refine sb_end ?_
      refine sb_in [(21, .ireturn, 1)] 22 (by decide +kernel) ?_
      subst h
      subst hr
      refine sb_ireturn ?_
      exact ⟨.boolean, rfl, by decide⟩
  · refine sb_icmp_ne_t 20 cz1 (by decide) ?_
    refine sb_in [(20, .iconst 0, 1)] 21 (by decide +kernel) ?_
    refine sb_iconst cI0 ?_
    refine sb_end ?_
    refine sb_in [(21, .ireturn, 1)] 22 (by decide +kernel) ?_
    subst h
    subst hr
    refine sb_ireturn ?_
    exact ⟨.boolean, rfl, by decide⟩
theorem tfM_isWord {P : Px} {x1 : Int32} {M : Mm} : EX P 1 kX12_isWord [.ref 217, .int x1] (S M) (some (.int (fM_isWord x1 M)), S M) := ex_of oX12_isWord (Nat.le_of_ble_eq_true rfl) (nfM_isWord  rfl rfl)
set_option maxRecDepth 20000 in
theorem nfM_isSign {P : Px} {x1 : Int32} {M : Mm} {rr : Int32} (h : fM_isSign x1 M = rr) {r : Option Value × Sg} (hr : r = (some (.int rr), S M)) : RN P 1 kX12_isSign 0 [(0, .ref 217), (1, .int x1)] [] (S M) r := by
  unfold fM_isSign at h
  refine sb_in [(0, .aload_n 0, 1), (1, .getfield 173, 3), (4, .iconst 4, 1), (5, .if_icmp .ne 15, 3)] 8 (by decide +kernel) ?_
  refine sb_aload_n rfl ?_
  refine ss_getI g12_173 h217 ?_
  refine sb_iconst cI4 ?_
  rcases ife h with ⟨cz1, h⟩ | ⟨cz1, h⟩
  · refine sb_icmp_ne_f 20 cz1 (by decide) ?_
    refine sb_in [(8, .aload_n 0, 1), (9, .getfield 176, 3), (12, .iload_n 1, 1), (13, .if_icmp .ne 7, 3)] 16 (by decide +kernel) ?_
    refine sb_aload_n rfl ?_
    refine ss_getI g12_176 h217 ?_
    refine sb_iload_n rfl ?_
    rcases ife h with ⟨cz2, h⟩ | ⟨cz2, h⟩
    · refine sb_icmp_ne_f 20 cz2 (by decide) ?_
      refine sb_in [(16, .iconst 1, 1), (17, .goto 4, 3)] 20 (by decide +kernel) ?_
      refine sb_iconst cI1 ?_
      refine sb_goto 21 (by decide) ?_
      refine sb_in [(21, .ireturn, 1)] 22 (by decide +kernel) ?_
      subst h
      subst hr
      refine sb_ireturn ?_
      exact ⟨.boolean, rfl, by decide⟩
    · refine sb_icmp_ne_t 20 cz2 (by decide) ?_
      refine sb_in [(20, .iconst 0, 1)] 21 (by decide +kernel) ?_
      refine sb_iconst cI0 ?_
      refine sb_end ?_
      refine sb_in [(21, .ireturn, 1)] 22 (by decide +kernel) ?_
      subst h
      subst hr
      refine sb_ireturn ?_
      exact ⟨.boolean, rfl, by decide⟩
  · refine sb_icmp_ne_t 20 cz1 (by decide) ?_
    refine sb_in [(20, .iconst 0, 1)] 21 (by decide +kernel) ?_
    refine sb_iconst cI0 ?_
    refine sb_end ?_
    refine sb_in [(21, .ireturn, 1)] 22 (by decide +kernel) ?_
    subst h
    subst hr
    refine sb_ireturn ?_
    exact ⟨.boolean, rfl, by decide⟩
theorem tfM_isSign {P : Px} {x1 : Int32} {M : Mm} : EX P 1 kX12_isSign [.ref 217, .int x1] (S M) (some (.int (fM_isSign x1 M)), S M) := ex_of oX12_isSign (Nat.le_of_ble_eq_true rfl) (nfM_isSign  rfl rfl)
set_option maxRecDepth 20000 in
theorem nfM_emits {P : Px} {x1 : Int32} {x2 : Int32} {M : Mm} {rr : Mm} (h : fM_emits x1 x2 M = some rr) {r : Option Value × Sg} (hr : r = (none, S rr)) : RN P 1 kX12_emits 0 [(0, .ref 217), (1, .int x1), (2, .int x2)] [] (S M) r := by
  unfold fM_emits at h
  refine sb_in [(0, .aload_n 0, 1), (1, .getfield 46, 3), (4, .sipush 800, 3), (7, .aload_n 0, 1), (8, .getfield 198, 3), (11, .iadd, 1), (12, .iload_n 1, 1), (13, .iastore, 1), (14, .aload_n 0, 1), (15, .getfield 49, 3), (18, .sipush 800, 3), (21, .aload_n 0, 1), (22, .getfield 198, 3), (25, .iadd, 1), (26, .iload_n 2, 1), (27, .iastore, 1), (28, .aload_n 0, 1), (29, .aload_n 0, 1), (30, .getfield 198, 3), (33, .iconst 1, 1), (34, .iadd, 1), (35, .putfield 198, 3), (38, .return_, 1)] 39 (by decide +kernel) ?_
  refine sb_aload_n rfl ?_
  refine ss_getR g12_46 h217 r217_21 ?_
  refine sb_sipush cS800 ?_
  refine sb_aload_n rfl ?_
  refine ss_getI g12_198 h217 ?_
  refine sb_iadd ?_
  refine sb_iload_n rfl ?_
  obtain ⟨hgz2, h⟩ := gd h
  refine ss_iast h230 (by decide) hgz2 ?_
  refine sb_aload_n rfl ?_
  refine ss_getR g12_49 h217 r217_22 ?_
  refine sb_sipush cS800 ?_
  refine sb_aload_n rfl ?_
  refine ss_getI g12_198 h217 ?_
  refine sb_iadd ?_
  refine sb_iload_n rfl ?_
  obtain ⟨hgz4, h⟩ := gd h
  refine ss_iast h231 (by decide) hgz4 ?_
  refine sb_aload_n rfl ?_
  refine sb_aload_n rfl ?_
  refine ss_getI g12_198 h217 ?_
  refine sb_iconst cI1 ?_
  refine sb_iadd ?_
  refine ss_putI p12_198 h217 (by decide) ?_
  cases h
  subst hr
  refine sb_return ?_
  exact rfl
theorem tfM_emits {P : Px} {x1 : Int32} {x2 : Int32} {M : Mm} {rr : Mm} (h : fM_emits x1 x2 M = some rr) : EX P 1 kX12_emits [.ref 217, .int x1, .int x2] (S M) (none, S rr) := ex_of oX12_emits (Nat.le_of_ble_eq_true rfl) (nfM_emits  h rfl)
set_option maxRecDepth 20000 in
theorem nfM_canAsk {P : Px} {x1 : Int32} {M : Mm} {rr : Int32} (h : fM_canAsk x1 = some rr) {r : Option Value × Sg} (hr : r = (some (.int rr), S M)) : RN P 2 kX12_canAsk 0 [(0, .ref 217), (1, .int x1)] [] (S M) r := by
  unfold fM_canAsk at h
  refine sb_in [(0, .aload_n 0, 1), (1, .iload_n 1, 1), (2, .bipush 7, 2), (4, .bipush 17, 2), (6, .invokevirtual 143, 3), (9, .ireturn, 1)] 10 (by decide +kernel) ?_
  refine sb_aload_n rfl ?_
  refine sb_iload_n rfl ?_
  refine sb_bipush cB7 ?_
  refine sb_bipush cB17 ?_
  refine sb_callVi 3 rfl oX12_isIn ln12_143 vX12_isIn (rc_own h217.1 (S_lt h217.2) (by decide)) (rnCk_of (by decide +kernel) rfl) (tfM_isIn) ?_
  obtain ⟨hgz2, h⟩ := gd h
  cases h
  subst hr
  refine sb_ireturn ?_
  exact ⟨.boolean, rfl, rn_nz hgz2⟩
theorem tfM_canAsk {P : Px} {x1 : Int32} {M : Mm} {rr : Int32} (h : fM_canAsk x1 = some rr) : EX P 2 kX12_canAsk [.ref 217, .int x1] (S M) (some (.int rr), S M) := ex_of oX12_canAsk (Nat.le_of_ble_eq_true rfl) (nfM_canAsk  h rfl)
set_option maxRecDepth 20000 in
theorem nfM_readUnit {P : Px} {M : Mm} {rr : (Int32 × Mm)} (h : fM_readUnit M = some rr) {r : Option Value × Sg} (hr : r = (some (.int rr.1), S rr.2)) : RN P 4 kX12_readUnit 0 [(0, .ref 217)] [] (S M) r := by
  unfold fM_readUnit at h
  refine sb_in [(0, .aload_n 0, 1), (1, .getfield 173, 3), (4, .iconst 2, 1), (5, .if_icmp .ne 18, 3)] 8 (by decide +kernel) ?_
  refine sb_aload_n rfl ?_
  refine ss_getI g12_173 h217 ?_
  refine sb_iconst cI2 ?_
  obtain ⟨yz3, hj24, h⟩ := bd h
  have hJ24 : RN P 4 kX12_readUnit 24 [(0, .ref 217)] [.int yz3] (S M) r := by
    refine sb_in [(24, .istore_n 1, 1), (25, .iload_n 1, 1), (26, .ifCond .ne 17, 3)] 29 (by decide +kernel) ?_
    refine sb_istore_n (by decide) rfl ?_
    refine sb_iload_n rfl ?_
    have hJ43 : ∀ (z1 : Int32) (M : Mm), fM_readUnit_j43 z1 M = some rr → RN P 4 kX12_readUnit 43 [(0, .ref 217), (1, .int z1)] [] (S M) r := by
      intro z1 M h
      unfold fM_readUnit_j43 at h
      refine sb_in [(43, .aload_n 0, 1), (44, .iload_n 1, 1), (45, .ifCond .eq 7, 3)] 48 (by decide +kernel) ?_
      refine sb_aload_n rfl ?_
      refine sb_iload_n rfl ?_
      have hJ53 : RN P 4 kX12_readUnit 53 [(0, .ref 217), (1, .int z1)] [.int (if z1 = 0 then (0 : Int32) else 1), .ref 217] (S M) r := by
        refine sb_in [(53, .iload_n 1, 1), (54, .ifCond .eq 13, 3)] 57 (by decide +kernel) ?_
        refine sb_iload_n rfl ?_
        have hJ71 : RN P 4 kX12_readUnit 71 [(0, .ref 217)] [.int (if z1 = 0 then (M 217 14) else ((M 217 14) - 7)), .int (if z1 = 0 then (0 : Int32) else 1), .ref 217] (S M) r := by
          refine sb_in [(71, .invokevirtual 207, 3), (74, .aload_n 0, 1), (75, .invokevirtual 211, 3), (78, .iconst 0, 1), (79, .ireturn, 1)] 80 (by decide +kernel) ?_
          obtain ⟨Mz6, hez5, h⟩ := bd h
          refine sb_callVv 2 rfl oX12_emits ln12_207 vX12_emits (rc_own h217.1 (S_lt h217.2) (by decide)) (rnCk_of (by decide +kernel) rfl) (tfM_emits hez5) ?_
          refine sb_aload_n rfl ?_
          obtain ⟨Mz8, hez7, h⟩ := bd h
          refine sb_callVv 0 rfl oX12_reads ln12_211 vX12_reads (rc_own h217.1 (S_lt h217.2) (by decide)) (rnCk_of (by decide +kernel) rfl) (tfM_reads hez7) ?_
          refine sb_iconst cI0 ?_
          cases h
          subst hr
          refine sb_ireturn ?_
          exact ⟨.int, rfl, rfl⟩
        rcases Decidable.em (z1 = 0) with cz9 | cz9
        · refine sb_if_eq_t 67 cz9 (by decide) ?_
          refine sb_in [(67, .aload_n 0, 1), (68, .getfield 176, 3)] 71 (by decide +kernel) ?_
          refine sb_aload_n rfl ?_
          refine ss_getI g12_176 h217 ?_
          refine sb_end ?_
          have hq := hJ71
          simp only [if_pos cz9] at hq ⊢
          exact rn_sub [0] rfl hq
        · refine sb_if_eq_f 67 cz9 (by decide) ?_
          refine sb_in [(57, .aload_n 0, 1), (58, .getfield 176, 3), (61, .bipush 7, 2), (63, .isub, 1), (64, .goto 7, 3)] 67 (by decide +kernel) ?_
          refine sb_aload_n rfl ?_
          refine ss_getI g12_176 h217 ?_
          refine sb_bipush cB7 ?_
          refine sb_isub ?_
          refine sb_goto 71 (by decide) ?_
          have hq := hJ71
          simp only [if_neg cz9] at hq ⊢
          exact rn_sub [0] rfl hq
      rcases Decidable.em (z1 = 0) with cz10 | cz10
      · refine sb_if_eq_t 52 cz10 (by decide) ?_
        refine sb_in [(52, .iconst 0, 1)] 53 (by decide +kernel) ?_
        refine sb_iconst cI0 ?_
        refine sb_end ?_
        have hq := hJ53
        simp only [if_pos cz10] at hq
        exact rn_sub [0, 1] rfl hq
      · refine sb_if_eq_f 52 cz10 (by decide) ?_
        refine sb_in [(48, .iconst 1, 1), (49, .goto 4, 3)] 52 (by decide +kernel) ?_
        refine sb_iconst cI1 ?_
        refine sb_goto 53 (by decide) ?_
        have hq := hJ53
        simp only [if_neg cz10] at hq
        exact rn_sub [0, 1] rfl hq
    rcases ife h with ⟨cz11, h⟩ | ⟨cz11, h⟩
    · refine sb_if_ne_f 43 cz11 (by decide) ?_
      refine sb_in [(29, .aload_n 0, 1), (30, .getfield 173, 3), (33, .iconst 3, 1), (34, .if_icmp .eq 9, 3)] 37 (by decide +kernel) ?_
      refine sb_aload_n rfl ?_
      refine ss_getI g12_173 h217 ?_
      refine sb_iconst cI3 ?_
      rcases ife h with ⟨cz12, h⟩ | ⟨cz12, h⟩
      · refine sb_icmp_eq_t 43 cz12 (by decide) ?_
        exact rn_sub [0, 1] rfl (hJ43 _ _ h)
      · refine sb_icmp_eq_f 43 cz12 (by decide) ?_
        refine sb_in [(37, .aload_n 0, 1), (38, .iconst 1, 1), (39, .invokevirtual 204, 3), (42, .ireturn, 1)] 43 (by decide +kernel) ?_
        refine sb_aload_n rfl ?_
        refine sb_iconst cI1 ?_
        refine sb_callVi 1 rfl oX12_errs ln12_204 vX12_errs (rc_own h217.1 (S_lt h217.2) (by decide)) (rnCk_of (by decide +kernel) rfl) (tfM_errs) ?_
        cases h
        subst hr
        refine sb_ireturn ?_
        exact ⟨.int, rfl, rfl⟩
    · refine sb_if_ne_t 43 cz11 (by decide) ?_
      exact rn_sub [0, 1] rfl (hJ43 _ _ h)
  clear h
  have h := hj24
  clear hj24
  rcases ife h with ⟨cz13, h⟩ | ⟨cz13, h⟩
  · refine sb_icmp_ne_f 23 cz13 (by decide) ?_
    refine sb_in [(8, .aload_n 0, 1), (9, .aload_n 0, 1), (10, .getfield 176, 3), (13, .invokevirtual 201, 3), (16, .ifCond .eq 7, 3)] 19 (by decide +kernel) ?_
    refine sb_aload_n rfl ?_
    refine sb_aload_n rfl ?_
    refine ss_getI g12_176 h217 ?_
    obtain ⟨qz2, hez1, h⟩ := bd h
    refine sb_callVi 1 rfl oX12_canAsk ln12_201 vX12_canAsk (rc_own h217.1 (S_lt h217.2) (by decide)) (rnCk_of (by decide +kernel) rfl) (tfM_canAsk hez1) ?_
    rcases ife h with ⟨cz14, h⟩ | ⟨cz14, h⟩
    · refine sb_if_eq_t 23 cz14 (by decide) ?_
      refine sb_in [(23, .iconst 0, 1)] 24 (by decide +kernel) ?_
      refine sb_iconst cI0 ?_
      refine sb_end ?_
      cases h
      exact rn_sub [0] rfl hJ24
    · refine sb_if_eq_f 23 cz14 (by decide) ?_
      refine sb_in [(19, .iconst 1, 1), (20, .goto 4, 3)] 23 (by decide +kernel) ?_
      refine sb_iconst cI1 ?_
      refine sb_goto 24 (by decide) ?_
      cases h
      exact rn_sub [0] rfl hJ24
  · refine sb_icmp_ne_t 23 cz13 (by decide) ?_
    refine sb_in [(23, .iconst 0, 1)] 24 (by decide +kernel) ?_
    refine sb_iconst cI0 ?_
    refine sb_end ?_
    cases h
    exact rn_sub [0] rfl hJ24
theorem tfM_readUnit {P : Px} {M : Mm} {rr : (Int32 × Mm)} (h : fM_readUnit M = some rr) : EX P 4 kX12_readUnit [.ref 217] (S M) (some (.int rr.1), S rr.2) := ex_of oX12_readUnit (Nat.le_of_ble_eq_true rfl) (nfM_readUnit  h rfl)
set_option maxRecDepth 20000 in
theorem nfM_readProduct {P : Px} {M : Mm} {rr : (Int32 × Mm)} (h : fM_readProduct M = some rr) {r : Option Value × Sg} (hr : r = (some (.int rr.1), S rr.2)) : RN P 5 kX12_readProduct 0 [(0, .ref 217)] [] (S M) r := by
  unfold fM_readProduct at h
  refine sb_in [(0, .aload_n 0, 1), (1, .invokevirtual 214, 3), (4, .iconst (-1), 1), (5, .if_icmp .ne 5, 3)] 8 (by decide +kernel) ?_
  refine sb_aload_n rfl ?_
  obtain ⟨qz2, hez1, h⟩ := bd h
  refine sb_callVi 0 rfl oX12_readUnit ln12_214 vX12_readUnit (rc_own h217.1 (S_lt h217.2) (by decide)) (rnCk_of (by decide +kernel) rfl) (tfM_readUnit hez1) ?_
  refine sb_iconst cIm1 ?_
  rcases ife h with ⟨cz18, h⟩ | ⟨cz18, h⟩
  · refine sb_icmp_ne_f 10 cz18 (by decide) ?_
    refine sb_in [(8, .iconst (-1), 1), (9, .ireturn, 1)] 10 (by decide +kernel) ?_
    refine sb_iconst cIm1 ?_
    cases h
    subst hr
    refine sb_ireturn ?_
    exact ⟨.int, rfl, rfl⟩
  · refine sb_icmp_ne_t 10 cz18 (by decide) ?_
    obtain ⟨e10, hl10, h⟩ := bd h
    refine rn_sub [0] rfl ?_
    refine lp_ind (P := fun s => RN P 5 kX12_readProduct 10 [(0, .ref 217)] [] (S s) r) (E := fun e => match e with | Sum.inl p => RN P 5 kX12_readProduct 51 [(0, .ref 217)] [] (S p) r | Sum.inr (Sum.inl p) => RN P 5 kX12_readProduct 68 [(0, .ref 217)] [] (S p) r | Sum.inr (Sum.inr (Sum.inl p)) => RN P 5 kX12_readProduct 82 [] [] (S p) r | Sum.inr (Sum.inr (Sum.inr p)) => RN P 5 kX12_readProduct 101 [] [] (S p) r) ?_ _ _ _ hl10 ?_
    · intro M qx h hc
      replace h : fM_readProduct_b10 M = some qx := h
      show RN P 5 kX12_readProduct 10 [(0, .ref 217)] [] (S M) r
      unfold fM_readProduct_b10 at h
      refine sb_in [(10, .aload_n 0, 1), (11, .bipush 42, 2), (13, .invokevirtual 218, 3), (16, .ifCond .ne 12, 3)] 19 (by decide +kernel) ?_
      refine sb_aload_n rfl ?_
      refine sb_bipush cB42 ?_
      refine sb_callVi 1 rfl oX12_isSign ln12_218 vX12_isSign (rc_own h217.1 (S_lt h217.2) (by decide)) (rnCk_of (by decide +kernel) rfl) (tfM_isSign) ?_
      have hJ28 : ∀ (M : Mm), fM_readProduct_j28 M = some qx → RN P 5 kX12_readProduct 28 [(0, .ref 217)] [] (S M) r := by
        intro M h
        unfold fM_readProduct_j28 at h
        refine sb_in [(28, .aload_n 0, 1), (29, .bipush 42, 2), (31, .invokevirtual 218, 3), (34, .istore_n 1, 1), (35, .aload_n 0, 1), (36, .invokevirtual 211, 3), (39, .iload_n 1, 1), (40, .ifCond .ne 17, 3)] 43 (by decide +kernel) ?_
        refine sb_aload_n rfl ?_
        refine sb_bipush cB42 ?_
        refine sb_callVi 1 rfl oX12_isSign ln12_218 vX12_isSign (rc_own h217.1 (S_lt h217.2) (by decide)) (rnCk_of (by decide +kernel) rfl) (tfM_isSign) ?_
        refine sb_istore_n (by decide) rfl ?_
        refine sb_aload_n rfl ?_
        obtain ⟨Mz7, hez6, h⟩ := bd h
        refine sb_callVv 0 rfl oX12_reads ln12_211 vX12_reads (rc_own h217.1 (S_lt h217.2) (by decide)) (rnCk_of (by decide +kernel) rfl) (tfM_reads hez6) ?_
        refine sb_iload_n rfl ?_
        have hJ57 : ∀ (z1 : Int32) (M : Mm), fM_readProduct_j57 z1 M = some qx → RN P 5 kX12_readProduct 57 [(0, .ref 217), (1, .int z1)] [] (S M) r := by
          intro z1 M h
          unfold fM_readProduct_j57 at h
          refine sb_in [(57, .iload_n 1, 1), (58, .ifCond .ne 16, 3)] 61 (by decide +kernel) ?_
          refine sb_iload_n rfl ?_
          have hJ74 : ∀ (z1 : Int32) (M : Mm), fM_readProduct_j74 z1 M = some qx → RN P 5 kX12_readProduct 74 [(0, .ref 217), (1, .int z1)] [] (S M) r := by
            intro z1 M h
            unfold fM_readProduct_j74 at h
            refine sb_in [(74, .aload_n 0, 1), (75, .invokevirtual 214, 3), (78, .iconst (-1), 1), (79, .if_icmp .ne 5, 3)] 82 (by decide +kernel) ?_
            refine sb_aload_n rfl ?_
            obtain ⟨qz9, hez8, h⟩ := bd h
            refine sb_callVi 0 rfl oX12_readUnit ln12_214 vX12_readUnit (rc_own h217.1 (S_lt h217.2) (by decide)) (rnCk_of (by decide +kernel) rfl) (tfM_readUnit hez8) ?_
            refine sb_iconst cIm1 ?_
            rcases ife h with ⟨cz19, h⟩ | ⟨cz19, h⟩
            · refine sb_icmp_ne_f 84 cz19 (by decide) ?_
              cases h
              exact rn_sub [] rfl hc
            · refine sb_icmp_ne_t 84 cz19 (by decide) ?_
              refine sb_in [(84, .aload_n 0, 1), (85, .iload_n 1, 1), (86, .ifCond .eq 7, 3)] 89 (by decide +kernel) ?_
              refine sb_aload_n rfl ?_
              refine sb_iload_n rfl ?_
              have hJ94 : RN P 5 kX12_readProduct 94 [(0, .ref 217)] [.int (if z1 = 0 then (5 : Int32) else 4), .ref 217] (S qz9.2) r := by
                refine sb_in [(94, .iconst 0, 1), (95, .invokevirtual 207, 3), (98, .goto (-88), 3)] 101 (by decide +kernel) ?_
                refine sb_iconst cI0 ?_
                obtain ⟨Mz11, hez10, h⟩ := bd h
                refine sb_callVv 2 rfl oX12_emits ln12_207 vX12_emits (rc_own h217.1 (S_lt h217.2) (by decide)) (rnCk_of (by decide +kernel) rfl) (tfM_emits hez10) ?_
                refine sb_goto 10 (by decide) ?_
                cases h
                exact rn_sub [0] rfl hc
              rcases Decidable.em (z1 = 0) with cz20 | cz20
              · refine sb_if_eq_t 93 cz20 (by decide) ?_
                refine sb_in [(93, .iconst 5, 1)] 94 (by decide +kernel) ?_
                refine sb_iconst cI5 ?_
                refine sb_end ?_
                have hq := hJ94
                simp only [if_pos cz20] at hq
                exact rn_sub [0] rfl hq
              · refine sb_if_eq_f 93 cz20 (by decide) ?_
                refine sb_in [(89, .iconst 4, 1), (90, .goto 4, 3)] 93 (by decide +kernel) ?_
                refine sb_iconst cI4 ?_
                refine sb_goto 94 (by decide) ?_
                have hq := hJ94
                simp only [if_neg cz20] at hq
                exact rn_sub [0] rfl hq
          rcases ife h with ⟨cz21, h⟩ | ⟨cz21, h⟩
          · refine sb_if_ne_f 74 cz21 (by decide) ?_
            refine sb_in [(61, .aload_n 0, 1), (62, .getfield 176, 3), (65, .ifCond .ne 9, 3)] 68 (by decide +kernel) ?_
            refine sb_aload_n rfl ?_
            refine ss_getI g12_176 h217 ?_
            rcases ife h with ⟨cz22, h⟩ | ⟨cz22, h⟩
            · refine sb_if_ne_f 74 cz22 (by decide) ?_
              cases h
              exact rn_sub [0] rfl hc
            · refine sb_if_ne_t 74 cz22 (by decide) ?_
              exact rn_sub [0, 1] rfl (hJ74 _ _ h)
          · refine sb_if_ne_t 74 cz21 (by decide) ?_
            exact rn_sub [0, 1] rfl (hJ74 _ _ h)
        rcases ife h with ⟨cz23, h⟩ | ⟨cz23, h⟩
        · refine sb_if_ne_f 57 cz23 (by decide) ?_
          refine sb_in [(43, .aload_n 0, 1), (44, .getfield 173, 3), (47, .iconst 3, 1), (48, .if_icmp .eq 9, 3)] 51 (by decide +kernel) ?_
          refine sb_aload_n rfl ?_
          refine ss_getI g12_173 h217 ?_
          refine sb_iconst cI3 ?_
          rcases ife h with ⟨cz24, h⟩ | ⟨cz24, h⟩
          · refine sb_icmp_eq_t 57 cz24 (by decide) ?_
            exact rn_sub [0, 1] rfl (hJ57 _ _ h)
          · refine sb_icmp_eq_f 57 cz24 (by decide) ?_
            cases h
            exact rn_sub [0] rfl hc
        · refine sb_if_ne_t 57 cz23 (by decide) ?_
          exact rn_sub [0, 1] rfl (hJ57 _ _ h)
      rcases ife h with ⟨cz25, h⟩ | ⟨cz25, h⟩
      · refine sb_if_ne_f 28 cz25 (by decide) ?_
        refine sb_in [(19, .aload_n 0, 1), (20, .bipush 47, 2), (22, .invokevirtual 218, 3), (25, .ifCond .eq 76, 3)] 28 (by decide +kernel) ?_
        refine sb_aload_n rfl ?_
        refine sb_bipush cB47 ?_
        refine sb_callVi 1 rfl oX12_isSign ln12_218 vX12_isSign (rc_own h217.1 (S_lt h217.2) (by decide)) (rnCk_of (by decide +kernel) rfl) (tfM_isSign) ?_
        rcases ife h with ⟨cz26, h⟩ | ⟨cz26, h⟩
        · refine sb_if_eq_t 101 cz26 (by decide) ?_
          cases h
          exact rn_sub [] rfl hc
        · refine sb_if_eq_f 101 cz26 (by decide) ?_
          exact rn_sub [0] rfl (hJ28 _ h)
      · refine sb_if_ne_t 28 cz25 (by decide) ?_
        exact rn_sub [0] rfl (hJ28 _ h)
    · clear hl10
      rcases e10 with e10 | e10 | e10 | e10
      · skip
        obtain ⟨Mz12, hey⟩ : ∃ z, z = e10 := ⟨_, rfl⟩
        subst hey
        show RN P 5 kX12_readProduct 51 [(0, .ref 217)] [] (S Mz12) r
        refine sb_in [(51, .aload_n 0, 1), (52, .iconst 1, 1), (53, .invokevirtual 204, 3), (56, .ireturn, 1)] 57 (by decide +kernel) ?_
        refine sb_aload_n rfl ?_
        refine sb_iconst cI1 ?_
        refine sb_callVi 1 rfl oX12_errs ln12_204 vX12_errs (rc_own h217.1 (S_lt h217.2) (by decide)) (rnCk_of (by decide +kernel) rfl) (tfM_errs) ?_
        cases h
        subst hr
        refine sb_ireturn ?_
        exact ⟨.int, rfl, rfl⟩
      · skip
        obtain ⟨Mz14, hey⟩ : ∃ z, z = e10 := ⟨_, rfl⟩
        subst hey
        show RN P 5 kX12_readProduct 68 [(0, .ref 217)] [] (S Mz14) r
        refine sb_in [(68, .aload_n 0, 1), (69, .iconst 2, 1), (70, .invokevirtual 204, 3), (73, .ireturn, 1)] 74 (by decide +kernel) ?_
        refine sb_aload_n rfl ?_
        refine sb_iconst cI2 ?_
        refine sb_callVi 1 rfl oX12_errs ln12_204 vX12_errs (rc_own h217.1 (S_lt h217.2) (by decide)) (rnCk_of (by decide +kernel) rfl) (tfM_errs) ?_
        cases h
        subst hr
        refine sb_ireturn ?_
        exact ⟨.int, rfl, rfl⟩
      · skip
        obtain ⟨Mz16, hey⟩ : ∃ z, z = e10 := ⟨_, rfl⟩
        subst hey
        show RN P 5 kX12_readProduct 82 [] [] (S Mz16) r
        refine sb_in [(82, .iconst (-1), 1), (83, .ireturn, 1)] 84 (by decide +kernel) ?_
        refine sb_iconst cIm1 ?_
        cases h
        subst hr
        refine sb_ireturn ?_
        exact ⟨.int, rfl, rfl⟩
      · skip
        obtain ⟨Mz17, hey⟩ : ∃ z, z = e10 := ⟨_, rfl⟩
        subst hey
        show RN P 5 kX12_readProduct 101 [] [] (S Mz17) r
        refine sb_in [(101, .iconst 0, 1), (102, .ireturn, 1)] 103 (by decide +kernel) ?_
        refine sb_iconst cI0 ?_
        cases h
        subst hr
        refine sb_ireturn ?_
        exact ⟨.int, rfl, rfl⟩
theorem tfM_readProduct {P : Px} {M : Mm} {rr : (Int32 × Mm)} (h : fM_readProduct M = some rr) : EX P 5 kX12_readProduct [.ref 217] (S M) (some (.int rr.1), S rr.2) := ex_of oX12_readProduct (Nat.le_of_ble_eq_true rfl) (nfM_readProduct  h rfl)
set_option maxRecDepth 20000 in
theorem nfM_readSum {P : Px} {M : Mm} {rr : (Int32 × Mm)} (h : fM_readSum M = some rr) {r : Option Value × Sg} (hr : r = (some (.int rr.1), S rr.2)) : RN P 6 kX12_readSum 0 [(0, .ref 217)] [] (S M) r := by
  unfold fM_readSum at h
  refine sb_in [(0, .aload_n 0, 1), (1, .invokevirtual 221, 3), (4, .iconst (-1), 1), (5, .if_icmp .ne 5, 3)] 8 (by decide +kernel) ?_
  refine sb_aload_n rfl ?_
  obtain ⟨qz2, hez1, h⟩ := bd h
  refine sb_callVi 0 rfl oX12_readProduct ln12_221 vX12_readProduct (rc_own h217.1 (S_lt h217.2) (by decide)) (rnCk_of (by decide +kernel) rfl) (tfM_readProduct hez1) ?_
  refine sb_iconst cIm1 ?_
  rcases ife h with ⟨cz14, h⟩ | ⟨cz14, h⟩
  · refine sb_icmp_ne_f 10 cz14 (by decide) ?_
    refine sb_in [(8, .iconst (-1), 1), (9, .ireturn, 1)] 10 (by decide +kernel) ?_
    refine sb_iconst cIm1 ?_
    cases h
    subst hr
    refine sb_ireturn ?_
    exact ⟨.int, rfl, rfl⟩
  · refine sb_icmp_ne_t 10 cz14 (by decide) ?_
    obtain ⟨e10, hl10, h⟩ := bd h
    refine rn_sub [0] rfl ?_
    refine lp_ind (P := fun s => RN P 6 kX12_readSum 10 [(0, .ref 217)] [] (S s) r) (E := fun e => match e with | Sum.inl p => RN P 6 kX12_readSum 55 [] [] (S p) r | Sum.inr p => RN P 6 kX12_readSum 66 [] [] (S p) r) ?_ _ _ _ hl10 ?_
    · intro M qx h hc
      replace h : fM_readSum_b10 M = some qx := h
      show RN P 6 kX12_readSum 10 [(0, .ref 217)] [] (S M) r
      unfold fM_readSum_b10 at h
      refine sb_in [(10, .aload_n 0, 1), (11, .bipush 43, 2), (13, .invokevirtual 218, 3), (16, .ifCond .ne 12, 3)] 19 (by decide +kernel) ?_
      refine sb_aload_n rfl ?_
      refine sb_bipush cB43 ?_
      refine sb_callVi 1 rfl oX12_isSign ln12_218 vX12_isSign (rc_own h217.1 (S_lt h217.2) (by decide)) (rnCk_of (by decide +kernel) rfl) (tfM_isSign) ?_
      have hJ28 : ∀ (M : Mm), fM_readSum_j28 M = some qx → RN P 6 kX12_readSum 28 [(0, .ref 217)] [] (S M) r := by
        intro M h
        unfold fM_readSum_j28 at h
        refine sb_in [(28, .aload_n 0, 1), (29, .getfield 176, 3), (32, .bipush 43, 2), (34, .if_icmp .ne 7, 3)] 37 (by decide +kernel) ?_
        refine sb_aload_n rfl ?_
        refine ss_getI g12_176 h217 ?_
        refine sb_bipush cB43 ?_
        have hJ42 : RN P 6 kX12_readSum 42 [(0, .ref 217)] [.int (if (M 217 14) = 43 then (2 : Int32) else 3)] (S M) r := by
          refine sb_in [(42, .istore_n 1, 1), (43, .aload_n 0, 1), (44, .invokevirtual 211, 3), (47, .aload_n 0, 1), (48, .invokevirtual 221, 3), (51, .iconst (-1), 1), (52, .if_icmp .ne 5, 3)] 55 (by decide +kernel) ?_
          refine sb_istore_n (by decide) rfl ?_
          refine sb_aload_n rfl ?_
          obtain ⟨Mz7, hez6, h⟩ := bd h
          refine sb_callVv 0 rfl oX12_reads ln12_211 vX12_reads (rc_own h217.1 (S_lt h217.2) (by decide)) (rnCk_of (by decide +kernel) rfl) (tfM_reads hez6) ?_
          refine sb_aload_n rfl ?_
          obtain ⟨qz9, hez8, h⟩ := bd h
          refine sb_callVi 0 rfl oX12_readProduct ln12_221 vX12_readProduct (rc_own h217.1 (S_lt h217.2) (by decide)) (rnCk_of (by decide +kernel) rfl) (tfM_readProduct hez8) ?_
          refine sb_iconst cIm1 ?_
          rcases ife h with ⟨cz15, h⟩ | ⟨cz15, h⟩
          · refine sb_icmp_ne_f 57 cz15 (by decide) ?_
            cases h
            exact rn_sub [] rfl hc
          · refine sb_icmp_ne_t 57 cz15 (by decide) ?_
            refine sb_in [(57, .aload_n 0, 1), (58, .iload_n 1, 1), (59, .iconst 0, 1), (60, .invokevirtual 207, 3), (63, .goto (-53), 3)] 66 (by decide +kernel) ?_
            refine sb_aload_n rfl ?_
            refine sb_iload_n rfl ?_
            refine sb_iconst cI0 ?_
            obtain ⟨Mz11, hez10, h⟩ := bd h
            refine sb_callVv 2 rfl oX12_emits ln12_207 vX12_emits (rc_own h217.1 (S_lt h217.2) (by decide)) (rnCk_of (by decide +kernel) rfl) (tfM_emits hez10) ?_
            refine sb_goto 10 (by decide) ?_
            cases h
            exact rn_sub [0] rfl hc
        rcases Decidable.em ((M 217 14) = 43) with cz16 | cz16
        · refine sb_icmp_ne_f 41 cz16 (by decide) ?_
          refine sb_in [(37, .iconst 2, 1), (38, .goto 4, 3)] 41 (by decide +kernel) ?_
          refine sb_iconst cI2 ?_
          refine sb_goto 42 (by decide) ?_
          have hq := hJ42
          simp only [if_pos cz16] at hq
          exact rn_sub [0] rfl hq
        · refine sb_icmp_ne_t 41 cz16 (by decide) ?_
          refine sb_in [(41, .iconst 3, 1)] 42 (by decide +kernel) ?_
          refine sb_iconst cI3 ?_
          refine sb_end ?_
          have hq := hJ42
          simp only [if_neg cz16] at hq
          exact rn_sub [0] rfl hq
      rcases ife h with ⟨cz17, h⟩ | ⟨cz17, h⟩
      · refine sb_if_ne_f 28 cz17 (by decide) ?_
        refine sb_in [(19, .aload_n 0, 1), (20, .bipush 45, 2), (22, .invokevirtual 218, 3), (25, .ifCond .eq 41, 3)] 28 (by decide +kernel) ?_
        refine sb_aload_n rfl ?_
        refine sb_bipush cB45 ?_
        refine sb_callVi 1 rfl oX12_isSign ln12_218 vX12_isSign (rc_own h217.1 (S_lt h217.2) (by decide)) (rnCk_of (by decide +kernel) rfl) (tfM_isSign) ?_
        rcases ife h with ⟨cz18, h⟩ | ⟨cz18, h⟩
        · refine sb_if_eq_t 66 cz18 (by decide) ?_
          cases h
          exact rn_sub [] rfl hc
        · refine sb_if_eq_f 66 cz18 (by decide) ?_
          exact rn_sub [0] rfl (hJ28 _ h)
      · refine sb_if_ne_t 28 cz17 (by decide) ?_
        exact rn_sub [0] rfl (hJ28 _ h)
    · clear hl10
      rcases e10 with e10 | e10
      · skip
        obtain ⟨Mz12, hey⟩ : ∃ z, z = e10 := ⟨_, rfl⟩
        subst hey
        show RN P 6 kX12_readSum 55 [] [] (S Mz12) r
        refine sb_in [(55, .iconst (-1), 1), (56, .ireturn, 1)] 57 (by decide +kernel) ?_
        refine sb_iconst cIm1 ?_
        cases h
        subst hr
        refine sb_ireturn ?_
        exact ⟨.int, rfl, rfl⟩
      · skip
        obtain ⟨Mz13, hey⟩ : ∃ z, z = e10 := ⟨_, rfl⟩
        subst hey
        show RN P 6 kX12_readSum 66 [] [] (S Mz13) r
        refine sb_in [(66, .iconst 0, 1), (67, .ireturn, 1)] 68 (by decide +kernel) ?_
        refine sb_iconst cI0 ?_
        cases h
        subst hr
        refine sb_ireturn ?_
        exact ⟨.int, rfl, rfl⟩
theorem tfM_readSum {P : Px} {M : Mm} {rr : (Int32 × Mm)} (h : fM_readSum M = some rr) : EX P 6 kX12_readSum [.ref 217] (S M) (some (.int rr.1), S rr.2) := ex_of oX12_readSum (Nat.le_of_ble_eq_true rfl) (nfM_readSum  h rfl)
set_option maxRecDepth 20000 in
theorem nfM_readCompared {P : Px} {M : Mm} {rr : (Int32 × Mm)} (h : fM_readCompared M = some rr) {r : Option Value × Sg} (hr : r = (some (.int rr.1), S rr.2)) : RN P 7 kX12_readCompared 0 [(0, .ref 217)] [] (S M) r := by
  unfold fM_readCompared at h
  refine sb_in [(0, .aload_n 0, 1), (1, .invokevirtual 224, 3), (4, .iconst (-1), 1), (5, .if_icmp .ne 5, 3)] 8 (by decide +kernel) ?_
  refine sb_aload_n rfl ?_
  obtain ⟨qz2, hez1, h⟩ := bd h
  refine sb_callVi 0 rfl oX12_readSum ln12_224 vX12_readSum (rc_own h217.1 (S_lt h217.2) (by decide)) (rnCk_of (by decide +kernel) rfl) (tfM_readSum hez1) ?_
  refine sb_iconst cIm1 ?_
  rcases ife h with ⟨cz14, h⟩ | ⟨cz14, h⟩
  · refine sb_icmp_ne_f 10 cz14 (by decide) ?_
    refine sb_in [(8, .iconst (-1), 1), (9, .ireturn, 1)] 10 (by decide +kernel) ?_
    refine sb_iconst cIm1 ?_
    cases h
    subst hr
    refine sb_ireturn ?_
    exact ⟨.int, rfl, rfl⟩
  · refine sb_icmp_ne_t 10 cz14 (by decide) ?_
    refine sb_in [(10, .aload_n 0, 1), (11, .bipush 60, 2), (13, .invokevirtual 218, 3), (16, .ifCond .ne 27, 3)] 19 (by decide +kernel) ?_
    refine sb_aload_n rfl ?_
    refine sb_bipush cB60 ?_
    refine sb_callVi 1 rfl oX12_isSign ln12_218 vX12_isSign (rc_own h217.1 (S_lt h217.2) (by decide)) (rnCk_of (by decide +kernel) rfl) (tfM_isSign) ?_
    have hJ43 : ∀ (M : Mm), fM_readCompared_j43 M = some rr → RN P 7 kX12_readCompared 43 [(0, .ref 217)] [] (S M) r := by
      intro M h
      unfold fM_readCompared_j43 at h
      refine sb_in [(43, .aload_n 0, 1), (44, .getfield 176, 3), (47, .bipush 60, 2), (49, .if_icmp .ne 8, 3)] 52 (by decide +kernel) ?_
      refine sb_aload_n rfl ?_
      refine ss_getI g12_176 h217 ?_
      refine sb_bipush cB60 ?_
      have hJ73 : RN P 7 kX12_readCompared 73 [(0, .ref 217)] [.int (if (M 217 14) = 60 then (6 : Int32) else (if (M 217 14) = 61 then (7 : Int32) else 8))] (S M) r := by
        refine sb_in [(73, .istore_n 1, 1), (74, .aload_n 0, 1), (75, .invokevirtual 211, 3), (78, .aload_n 0, 1), (79, .invokevirtual 224, 3), (82, .iconst (-1), 1), (83, .if_icmp .ne 5, 3)] 86 (by decide +kernel) ?_
        refine sb_istore_n (by decide) rfl ?_
        refine sb_aload_n rfl ?_
        obtain ⟨Mz9, hez8, h⟩ := bd h
        refine sb_callVv 0 rfl oX12_reads ln12_211 vX12_reads (rc_own h217.1 (S_lt h217.2) (by decide)) (rnCk_of (by decide +kernel) rfl) (tfM_reads hez8) ?_
        refine sb_aload_n rfl ?_
        obtain ⟨qz11, hez10, h⟩ := bd h
        refine sb_callVi 0 rfl oX12_readSum ln12_224 vX12_readSum (rc_own h217.1 (S_lt h217.2) (by decide)) (rnCk_of (by decide +kernel) rfl) (tfM_readSum hez10) ?_
        refine sb_iconst cIm1 ?_
        rcases ife h with ⟨cz15, h⟩ | ⟨cz15, h⟩
        · refine sb_icmp_ne_f 88 cz15 (by decide) ?_
          refine sb_in [(86, .iconst (-1), 1), (87, .ireturn, 1)] 88 (by decide +kernel) ?_
          refine sb_iconst cIm1 ?_
          cases h
          subst hr
          refine sb_ireturn ?_
          exact ⟨.int, rfl, rfl⟩
        · refine sb_icmp_ne_t 88 cz15 (by decide) ?_
          refine sb_in [(88, .aload_n 0, 1), (89, .iload_n 1, 1), (90, .iconst 0, 1), (91, .invokevirtual 207, 3), (94, .iconst 0, 1), (95, .ireturn, 1)] 96 (by decide +kernel) ?_
          refine sb_aload_n rfl ?_
          refine sb_iload_n rfl ?_
          refine sb_iconst cI0 ?_
          obtain ⟨Mz13, hez12, h⟩ := bd h
          refine sb_callVv 2 rfl oX12_emits ln12_207 vX12_emits (rc_own h217.1 (S_lt h217.2) (by decide)) (rnCk_of (by decide +kernel) rfl) (tfM_emits hez12) ?_
          refine sb_iconst cI0 ?_
          cases h
          subst hr
          refine sb_ireturn ?_
          exact ⟨.int, rfl, rfl⟩
      rcases Decidable.em ((M 217 14) = 60) with cz16 | cz16
      · refine sb_icmp_ne_f 57 cz16 (by decide) ?_
        refine sb_in [(52, .bipush 6, 2), (54, .goto 19, 3)] 57 (by decide +kernel) ?_
        refine sb_bipush cB6 ?_
        refine sb_goto 73 (by decide) ?_
        have hq := hJ73
        simp only [if_pos cz16] at hq
        exact rn_sub [0] rfl hq
      · refine sb_icmp_ne_t 57 cz16 (by decide) ?_
        refine sb_in [(57, .aload_n 0, 1), (58, .getfield 176, 3), (61, .bipush 61, 2), (63, .if_icmp .ne 8, 3)] 66 (by decide +kernel) ?_
        refine sb_aload_n rfl ?_
        refine ss_getI g12_176 h217 ?_
        refine sb_bipush cB61 ?_
        rcases Decidable.em ((M 217 14) = 61) with cz17 | cz17
        · refine sb_icmp_ne_f 71 cz17 (by decide) ?_
          refine sb_in [(66, .bipush 7, 2), (68, .goto 5, 3)] 71 (by decide +kernel) ?_
          refine sb_bipush cB7 ?_
          refine sb_goto 73 (by decide) ?_
          have hq := hJ73
          simp only [if_neg cz16] at hq
          simp only [if_pos cz17] at hq
          exact rn_sub [0] rfl hq
        · refine sb_icmp_ne_t 71 cz17 (by decide) ?_
          refine sb_in [(71, .bipush 8, 2)] 73 (by decide +kernel) ?_
          refine sb_bipush cB8 ?_
          refine sb_end ?_
          have hq := hJ73
          simp only [if_neg cz16] at hq
          simp only [if_neg cz17] at hq
          exact rn_sub [0] rfl hq
    rcases ife h with ⟨cz18, h⟩ | ⟨cz18, h⟩
    · refine sb_if_ne_f 43 cz18 (by decide) ?_
      refine sb_in [(19, .aload_n 0, 1), (20, .bipush 61, 2), (22, .invokevirtual 218, 3), (25, .ifCond .ne 18, 3)] 28 (by decide +kernel) ?_
      refine sb_aload_n rfl ?_
      refine sb_bipush cB61 ?_
      refine sb_callVi 1 rfl oX12_isSign ln12_218 vX12_isSign (rc_own h217.1 (S_lt h217.2) (by decide)) (rnCk_of (by decide +kernel) rfl) (tfM_isSign) ?_
      rcases ife h with ⟨cz19, h⟩ | ⟨cz19, h⟩
      · refine sb_if_ne_f 43 cz19 (by decide) ?_
        refine sb_in [(28, .aload_n 0, 1), (29, .bipush 62, 2), (31, .invokevirtual 218, 3), (34, .ifCond .ne 9, 3)] 37 (by decide +kernel) ?_
        refine sb_aload_n rfl ?_
        refine sb_bipush cB62 ?_
        refine sb_callVi 1 rfl oX12_isSign ln12_218 vX12_isSign (rc_own h217.1 (S_lt h217.2) (by decide)) (rnCk_of (by decide +kernel) rfl) (tfM_isSign) ?_
        rcases ife h with ⟨cz20, h⟩ | ⟨cz20, h⟩
        · refine sb_if_ne_f 43 cz20 (by decide) ?_
          refine sb_in [(37, .aload_n 0, 1), (38, .iconst 1, 1), (39, .invokevirtual 204, 3), (42, .ireturn, 1)] 43 (by decide +kernel) ?_
          refine sb_aload_n rfl ?_
          refine sb_iconst cI1 ?_
          refine sb_callVi 1 rfl oX12_errs ln12_204 vX12_errs (rc_own h217.1 (S_lt h217.2) (by decide)) (rnCk_of (by decide +kernel) rfl) (tfM_errs) ?_
          cases h
          subst hr
          refine sb_ireturn ?_
          exact ⟨.int, rfl, rfl⟩
        · refine sb_if_ne_t 43 cz20 (by decide) ?_
          exact rn_sub [0] rfl (hJ43 _ h)
      · refine sb_if_ne_t 43 cz19 (by decide) ?_
        exact rn_sub [0] rfl (hJ43 _ h)
    · refine sb_if_ne_t 43 cz18 (by decide) ?_
      exact rn_sub [0] rfl (hJ43 _ h)
theorem tfM_readCompared {P : Px} {M : Mm} {rr : (Int32 × Mm)} (h : fM_readCompared M = some rr) : EX P 7 kX12_readCompared [.ref 217] (S M) (some (.int rr.1), S rr.2) := ex_of oX12_readCompared (Nat.le_of_ble_eq_true rfl) (nfM_readCompared  h rfl)
set_option maxRecDepth 20000 in
theorem nfM_waits {P : Px} {x1 : Int32} {M : Mm} {rr : Mm} (h : fM_waits x1 M = some rr) {r : Option Value × Sg} (hr : r = (none, S rr)) : RN P 1 kX12_waits 0 [(0, .ref 217), (1, .int x1)] [] (S M) r := by
  unfold fM_waits at h
  refine sb_in [(0, .aload_n 0, 1), (1, .getfield 52, 3), (4, .aload_n 0, 1), (5, .getfield 227, 3), (8, .iload_n 1, 1), (9, .iastore, 1), (10, .aload_n 0, 1), (11, .aload_n 0, 1), (12, .getfield 227, 3), (15, .iconst 1, 1), (16, .iadd, 1), (17, .putfield 227, 3), (20, .return_, 1)] 21 (by decide +kernel) ?_
  refine sb_aload_n rfl ?_
  refine ss_getR g12_52 h217 r217_26 ?_
  refine sb_aload_n rfl ?_
  refine ss_getI g12_227 h217 ?_
  refine sb_iload_n rfl ?_
  obtain ⟨hgz2, h⟩ := gd h
  refine ss_iast h232 (by decide) hgz2 ?_
  refine sb_aload_n rfl ?_
  refine sb_aload_n rfl ?_
  refine ss_getI g12_227 h217 ?_
  refine sb_iconst cI1 ?_
  refine sb_iadd ?_
  refine ss_putI p12_227 h217 (by decide) ?_
  cases h
  subst hr
  refine sb_return ?_
  exact rfl
theorem tfM_waits {P : Px} {x1 : Int32} {M : Mm} {rr : Mm} (h : fM_waits x1 M = some rr) : EX P 1 kX12_waits [.ref 217, .int x1] (S M) (none, S rr) := ex_of oX12_waits (Nat.le_of_ble_eq_true rfl) (nfM_waits  h rfl)
set_option maxRecDepth 20000 in
theorem nfM_settles {P : Px} {x1 : Int32} {M : Mm} {rr : Mm} (h : fM_settles x1 M = some rr) {r : Option Value × Sg} (hr : r = (none, S rr)) : RN P 2 kX12_settles 0 [(0, .ref 217), (1, .int x1)] [] (S M) r := by
  unfold fM_settles at h
  obtain ⟨e0, hl0, h⟩ := bd h
  refine rn_sub [0, 1] rfl ?_
  refine lp_ind (P := fun s => RN P 2 kX12_settles 0 [(0, .ref 217), (1, .int x1)] [] (S s) r) (E := fun p => RN P 2 kX12_settles 57 [] [] (S p) r) ?_ _ _ _ hl0 ?_
  · intro M qx h hc
    replace h : fM_settles_b0 x1 M = some qx := h
    show RN P 2 kX12_settles 0 [(0, .ref 217), (1, .int x1)] [] (S M) r
    unfold fM_settles_b0 at h
    refine sb_in [(0, .aload_n 0, 1), (1, .getfield 227, 3), (4, .ifCond .le 53, 3)] 7 (by decide +kernel) ?_
    refine sb_aload_n rfl ?_
    refine ss_getI g12_227 h217 ?_
    rcases ife h with ⟨cz7, h⟩ | ⟨cz7, h⟩
    · refine sb_if_le_t 57 cz7 (by decide) ?_
      cases h
      exact rn_sub [] rfl hc
    · refine sb_if_le_f 57 cz7 (by decide) ?_
      refine sb_in [(7, .aload_n 0, 1), (8, .getfield 52, 3), (11, .aload_n 0, 1), (12, .getfield 227, 3), (15, .iconst 1, 1), (16, .isub, 1), (17, .iaload, 1), (18, .iload_n 1, 1), (19, .if_icmp .ne 38, 3)] 22 (by decide +kernel) ?_
      refine sb_aload_n rfl ?_
      refine ss_getR g12_52 h217 r217_26 ?_
      refine sb_aload_n rfl ?_
      refine ss_getI g12_227 h217 ?_
      refine sb_iconst cI1 ?_
      refine sb_isub ?_
      obtain ⟨hgz1, h⟩ := gd h
      refine ss_iald h232 hgz1 ?_
      refine sb_iload_n rfl ?_
      rcases ife h with ⟨cz8, h⟩ | ⟨cz8, h⟩
      · refine sb_icmp_ne_f 57 cz8 (by decide) ?_
        refine sb_in [(22, .aload_n 0, 1), (23, .aload_n 0, 1), (24, .getfield 227, 3), (27, .iconst 1, 1), (28, .isub, 1), (29, .putfield 227, 3), (32, .aload_n 0, 1), (33, .iload_n 1, 1), (34, .iconst 0, 1), (35, .invokevirtual 207, 3), (38, .iload_n 1, 1), (39, .bipush 9, 2), (41, .if_icmp .ne (-41), 3)] 44 (by decide +kernel) ?_
        refine sb_aload_n rfl ?_
        refine sb_aload_n rfl ?_
        refine ss_getI g12_227 h217 ?_
        refine sb_iconst cI1 ?_
        refine sb_isub ?_
        refine ss_putI p12_227 h217 (by decide) ?_
        refine sb_aload_n rfl ?_
        refine sb_iload_n rfl ?_
        refine sb_iconst cI0 ?_
        obtain ⟨Mz4, hez3, h⟩ := bd h
        refine sb_callVv 2 rfl oX12_emits ln12_207 vX12_emits (rc_own h217.1 (S_lt h217.2) (by decide)) (rnCk_of (by decide +kernel) rfl) (tfM_emits hez3) ?_
        refine sb_iload_n rfl ?_
        refine sb_bipush cB9 ?_
        rcases ife h with ⟨cz9, h⟩ | ⟨cz9, h⟩
        · refine sb_icmp_ne_f 0 cz9 (by decide) ?_
          refine sb_in [(44, .aload_n 0, 1), (45, .aload_n 0, 1), (46, .getfield 230, 3), (49, .iconst 1, 1), (50, .isub, 1), (51, .putfield 230, 3), (54, .goto (-54), 3)] 57 (by decide +kernel) ?_
          refine sb_aload_n rfl ?_
          refine sb_aload_n rfl ?_
          refine ss_getI g12_230 h217 ?_
          refine sb_iconst cI1 ?_
          refine sb_isub ?_
          refine ss_putI p12_230 h217 (by decide) ?_
          refine sb_goto 0 (by decide) ?_
          cases h
          exact rn_sub [0, 1] rfl hc
        · refine sb_icmp_ne_t 0 cz9 (by decide) ?_
          cases h
          exact rn_sub [0, 1] rfl hc
      · refine sb_icmp_ne_t 57 cz8 (by decide) ?_
        cases h
        exact rn_sub [] rfl hc
  · clear hl0
    obtain ⟨Mz6, hey⟩ : ∃ z, z = e0 := ⟨_, rfl⟩
    subst hey
    show RN P 2 kX12_settles 57 [] [] (S Mz6) r
    refine sb_in [(57, .return_, 1)] 58 (by decide +kernel) ?_
    cases h
    subst hr
    refine sb_return ?_
    exact rfl
theorem tfM_settles {P : Px} {x1 : Int32} {M : Mm} {rr : Mm} (h : fM_settles x1 M = some rr) : EX P 2 kX12_settles [.ref 217, .int x1] (S M) (none, S rr) := ex_of oX12_settles (Nat.le_of_ble_eq_true rfl) (nfM_settles  h rfl)
set_option maxRecDepth 20000 in
theorem nfM_readAny {P : Px} {M : Mm} {rr : (Int32 × Mm)} (h : fM_readAny M = some rr) {r : Option Value × Sg} (hr : r = (some (.int rr.1), S rr.2)) : RN P 8 kX12_readAny 0 [(0, .ref 217)] [] (S M) r := by
  unfold fM_readAny at h
  refine sb_in [(0, .iconst 0, 1), (1, .istore_n 1, 1), (2, .aload_n 0, 1), (3, .iconst 0, 1), (4, .putfield 227, 3), (7, .iconst 1, 1), (8, .istore_n 2, 1)] 9 (by decide +kernel) ?_
  refine sb_iconst cI0 ?_
  refine sb_istore_n (by decide) rfl ?_
  refine sb_aload_n rfl ?_
  refine sb_iconst cI0 ?_
  refine ss_putI p12_227 h217 (by decide) ?_
  refine sb_iconst cI1 ?_
  refine sb_istore_n (by decide) rfl ?_
  refine sb_end ?_
  obtain ⟨e9, hl9, h⟩ := bd h
  refine rn_sub [0, 1, 2] rfl ?_
  refine lp_ind (P := fun s => RN P 8 kX12_readAny 9 [(0, .ref 217), (1, .int s.1), (2, .int s.2.1)] [] (S s.2.2) r) (E := fun e => match e with | Sum.inl p => RN P 8 kX12_readAny 42 [(0, .ref 217)] [] (S p) r | Sum.inr (Sum.inl p) => RN P 8 kX12_readAny 96 [] [] (S p) r | Sum.inr (Sum.inr (Sum.inl p)) => RN P 8 kX12_readAny 189 [] [] (S p) r | Sum.inr (Sum.inr (Sum.inr p)) => RN P 8 kX12_readAny 200 [(0, .ref 217)] [] (S p) r) ?_ _ _ _ hl9 ?_
  · intro s qx h hc
    obtain ⟨x1, x2, M⟩ := s
    replace h : fM_readAny_b9 x1 x2 M = some qx := h
    show RN P 8 kX12_readAny 9 [(0, .ref 217), (1, .int x1), (2, .int x2)] [] (S M) r
    unfold fM_readAny_b9 at h
    refine sb_in [(9, .iload_n 2, 1), (10, .ifCond .eq 99, 3)] 13 (by decide +kernel) ?_
    refine sb_iload_n rfl ?_
    rcases ife h with ⟨cz49, h⟩ | ⟨cz49, h⟩
    · refine sb_if_eq_t 109 cz49 (by decide) ?_
      refine sb_in [(109, .aload_n 0, 1), (110, .iconst 5, 1), (111, .invokevirtual 233, 3), (114, .ifCond .eq 24, 3)] 117 (by decide +kernel) ?_
      refine sb_aload_n rfl ?_
      refine sb_iconst cI5 ?_
      refine sb_callVi 1 rfl oX12_isWord ln12_233 vX12_isWord (rc_own h217.1 (S_lt h217.2) (by decide)) (rnCk_of (by decide +kernel) rfl) (tfM_isWord) ?_
      rcases ife h with ⟨cz50, h⟩ | ⟨cz50, h⟩
      · refine sb_if_eq_t 138 cz50 (by decide) ?_
        refine sb_in [(138, .aload_n 0, 1), (139, .iconst 4, 1), (140, .invokevirtual 233, 3), (143, .ifCond .eq 30, 3)] 146 (by decide +kernel) ?_
        refine sb_aload_n rfl ?_
        refine sb_iconst cI4 ?_
        refine sb_callVi 1 rfl oX12_isWord ln12_233 vX12_isWord (rc_own h217.1 (S_lt h217.2) (by decide)) (rnCk_of (by decide +kernel) rfl) (tfM_isWord) ?_
        rcases ife h with ⟨cz51, h⟩ | ⟨cz51, h⟩
        · refine sb_if_eq_t 173 cz51 (by decide) ?_
          refine sb_in [(173, .aload_n 0, 1), (174, .bipush 10, 2), (176, .invokevirtual 242, 3), (179, .aload_n 0, 1), (180, .bipush 11, 2), (182, .invokevirtual 242, 3), (185, .iload_n 1, 1), (186, .ifCond .ne 5, 3)] 189 (by decide +kernel) ?_
          refine sb_aload_n rfl ?_
          refine sb_bipush cB10 ?_
          obtain ⟨Mz5, hez4, h⟩ := bd h
          refine sb_callVv 1 rfl oX12_settles ln12_242 vX12_settles (rc_own h217.1 (S_lt h217.2) (by decide)) (rnCk_of (by decide +kernel) rfl) (tfM_settles hez4) ?_
          refine sb_aload_n rfl ?_
          refine sb_bipush cB11 ?_
          obtain ⟨Mz7, hez6, h⟩ := bd h
          refine sb_callVv 1 rfl oX12_settles ln12_242 vX12_settles (rc_own h217.1 (S_lt h217.2) (by decide)) (rnCk_of (by decide +kernel) rfl) (tfM_settles hez6) ?_
          refine sb_iload_n rfl ?_
          rcases ife h with ⟨cz52, h⟩ | ⟨cz52, h⟩
          · refine sb_if_ne_f 191 cz52 (by decide) ?_
            cases h
            exact rn_sub [] rfl hc
          · refine sb_if_ne_t 191 cz52 (by decide) ?_
            refine sb_in [(191, .aload_n 0, 1), (192, .bipush 41, 2), (194, .invokevirtual 218, 3), (197, .ifCond .ne 9, 3)] 200 (by decide +kernel) ?_
            refine sb_aload_n rfl ?_
            refine sb_bipush cB41 ?_
            refine sb_callVi 1 rfl oX12_isSign ln12_218 vX12_isSign (rc_own h217.1 (S_lt h217.2) (by decide)) (rnCk_of (by decide +kernel) rfl) (tfM_isSign) ?_
            rcases ife h with ⟨cz53, h⟩ | ⟨cz53, h⟩
            · refine sb_if_ne_f 206 cz53 (by decide) ?_
              cases h
              exact rn_sub [0] rfl hc
            · refine sb_if_ne_t 206 cz53 (by decide) ?_
              refine sb_in [(206, .aload_n 0, 1), (207, .aload_n 0, 1), (208, .getfield 227, 3), (211, .iconst 1, 1), (212, .isub, 1), (213, .putfield 227, 3), (216, .iload_n 1, 1), (217, .iconst 1, 1), (218, .isub, 1), (219, .istore_n 1, 1), (220, .aload_n 0, 1), (221, .aload_n 0, 1), (222, .getfield 230, 3), (225, .iconst 1, 1), (226, .isub, 1), (227, .putfield 230, 3), (230, .aload_n 0, 1), (231, .bipush 9, 2), (233, .invokevirtual 242, 3), (236, .aload_n 0, 1), (237, .invokevirtual 211, 3), (240, .goto (-231), 3)] 243 (by decide +kernel) ?_
              refine sb_aload_n rfl ?_
              refine sb_aload_n rfl ?_
              refine ss_getI g12_227 h217 ?_
              refine sb_iconst cI1 ?_
              refine sb_isub ?_
              refine ss_putI p12_227 h217 (by decide) ?_
              refine sb_iload_n rfl ?_
              refine sb_iconst cI1 ?_
              refine sb_isub ?_
              refine sb_istore_n (by decide) rfl ?_
              refine sb_aload_n rfl ?_
              refine sb_aload_n rfl ?_
              refine ss_getI g12_230 h217 ?_
              refine sb_iconst cI1 ?_
              refine sb_isub ?_
              refine ss_putI p12_230 h217 (by decide) ?_
              refine sb_aload_n rfl ?_
              refine sb_bipush cB9 ?_
              obtain ⟨Mz13, hez12, h⟩ := bd h
              refine sb_callVv 1 rfl oX12_settles ln12_242 vX12_settles (rc_own h217.1 (S_lt h217.2) (by decide)) (rnCk_of (by decide +kernel) rfl) (tfM_settles hez12) ?_
              refine sb_aload_n rfl ?_
              obtain ⟨Mz15, hez14, h⟩ := bd h
              refine sb_callVv 0 rfl oX12_reads ln12_211 vX12_reads (rc_own h217.1 (S_lt h217.2) (by decide)) (rnCk_of (by decide +kernel) rfl) (tfM_reads hez14) ?_
              refine sb_goto 9 (by decide) ?_
              cases h
              exact rn_sub [0, 1, 2] rfl hc
        · refine sb_if_eq_f 173 cz51 (by decide) ?_
          refine sb_in [(146, .aload_n 0, 1), (147, .bipush 10, 2), (149, .invokevirtual 242, 3), (152, .aload_n 0, 1), (153, .bipush 11, 2), (155, .invokevirtual 242, 3), (158, .aload_n 0, 1), (159, .bipush 11, 2), (161, .invokevirtual 236, 3), (164, .aload_n 0, 1), (165, .invokevirtual 211, 3), (168, .iconst 1, 1), (169, .istore_n 2, 1), (170, .goto (-161), 3)] 173 (by decide +kernel) ?_
          refine sb_aload_n rfl ?_
          refine sb_bipush cB10 ?_
          obtain ⟨Mz17, hez16, h⟩ := bd h
          refine sb_callVv 1 rfl oX12_settles ln12_242 vX12_settles (rc_own h217.1 (S_lt h217.2) (by decide)) (rnCk_of (by decide +kernel) rfl) (tfM_settles hez16) ?_
          refine sb_aload_n rfl ?_
          refine sb_bipush cB11 ?_
          obtain ⟨Mz19, hez18, h⟩ := bd h
          refine sb_callVv 1 rfl oX12_settles ln12_242 vX12_settles (rc_own h217.1 (S_lt h217.2) (by decide)) (rnCk_of (by decide +kernel) rfl) (tfM_settles hez18) ?_
          refine sb_aload_n rfl ?_
          refine sb_bipush cB11 ?_
          obtain ⟨Mz21, hez20, h⟩ := bd h
          refine sb_callVv 1 rfl oX12_waits ln12_236 vX12_waits (rc_own h217.1 (S_lt h217.2) (by decide)) (rnCk_of (by decide +kernel) rfl) (tfM_waits hez20) ?_
          refine sb_aload_n rfl ?_
          obtain ⟨Mz23, hez22, h⟩ := bd h
          refine sb_callVv 0 rfl oX12_reads ln12_211 vX12_reads (rc_own h217.1 (S_lt h217.2) (by decide)) (rnCk_of (by decide +kernel) rfl) (tfM_reads hez22) ?_
          refine sb_iconst cI1 ?_
          refine sb_istore_n (by decide) rfl ?_
          refine sb_goto 9 (by decide) ?_
          cases h
          exact rn_sub [0, 1, 2] rfl hc
      · refine sb_if_eq_f 138 cz50 (by decide) ?_
        refine sb_in [(117, .aload_n 0, 1), (118, .bipush 10, 2), (120, .invokevirtual 242, 3), (123, .aload_n 0, 1), (124, .bipush 10, 2), (126, .invokevirtual 236, 3), (129, .aload_n 0, 1), (130, .invokevirtual 211, 3), (133, .iconst 1, 1), (134, .istore_n 2, 1), (135, .goto (-126), 3)] 138 (by decide +kernel) ?_
        refine sb_aload_n rfl ?_
        refine sb_bipush cB10 ?_
        obtain ⟨Mz25, hez24, h⟩ := bd h
        refine sb_callVv 1 rfl oX12_settles ln12_242 vX12_settles (rc_own h217.1 (S_lt h217.2) (by decide)) (rnCk_of (by decide +kernel) rfl) (tfM_settles hez24) ?_
        refine sb_aload_n rfl ?_
        refine sb_bipush cB10 ?_
        obtain ⟨Mz27, hez26, h⟩ := bd h
        refine sb_callVv 1 rfl oX12_waits ln12_236 vX12_waits (rc_own h217.1 (S_lt h217.2) (by decide)) (rnCk_of (by decide +kernel) rfl) (tfM_waits hez26) ?_
        refine sb_aload_n rfl ?_
        obtain ⟨Mz29, hez28, h⟩ := bd h
        refine sb_callVv 0 rfl oX12_reads ln12_211 vX12_reads (rc_own h217.1 (S_lt h217.2) (by decide)) (rnCk_of (by decide +kernel) rfl) (tfM_reads hez28) ?_
        refine sb_iconst cI1 ?_
        refine sb_istore_n (by decide) rfl ?_
        refine sb_goto 9 (by decide) ?_
        cases h
        exact rn_sub [0, 1, 2] rfl hc
    · refine sb_if_eq_f 109 cz49 (by decide) ?_
      refine sb_in [(13, .aload_n 0, 1), (14, .bipush 6, 2), (16, .invokevirtual 233, 3), (19, .istore_n 3, 1), (20, .iload_n 3, 1), (21, .ifCond .ne 12, 3)] 24 (by decide +kernel) ?_
      refine sb_aload_n rfl ?_
      refine sb_bipush cB6 ?_
      refine sb_callVi 1 rfl oX12_isWord ln12_233 vX12_isWord (rc_own h217.1 (S_lt h217.2) (by decide)) (rnCk_of (by decide +kernel) rfl) (tfM_isWord) ?_
      refine sb_istore_n (by decide) rfl ?_
      refine sb_iload_n rfl ?_
      have hJ33 : ∀ (z1 : Int32) (z2 : Int32) (z3 : Int32) (M : Mm), fM_readAny_j33 z1 z2 z3 M = some qx → RN P 8 kX12_readAny 33 [(0, .ref 217), (1, .int z1), (2, .int z2), (3, .int z3)] [] (S M) r := by
        intro z1 z2 z3 M h
        unfold fM_readAny_j33 at h
        refine sb_in [(33, .aload_n 0, 1), (34, .getfield 230, 3), (37, .bipush 8, 2), (39, .if_icmp .ne 9, 3)] 42 (by decide +kernel) ?_
        refine sb_aload_n rfl ?_
        refine ss_getI g12_230 h217 ?_
        refine sb_bipush cB8 ?_
        rcases ife h with ⟨cz54, h⟩ | ⟨cz54, h⟩
        · refine sb_icmp_ne_f 48 cz54 (by decide) ?_
          cases h
          exact rn_sub [0] rfl hc
        · refine sb_icmp_ne_t 48 cz54 (by decide) ?_
          refine sb_in [(48, .aload_n 0, 1), (49, .aload_n 0, 1), (50, .getfield 230, 3), (53, .iconst 1, 1), (54, .iadd, 1), (55, .putfield 230, 3), (58, .iload_n 3, 1), (59, .ifCond .ne 7, 3)] 62 (by decide +kernel) ?_
          refine sb_aload_n rfl ?_
          refine sb_aload_n rfl ?_
          refine ss_getI g12_230 h217 ?_
          refine sb_iconst cI1 ?_
          refine sb_iadd ?_
          refine ss_putI p12_230 h217 (by decide) ?_
          refine sb_iload_n rfl ?_
          obtain ⟨yz38, hj66, h⟩ := bd h
          have hJ66 : RN P 8 kX12_readAny 66 [(0, .ref 217), (1, .int yz38), (2, .int z2), (3, .int z3)] [] (S (mput M 217 25 ((M 217 25) + 1))) r := by
            refine sb_in [(66, .aload_n 0, 1), (67, .iload_n 3, 1), (68, .ifCond .eq 8, 3)] 71 (by decide +kernel) ?_
            refine sb_aload_n rfl ?_
            refine sb_iload_n rfl ?_
            have hJ78 : RN P 8 kX12_readAny 78 [(0, .ref 217), (1, .int yz38), (2, .int z2)] [.int (if z3 = 0 then (12 : Int32) else 9), .ref 217] (S (mput M 217 25 ((M 217 25) + 1))) r := by
              refine sb_in [(78, .invokevirtual 236, 3), (81, .aload_n 0, 1), (82, .invokevirtual 211, 3), (85, .goto (-76), 3)] 88 (by decide +kernel) ?_
              obtain ⟨Mz40, hez39, h⟩ := bd h
              refine sb_callVv 1 rfl oX12_waits ln12_236 vX12_waits (rc_own h217.1 (S_lt h217.2) (by decide)) (rnCk_of (by decide +kernel) rfl) (tfM_waits hez39) ?_
              refine sb_aload_n rfl ?_
              obtain ⟨Mz42, hez41, h⟩ := bd h
              refine sb_callVv 0 rfl oX12_reads ln12_211 vX12_reads (rc_own h217.1 (S_lt h217.2) (by decide)) (rnCk_of (by decide +kernel) rfl) (tfM_reads hez41) ?_
              refine sb_goto 9 (by decide) ?_
              cases h
              exact rn_sub [0, 1, 2] rfl hc
            rcases Decidable.em (z3 = 0) with cz55 | cz55
            · refine sb_if_eq_t 76 cz55 (by decide) ?_
              refine sb_in [(76, .bipush 12, 2)] 78 (by decide +kernel) ?_
              refine sb_bipush cB12 ?_
              refine sb_end ?_
              have hq := hJ78
              simp only [if_pos cz55] at hq
              exact rn_sub [0, 1, 2] rfl hq
            · refine sb_if_eq_f 76 cz55 (by decide) ?_
              refine sb_in [(71, .bipush 9, 2), (73, .goto 5, 3)] 76 (by decide +kernel) ?_
              refine sb_bipush cB9 ?_
              refine sb_goto 78 (by decide) ?_
              have hq := hJ78
              simp only [if_neg cz55] at hq
              exact rn_sub [0, 1, 2] rfl hq
          clear h
          have h := hj66
          clear hj66
          rcases ife h with ⟨cz56, h⟩ | ⟨cz56, h⟩
          · refine sb_if_ne_f 66 cz56 (by decide) ?_
            refine sb_in [(62, .iload_n 1, 1), (63, .iconst 1, 1), (64, .iadd, 1), (65, .istore_n 1, 1)] 66 (by decide +kernel) ?_
            refine sb_iload_n rfl ?_
            refine sb_iconst cI1 ?_
            refine sb_iadd ?_
            refine sb_istore_n (by decide) rfl ?_
            refine sb_end ?_
            cases h
            exact rn_sub [0, 1, 2, 3] rfl hJ66
          · refine sb_if_ne_t 66 cz56 (by decide) ?_
            cases h
            exact rn_sub [0, 1, 2, 3] rfl hJ66
      rcases ife h with ⟨cz57, h⟩ | ⟨cz57, h⟩
      · refine sb_if_ne_f 33 cz57 (by decide) ?_
        refine sb_in [(24, .aload_n 0, 1), (25, .bipush 40, 2), (27, .invokevirtual 218, 3), (30, .ifCond .eq 58, 3)] 33 (by decide +kernel) ?_
        refine sb_aload_n rfl ?_
        refine sb_bipush cB40 ?_
        refine sb_callVi 1 rfl oX12_isSign ln12_218 vX12_isSign (rc_own h217.1 (S_lt h217.2) (by decide)) (rnCk_of (by decide +kernel) rfl) (tfM_isSign) ?_
        rcases ife h with ⟨cz58, h⟩ | ⟨cz58, h⟩
        · refine sb_if_eq_t 88 cz58 (by decide) ?_
          refine sb_in [(88, .aload_n 0, 1), (89, .invokevirtual 239, 3), (92, .iconst (-1), 1), (93, .if_icmp .ne 5, 3)] 96 (by decide +kernel) ?_
          refine sb_aload_n rfl ?_
          obtain ⟨qz33, hez32, h⟩ := bd h
          refine sb_callVi 0 rfl oX12_readCompared ln12_239 vX12_readCompared (rc_own h217.1 (S_lt h217.2) (by decide)) (rnCk_of (by decide +kernel) rfl) (tfM_readCompared hez32) ?_
          refine sb_iconst cIm1 ?_
          rcases ife h with ⟨cz59, h⟩ | ⟨cz59, h⟩
          · refine sb_icmp_ne_f 98 cz59 (by decide) ?_
            cases h
            exact rn_sub [] rfl hc
          · refine sb_icmp_ne_t 98 cz59 (by decide) ?_
            refine sb_in [(98, .aload_n 0, 1), (99, .bipush 9, 2), (101, .invokevirtual 242, 3), (104, .iconst 0, 1), (105, .istore_n 2, 1), (106, .goto (-97), 3)] 109 (by decide +kernel) ?_
            refine sb_aload_n rfl ?_
            refine sb_bipush cB9 ?_
            obtain ⟨Mz35, hez34, h⟩ := bd h
            refine sb_callVv 1 rfl oX12_settles ln12_242 vX12_settles (rc_own h217.1 (S_lt h217.2) (by decide)) (rnCk_of (by decide +kernel) rfl) (tfM_settles hez34) ?_
            refine sb_iconst cI0 ?_
            refine sb_istore_n (by decide) rfl ?_
            refine sb_goto 9 (by decide) ?_
            cases h
            exact rn_sub [0, 1, 2] rfl hc
        · refine sb_if_eq_f 88 cz58 (by decide) ?_
          exact rn_sub [0, 1, 2, 3] rfl (hJ33 _ _ _ _ h)
      · refine sb_if_ne_t 33 cz57 (by decide) ?_
        exact rn_sub [0, 1, 2, 3] rfl (hJ33 _ _ _ _ h)
  · clear hl9
    rcases e9 with e9 | e9 | e9 | e9
    · skip
      obtain ⟨Mz43, hey⟩ : ∃ z, z = e9 := ⟨_, rfl⟩
      subst hey
      show RN P 8 kX12_readAny 42 [(0, .ref 217)] [] (S Mz43) r
      refine sb_in [(42, .aload_n 0, 1), (43, .iconst 3, 1), (44, .invokevirtual 204, 3), (47, .ireturn, 1)] 48 (by decide +kernel) ?_
      refine sb_aload_n rfl ?_
      refine sb_iconst cI3 ?_
      refine sb_callVi 1 rfl oX12_errs ln12_204 vX12_errs (rc_own h217.1 (S_lt h217.2) (by decide)) (rnCk_of (by decide +kernel) rfl) (tfM_errs) ?_
      cases h
      subst hr
      refine sb_ireturn ?_
      exact ⟨.int, rfl, rfl⟩
    · skip
      obtain ⟨Mz45, hey⟩ : ∃ z, z = e9 := ⟨_, rfl⟩
      subst hey
      show RN P 8 kX12_readAny 96 [] [] (S Mz45) r
      refine sb_in [(96, .iconst (-1), 1), (97, .ireturn, 1)] 98 (by decide +kernel) ?_
      refine sb_iconst cIm1 ?_
      cases h
      subst hr
      refine sb_ireturn ?_
      exact ⟨.int, rfl, rfl⟩
    · skip
      obtain ⟨Mz46, hey⟩ : ∃ z, z = e9 := ⟨_, rfl⟩
      subst hey
      show RN P 8 kX12_readAny 189 [] [] (S Mz46) r
      refine sb_in [(189, .iconst 0, 1), (190, .ireturn, 1)] 191 (by decide +kernel) ?_
      refine sb_iconst cI0 ?_
      cases h
      subst hr
      refine sb_ireturn ?_
      exact ⟨.int, rfl, rfl⟩
    · skip
      obtain ⟨Mz47, hey⟩ : ∃ z, z = e9 := ⟨_, rfl⟩
      subst hey
      show RN P 8 kX12_readAny 200 [(0, .ref 217)] [] (S Mz47) r
      refine sb_in [(200, .aload_n 0, 1), (201, .iconst 1, 1), (202, .invokevirtual 204, 3), (205, .ireturn, 1)] 206 (by decide +kernel) ?_
      refine sb_aload_n rfl ?_
      refine sb_iconst cI1 ?_
      refine sb_callVi 1 rfl oX12_errs ln12_204 vX12_errs (rc_own h217.1 (S_lt h217.2) (by decide)) (rnCk_of (by decide +kernel) rfl) (tfM_errs) ?_
      cases h
      subst hr
      refine sb_ireturn ?_
      exact ⟨.int, rfl, rfl⟩
theorem tfM_readAny {P : Px} {M : Mm} {rr : (Int32 × Mm)} (h : fM_readAny M = some rr) : EX P 8 kX12_readAny [.ref 217] (S M) (some (.int rr.1), S rr.2) := ex_of oX12_readAny (Nat.le_of_ble_eq_true rfl) (nfM_readAny  h rfl)
set_option maxRecDepth 20000 in
theorem nfM_isLineWord {P : Px} {M : Mm} {rr : Int32} (h : fM_isLineWord M = rr) {r : Option Value × Sg} (hr : r = (some (.int rr), S M)) : RN P 2 kX12_isLineWord 0 [(0, .ref 217)] [] (S M) r := by
  unfold fM_isLineWord at h
  refine sb_in [(0, .aload_n 0, 1), (1, .getfield 173, 3), (4, .iconst 2, 1), (5, .if_icmp .ne 20, 3)] 8 (by decide +kernel) ?_
  refine sb_aload_n rfl ?_
  refine ss_getI g12_173 h217 ?_
  refine sb_iconst cI2 ?_
  rcases ife h with ⟨cz2, h⟩ | ⟨cz2, h⟩
  · refine sb_icmp_ne_f 25 cz2 (by decide) ?_
    refine sb_in [(8, .aload_n 0, 1), (9, .aload_n 0, 1), (10, .getfield 176, 3), (13, .iconst 0, 1), (14, .iconst 2, 1), (15, .invokevirtual 143, 3), (18, .ifCond .eq 7, 3)] 21 (by decide +kernel) ?_
    refine sb_aload_n rfl ?_
    refine sb_aload_n rfl ?_
    refine ss_getI g12_176 h217 ?_
    refine sb_iconst cI0 ?_
    refine sb_iconst cI2 ?_
    refine sb_callVi 3 rfl oX12_isIn ln12_143 vX12_isIn (rc_own h217.1 (S_lt h217.2) (by decide)) (rnCk_of (by decide +kernel) rfl) (tfM_isIn) ?_
    rcases ife h with ⟨cz3, h⟩ | ⟨cz3, h⟩
    · refine sb_if_eq_t 25 cz3 (by decide) ?_
      refine sb_in [(25, .iconst 0, 1)] 26 (by decide +kernel) ?_
      refine sb_iconst cI0 ?_
      refine sb_end ?_
      refine sb_in [(26, .ireturn, 1)] 27 (by decide +kernel) ?_
      subst h
      subst hr
      refine sb_ireturn ?_
      exact ⟨.boolean, rfl, by decide⟩
    · refine sb_if_eq_f 25 cz3 (by decide) ?_
      refine sb_in [(21, .iconst 1, 1), (22, .goto 4, 3)] 25 (by decide +kernel) ?_
      refine sb_iconst cI1 ?_
      refine sb_goto 26 (by decide) ?_
      refine sb_in [(26, .ireturn, 1)] 27 (by decide +kernel) ?_
      subst h
      subst hr
      refine sb_ireturn ?_
      exact ⟨.boolean, rfl, by decide⟩
  · refine sb_icmp_ne_t 25 cz2 (by decide) ?_
    refine sb_in [(25, .iconst 0, 1)] 26 (by decide +kernel) ?_
    refine sb_iconst cI0 ?_
    refine sb_end ?_
    refine sb_in [(26, .ireturn, 1)] 27 (by decide +kernel) ?_
    subst h
    subst hr
    refine sb_ireturn ?_
    exact ⟨.boolean, rfl, by decide⟩
theorem tfM_isLineWord {P : Px} {M : Mm} : EX P 2 kX12_isLineWord [.ref 217] (S M) (some (.int (fM_isLineWord M)), S M) := ex_of oX12_isLineWord (Nat.le_of_ble_eq_true rfl) (nfM_isLineWord  rfl rfl)
set_option maxRecDepth 20000 in
theorem nfM_readLaw {P : Px} {M : Mm} {rr : (Int32 × Mm)} (h : fM_readLaw M = some rr) {r : Option Value × Sg} (hr : r = (some (.int rr.1), S rr.2)) : RN P 9 kX12_readLaw 0 [(0, .ref 217)] [] (S M) r := by
  unfold fM_readLaw at h
  refine sb_in [(0, .iconst 0, 1), (1, .istore_n 1, 1)] 2 (by decide +kernel) ?_
  refine sb_iconst cI0 ?_
  refine sb_istore_n (by decide) rfl ?_
  refine sb_end ?_
  obtain ⟨e2, hl2, h⟩ := bd h
  refine rn_sub [0, 1] rfl ?_
  refine lp_ind (P := fun s => RN P 9 kX12_readLaw 2 [(0, .ref 217), (1, .int s.1)] [] (S s.2) r) (E := fun e => match e with | Sum.inl p => RN P 9 kX12_readLaw 15 [(0, .ref 217)] [] (S p) r | Sum.inr (Sum.inl p) => RN P 9 kX12_readLaw 58 [] [] (S p) r | Sum.inr (Sum.inr (Sum.inl p)) => RN P 9 kX12_readLaw 90 [] [] (S p) r | Sum.inr (Sum.inr (Sum.inr (Sum.inl p))) => RN P 9 kX12_readLaw 111 [(0, .ref 217)] [] (S p) r | Sum.inr (Sum.inr (Sum.inr (Sum.inr p))) => RN P 9 kX12_readLaw 128 [(0, .ref 217), (1, .int p.1)] [] (S p.2) r) ?_ _ _ _ hl2 ?_
  · intro s qx h hc
    obtain ⟨x1, M⟩ := s
    replace h : fM_readLaw_b2 x1 M = some qx := h
    show RN P 9 kX12_readLaw 2 [(0, .ref 217), (1, .int x1)] [] (S M) r
    unfold fM_readLaw_b2 at h
    refine sb_in [(2, .aload_n 0, 1), (3, .invokevirtual 245, 3), (6, .ifCond .eq 122, 3)] 9 (by decide +kernel) ?_
    refine sb_aload_n rfl ?_
    refine sb_callVi 0 rfl oX12_isLineWord ln12_245 vX12_isLineWord (rc_own h217.1 (S_lt h217.2) (by decide)) (rnCk_of (by decide +kernel) rfl) (tfM_isLineWord) ?_
    rcases ife h with ⟨cz33, h⟩ | ⟨cz33, h⟩
    · refine sb_if_eq_t 128 cz33 (by decide) ?_
      cases h
      exact rn_sub [0, 1] rfl hc
    · refine sb_if_eq_f 128 cz33 (by decide) ?_
      refine sb_in [(9, .iload_n 1, 1), (10, .bipush 16, 2), (12, .if_icmp .ne 9, 3)] 15 (by decide +kernel) ?_
      refine sb_iload_n rfl ?_
      refine sb_bipush cB16 ?_
      rcases ife h with ⟨cz34, h⟩ | ⟨cz34, h⟩
      · refine sb_icmp_ne_f 21 cz34 (by decide) ?_
        cases h
        exact rn_sub [0] rfl hc
      · refine sb_icmp_ne_t 21 cz34 (by decide) ?_
        refine sb_in [(21, .bipush 32, 2), (23, .iload_n 1, 1), (24, .iadd, 1), (25, .istore_n 2, 1), (26, .aload_n 0, 1), (27, .getfield 34, 3), (30, .iload_n 2, 1), (31, .aload_n 0, 1), (32, .getfield 176, 3), (35, .iastore, 1), (36, .aload_n 0, 1), (37, .invokevirtual 211, 3), (40, .aload_n 0, 1), (41, .getfield 37, 3), (44, .iload_n 2, 1), (45, .aload_n 0, 1), (46, .getfield 198, 3), (49, .iastore, 1), (50, .aload_n 0, 1), (51, .invokevirtual 224, 3), (54, .iconst (-1), 1), (55, .if_icmp .ne 5, 3)] 58 (by decide +kernel) ?_
        refine sb_bipush cB32 ?_
        refine sb_iload_n rfl ?_
        refine sb_iadd ?_
        refine sb_istore_n (by decide) rfl ?_
        refine sb_aload_n rfl ?_
        refine ss_getR g12_34 h217 r217_17 ?_
        refine sb_iload_n rfl ?_
        refine sb_aload_n rfl ?_
        refine ss_getI g12_176 h217 ?_
        obtain ⟨hgz4, h⟩ := gd h
        refine ss_iast h226 (by decide) hgz4 ?_
        refine sb_aload_n rfl ?_
        obtain ⟨Mz6, hez5, h⟩ := bd h
        refine sb_callVv 0 rfl oX12_reads ln12_211 vX12_reads (rc_own h217.1 (S_lt h217.2) (by decide)) (rnCk_of (by decide +kernel) rfl) (tfM_reads hez5) ?_
        refine sb_aload_n rfl ?_
        refine ss_getR g12_37 h217 r217_18 ?_
        refine sb_iload_n rfl ?_
        refine sb_aload_n rfl ?_
        refine ss_getI g12_198 h217 ?_
        obtain ⟨hgz8, h⟩ := gd h
        refine ss_iast h227 (by decide) hgz8 ?_
        refine sb_aload_n rfl ?_
        obtain ⟨qz10, hez9, h⟩ := bd h
        refine sb_callVi 0 rfl oX12_readSum ln12_224 vX12_readSum (rc_own h217.1 (S_lt h217.2) (by decide)) (rnCk_of (by decide +kernel) rfl) (tfM_readSum hez9) ?_
        refine sb_iconst cIm1 ?_
        rcases ife h with ⟨cz35, h⟩ | ⟨cz35, h⟩
        · refine sb_icmp_ne_f 60 cz35 (by decide) ?_
          cases h
          exact rn_sub [] rfl hc
        · refine sb_icmp_ne_t 60 cz35 (by decide) ?_
          refine sb_in [(60, .aload_n 0, 1), (61, .getfield 40, 3), (64, .iload_n 2, 1), (65, .aload_n 0, 1), (66, .getfield 198, 3), (69, .iastore, 1), (70, .aload_n 0, 1), (71, .iconst 3, 1), (72, .invokevirtual 233, 3), (75, .ifCond .eq 17, 3)] 78 (by decide +kernel) ?_
          refine sb_aload_n rfl ?_
          refine ss_getR g12_40 h217 r217_19 ?_
          refine sb_iload_n rfl ?_
          refine sb_aload_n rfl ?_
          refine ss_getI g12_198 h217 ?_
          obtain ⟨hgz12, h⟩ := gd h
          refine ss_iast h228 (by decide) hgz12 ?_
          refine sb_aload_n rfl ?_
          refine sb_iconst cI3 ?_
          refine sb_callVi 1 rfl oX12_isWord ln12_233 vX12_isWord (rc_own h217.1 (S_lt h217.2) (by decide)) (rnCk_of (by decide +kernel) rfl) (tfM_isWord) ?_
          have hJ92 : ∀ (z1 : Int32) (z2 : Int32) (M : Mm), fM_readLaw_j92 z1 z2 M = some qx → RN P 9 kX12_readLaw 92 [(0, .ref 217), (1, .int z1), (2, .int z2)] [] (S M) r := by
            intro z1 z2 M h
            unfold fM_readLaw_j92 at h
            refine sb_in [(92, .aload_n 0, 1), (93, .getfield 43, 3), (96, .iload_n 2, 1), (97, .aload_n 0, 1), (98, .getfield 198, 3), (101, .iastore, 1), (102, .aload_n 0, 1), (103, .bipush 59, 2), (105, .invokevirtual 218, 3), (108, .ifCond .ne 9, 3)] 111 (by decide +kernel) ?_
            refine sb_aload_n rfl ?_
            refine ss_getR g12_43 h217 r217_20 ?_
            refine sb_iload_n rfl ?_
            refine sb_aload_n rfl ?_
            refine ss_getI g12_198 h217 ?_
            obtain ⟨hgz19, h⟩ := gd h
            refine ss_iast h229 (by decide) hgz19 ?_
            refine sb_aload_n rfl ?_
            refine sb_bipush cB59 ?_
            refine sb_callVi 1 rfl oX12_isSign ln12_218 vX12_isSign (rc_own h217.1 (S_lt h217.2) (by decide)) (rnCk_of (by decide +kernel) rfl) (tfM_isSign) ?_
            rcases ife h with ⟨cz36, h⟩ | ⟨cz36, h⟩
            · refine sb_if_ne_f 117 cz36 (by decide) ?_
              cases h
              exact rn_sub [0] rfl hc
            · refine sb_if_ne_t 117 cz36 (by decide) ?_
              refine sb_in [(117, .aload_n 0, 1), (118, .invokevirtual 211, 3), (121, .iload_n 1, 1), (122, .iconst 1, 1), (123, .iadd, 1), (124, .istore_n 1, 1), (125, .goto (-123), 3)] 128 (by decide +kernel) ?_
              refine sb_aload_n rfl ?_
              obtain ⟨Mz22, hez21, h⟩ := bd h
              refine sb_callVv 0 rfl oX12_reads ln12_211 vX12_reads (rc_own h217.1 (S_lt h217.2) (by decide)) (rnCk_of (by decide +kernel) rfl) (tfM_reads hez21) ?_
              refine sb_iload_n rfl ?_
              refine sb_iconst cI1 ?_
              refine sb_iadd ?_
              refine sb_istore_n (by decide) rfl ?_
              refine sb_goto 2 (by decide) ?_
              cases h
              exact rn_sub [0, 1] rfl hc
          rcases ife h with ⟨cz37, h⟩ | ⟨cz37, h⟩
          · refine sb_if_eq_t 92 cz37 (by decide) ?_
            exact rn_sub [0, 1, 2] rfl (hJ92 _ _ _ h)
          · refine sb_if_eq_f 92 cz37 (by decide) ?_
            refine sb_in [(78, .aload_n 0, 1), (79, .invokevirtual 211, 3), (82, .aload_n 0, 1), (83, .invokevirtual 249, 3), (86, .iconst (-1), 1), (87, .if_icmp .ne 5, 3)] 90 (by decide +kernel) ?_
            refine sb_aload_n rfl ?_
            obtain ⟨Mz15, hez14, h⟩ := bd h
            refine sb_callVv 0 rfl oX12_reads ln12_211 vX12_reads (rc_own h217.1 (S_lt h217.2) (by decide)) (rnCk_of (by decide +kernel) rfl) (tfM_reads hez14) ?_
            refine sb_aload_n rfl ?_
            obtain ⟨qz17, hez16, h⟩ := bd h
            refine sb_callVi 0 rfl oX12_readAny ln12_249 vX12_readAny (rc_own h217.1 (S_lt h217.2) (by decide)) (rnCk_of (by decide +kernel) rfl) (tfM_readAny hez16) ?_
            refine sb_iconst cIm1 ?_
            rcases ife h with ⟨cz38, h⟩ | ⟨cz38, h⟩
            · refine sb_icmp_ne_f 92 cz38 (by decide) ?_
              cases h
              exact rn_sub [] rfl hc
            · refine sb_icmp_ne_t 92 cz38 (by decide) ?_
              exact rn_sub [0, 1, 2] rfl (hJ92 _ _ _ h)
  · clear hl2
    rcases e2 with e2 | e2 | e2 | e2 | e2
    · skip
      obtain ⟨Mz24, hey⟩ : ∃ z, z = e2 := ⟨_, rfl⟩
      subst hey
      show RN P 9 kX12_readLaw 15 [(0, .ref 217)] [] (S Mz24) r
      refine sb_in [(15, .aload_n 0, 1), (16, .iconst 3, 1), (17, .invokevirtual 204, 3), (20, .ireturn, 1)] 21 (by decide +kernel) ?_
      refine sb_aload_n rfl ?_
      refine sb_iconst cI3 ?_
      refine sb_callVi 1 rfl oX12_errs ln12_204 vX12_errs (rc_own h217.1 (S_lt h217.2) (by decide)) (rnCk_of (by decide +kernel) rfl) (tfM_errs) ?_
      cases h
      subst hr
      refine sb_ireturn ?_
      exact ⟨.int, rfl, rfl⟩
    · skip
      obtain ⟨Mz26, hey⟩ : ∃ z, z = e2 := ⟨_, rfl⟩
      subst hey
      show RN P 9 kX12_readLaw 58 [] [] (S Mz26) r
      refine sb_in [(58, .iconst (-1), 1), (59, .ireturn, 1)] 60 (by decide +kernel) ?_
      refine sb_iconst cIm1 ?_
      cases h
      subst hr
      refine sb_ireturn ?_
      exact ⟨.int, rfl, rfl⟩
    · skip
      obtain ⟨Mz27, hey⟩ : ∃ z, z = e2 := ⟨_, rfl⟩
      subst hey
      show RN P 9 kX12_readLaw 90 [] [] (S Mz27) r
      refine sb_in [(90, .iconst (-1), 1), (91, .ireturn, 1)] 92 (by decide +kernel) ?_
      refine sb_iconst cIm1 ?_
      cases h
      subst hr
      refine sb_ireturn ?_
      exact ⟨.int, rfl, rfl⟩
    · skip
      obtain ⟨Mz28, hey⟩ : ∃ z, z = e2 := ⟨_, rfl⟩
      subst hey
      show RN P 9 kX12_readLaw 111 [(0, .ref 217)] [] (S Mz28) r
      refine sb_in [(111, .aload_n 0, 1), (112, .iconst 1, 1), (113, .invokevirtual 204, 3), (116, .ireturn, 1)] 117 (by decide +kernel) ?_
      refine sb_aload_n rfl ?_
      refine sb_iconst cI1 ?_
      refine sb_callVi 1 rfl oX12_errs ln12_204 vX12_errs (rc_own h217.1 (S_lt h217.2) (by decide)) (rnCk_of (by decide +kernel) rfl) (tfM_errs) ?_
      cases h
      subst hr
      refine sb_ireturn ?_
      exact ⟨.int, rfl, rfl⟩
    · skip
      obtain ⟨yz30, Mz31⟩ := e2
      show RN P 9 kX12_readLaw 128 [(0, .ref 217), (1, .int yz30)] [] (S Mz31) r
      refine sb_in [(128, .aload_n 0, 1), (129, .getfield 173, 3), (132, .ifCond .ne 7, 3)] 135 (by decide +kernel) ?_
      refine sb_aload_n rfl ?_
      refine ss_getI g12_173 h217 ?_
      rcases ife h with ⟨cz39, h⟩ | ⟨cz39, h⟩
      · refine sb_if_ne_f 139 cz39 (by decide) ?_
        refine sb_in [(135, .iload_n 1, 1), (136, .goto 8, 3)] 139 (by decide +kernel) ?_
        refine sb_iload_n rfl ?_
        refine sb_goto 144 (by decide) ?_
        refine sb_in [(144, .ireturn, 1)] 145 (by decide +kernel) ?_
        cases h
        subst hr
        refine sb_ireturn ?_
        exact ⟨.int, rfl, rfl⟩
      · refine sb_if_ne_t 139 cz39 (by decide) ?_
        refine sb_in [(139, .aload_n 0, 1), (140, .iconst 1, 1), (141, .invokevirtual 204, 3)] 144 (by decide +kernel) ?_
        refine sb_aload_n rfl ?_
        refine sb_iconst cI1 ?_
        refine sb_callVi 1 rfl oX12_errs ln12_204 vX12_errs (rc_own h217.1 (S_lt h217.2) (by decide)) (rnCk_of (by decide +kernel) rfl) (tfM_errs) ?_
        refine sb_end ?_
        refine sb_in [(144, .ireturn, 1)] 145 (by decide +kernel) ?_
        cases h
        subst hr
        refine sb_ireturn ?_
        exact ⟨.int, rfl, rfl⟩
theorem tfM_readLaw {P : Px} {M : Mm} {rr : (Int32 × Mm)} (h : fM_readLaw M = some rr) : EX P 9 kX12_readLaw [.ref 217] (S M) (some (.int rr.1), S rr.2) := ex_of oX12_readLaw (Nat.le_of_ble_eq_true rfl) (nfM_readLaw  h rfl)
set_option maxRecDepth 20000 in
theorem nfM_takesLaw {P : Px} {x1 : Int32} {M : Mm} {rr : Mm} (h : fM_takesLaw x1 M = some rr) {r : Option Value × Sg} (hr : r = (none, S rr)) : RN P 1 kX12_takesLaw 0 [(0, .ref 217), (1, .int x1)] [] (S M) r := by
  unfold fM_takesLaw at h
  refine sb_in [(0, .iconst 0, 1), (1, .istore_n 2, 1)] 2 (by decide +kernel) ?_
  refine sb_iconst cI0 ?_
  refine sb_istore_n (by decide) rfl ?_
  refine sb_end ?_
  obtain ⟨e2, hl2, h⟩ := bd h
  refine rn_sub [0, 1, 2] rfl ?_
  refine lp_ind (P := fun s => RN P 1 kX12_takesLaw 2 [(0, .ref 217), (1, .int x1), (2, .int s.1)] [] (S s.2) r) (E := fun p => RN P 1 kX12_takesLaw 105 [(0, .ref 217), (1, .int x1)] [] (S p) r) ?_ _ _ _ hl2 ?_
  · intro s qx h hc
    obtain ⟨x2, M⟩ := s
    replace h : fM_takesLaw_b2 x1 x2 M = some qx := h
    show RN P 1 kX12_takesLaw 2 [(0, .ref 217), (1, .int x1), (2, .int x2)] [] (S M) r
    unfold fM_takesLaw_b2 at h
    refine sb_in [(2, .iload_n 2, 1), (3, .iload_n 1, 1), (4, .if_icmp .ge 101, 3)] 7 (by decide +kernel) ?_
    refine sb_iload_n rfl ?_
    refine sb_iload_n rfl ?_
    rcases ife h with ⟨cz23, h⟩ | ⟨cz23, h⟩
    · refine sb_icmp_ge_t 105 cz23 (by decide) ?_
      cases h
      exact rn_sub [0, 1] rfl hc
    · refine sb_icmp_ge_f 105 cz23 (by decide) ?_
      refine sb_in [(7, .aload_n 0, 1), (8, .getfield 34, 3), (11, .bipush 16, 2), (13, .aload_n 0, 1), (14, .getfield 252, 3), (17, .imul, 1), (18, .iload_n 2, 1), (19, .iadd, 1), (20, .aload_n 0, 1), (21, .getfield 34, 3), (24, .bipush 32, 2), (26, .iload_n 2, 1), (27, .iadd, 1), (28, .iaload, 1), (29, .iastore, 1), (30, .aload_n 0, 1), (31, .getfield 37, 3), (34, .bipush 16, 2), (36, .aload_n 0, 1), (37, .getfield 252, 3), (40, .imul, 1), (41, .iload_n 2, 1), (42, .iadd, 1), (43, .aload_n 0, 1), (44, .getfield 37, 3), (47, .bipush 32, 2), (49, .iload_n 2, 1), (50, .iadd, 1), (51, .iaload, 1), (52, .iastore, 1), (53, .aload_n 0, 1), (54, .getfield 40, 3), (57, .bipush 16, 2), (59, .aload_n 0, 1), (60, .getfield 252, 3), (63, .imul, 1), (64, .iload_n 2, 1), (65, .iadd, 1), (66, .aload_n 0, 1), (67, .getfield 40, 3), (70, .bipush 32, 2), (72, .iload_n 2, 1), (73, .iadd, 1), (74, .iaload, 1), (75, .iastore, 1), (76, .aload_n 0, 1), (77, .getfield 43, 3), (80, .bipush 16, 2), (82, .aload_n 0, 1), (83, .getfield 252, 3), (86, .imul, 1), (87, .iload_n 2, 1), (88, .iadd, 1), (89, .aload_n 0, 1), (90, .getfield 43, 3), (93, .bipush 32, 2), (95, .iload_n 2, 1), (96, .iadd, 1), (97, .iaload, 1), (98, .iastore, 1), (99, .iinc 2 1, 3), (102, .goto (-100), 3)] 105 (by decide +kernel) ?_
      refine sb_aload_n rfl ?_
      refine ss_getR g12_34 h217 r217_17 ?_
      refine sb_bipush cB16 ?_
      refine sb_aload_n rfl ?_
      refine ss_getI g12_252 h217 ?_
      refine sb_imul ?_
      refine sb_iload_n rfl ?_
      refine sb_iadd ?_
      refine sb_aload_n rfl ?_
      refine ss_getR g12_34 h217 r217_17 ?_
      refine sb_bipush cB32 ?_
      refine sb_iload_n rfl ?_
      refine sb_iadd ?_
      obtain ⟨hgz1, h⟩ := gd h
      refine ss_iald h226 hgz1 ?_
      obtain ⟨hgz3, h⟩ := gd h
      refine ss_iast h226 (by decide) hgz3 ?_
      refine sb_aload_n rfl ?_
      refine ss_getR g12_37 h217 r217_18 ?_
      refine sb_bipush cB16 ?_
      refine sb_aload_n rfl ?_
      refine ss_getI g12_252 h217 ?_
      refine sb_imul ?_
      refine sb_iload_n rfl ?_
      refine sb_iadd ?_
      refine sb_aload_n rfl ?_
      refine ss_getR g12_37 h217 r217_18 ?_
      refine sb_bipush cB32 ?_
      refine sb_iload_n rfl ?_
      refine sb_iadd ?_
      obtain ⟨hgz4, h⟩ := gd h
      refine ss_iald h227 hgz4 ?_
      obtain ⟨hgz6, h⟩ := gd h
      refine ss_iast h227 (by decide) hgz6 ?_
      refine sb_aload_n rfl ?_
      refine ss_getR g12_40 h217 r217_19 ?_
      refine sb_bipush cB16 ?_
      refine sb_aload_n rfl ?_
      refine ss_getI g12_252 h217 ?_
      refine sb_imul ?_
      refine sb_iload_n rfl ?_
      refine sb_iadd ?_
      refine sb_aload_n rfl ?_
      refine ss_getR g12_40 h217 r217_19 ?_
      refine sb_bipush cB32 ?_
      refine sb_iload_n rfl ?_
      refine sb_iadd ?_
      obtain ⟨hgz7, h⟩ := gd h
      refine ss_iald h228 hgz7 ?_
      obtain ⟨hgz9, h⟩ := gd h
      refine ss_iast h228 (by decide) hgz9 ?_
      refine sb_aload_n rfl ?_
      refine ss_getR g12_43 h217 r217_20 ?_
      refine sb_bipush cB16 ?_
      refine sb_aload_n rfl ?_
      refine ss_getI g12_252 h217 ?_
      refine sb_imul ?_
      refine sb_iload_n rfl ?_
      refine sb_iadd ?_
      refine sb_aload_n rfl ?_
      refine ss_getR g12_43 h217 r217_20 ?_
      refine sb_bipush cB32 ?_
      refine sb_iload_n rfl ?_
      refine sb_iadd ?_
      obtain ⟨hgz10, h⟩ := gd h
      refine ss_iald h229 hgz10 ?_
      obtain ⟨hgz12, h⟩ := gd h
      refine ss_iast h229 (by decide) hgz12 ?_
      refine ss_iinc cI1 rfl (by decide) rfl ?_
      refine sb_goto 2 (by decide) ?_
      cases h
      exact rn_sub [0, 1, 2] rfl hc
  · clear hl2
    obtain ⟨Mz13, hey⟩ : ∃ z, z = e2 := ⟨_, rfl⟩
    subst hey
    show RN P 1 kX12_takesLaw 105 [(0, .ref 217), (1, .int x1)] [] (S Mz13) r
    refine sb_in [(105, .iconst 0, 1), (106, .istore_n 2, 1)] 107 (by decide +kernel) ?_
    refine sb_iconst cI0 ?_
    refine sb_istore_n (by decide) rfl ?_
    refine sb_end ?_
    obtain ⟨e107, hl107, h⟩ := bd h
    refine rn_sub [0, 1, 2] rfl ?_
    refine lp_ind (P := fun s => RN P 1 kX12_takesLaw 107 [(0, .ref 217), (1, .int x1), (2, .int s.1)] [] (S s.2) r) (E := fun p => RN P 1 kX12_takesLaw 171 [(0, .ref 217), (1, .int x1)] [] (S p) r) ?_ _ _ _ hl107 ?_
    · intro s qx h hc
      obtain ⟨x2, M⟩ := s
      replace h : fM_takesLaw_b107 x1 x2 M = some qx := h
      show RN P 1 kX12_takesLaw 107 [(0, .ref 217), (1, .int x1), (2, .int x2)] [] (S M) r
      unfold fM_takesLaw_b107 at h
      refine sb_in [(107, .iload_n 2, 1), (108, .aload_n 0, 1), (109, .getfield 198, 3), (112, .if_icmp .ge 59, 3)] 115 (by decide +kernel) ?_
      refine sb_iload_n rfl ?_
      refine sb_aload_n rfl ?_
      refine ss_getI g12_198 h217 ?_
      rcases ife h with ⟨cz24, h⟩ | ⟨cz24, h⟩
      · refine sb_icmp_ge_t 171 cz24 (by decide) ?_
        cases h
        exact rn_sub [0, 1] rfl hc
      · refine sb_icmp_ge_f 171 cz24 (by decide) ?_
        refine sb_in [(115, .aload_n 0, 1), (116, .getfield 46, 3), (119, .sipush 400, 3), (122, .aload_n 0, 1), (123, .getfield 252, 3), (126, .imul, 1), (127, .iload_n 2, 1), (128, .iadd, 1), (129, .aload_n 0, 1), (130, .getfield 46, 3), (133, .sipush 800, 3), (136, .iload_n 2, 1), (137, .iadd, 1), (138, .iaload, 1), (139, .iastore, 1), (140, .aload_n 0, 1), (141, .getfield 49, 3), (144, .sipush 400, 3), (147, .aload_n 0, 1), (148, .getfield 252, 3), (151, .imul, 1), (152, .iload_n 2, 1), (153, .iadd, 1), (154, .aload_n 0, 1), (155, .getfield 49, 3), (158, .sipush 800, 3), (161, .iload_n 2, 1), (162, .iadd, 1), (163, .iaload, 1), (164, .iastore, 1), (165, .iinc 2 1, 3), (168, .goto (-61), 3)] 171 (by decide +kernel) ?_
        refine sb_aload_n rfl ?_
        refine ss_getR g12_46 h217 r217_21 ?_
        refine sb_sipush cS400 ?_
        refine sb_aload_n rfl ?_
        refine ss_getI g12_252 h217 ?_
        refine sb_imul ?_
        refine sb_iload_n rfl ?_
        refine sb_iadd ?_
        refine sb_aload_n rfl ?_
        refine ss_getR g12_46 h217 r217_21 ?_
        refine sb_sipush cS800 ?_
        refine sb_iload_n rfl ?_
        refine sb_iadd ?_
        obtain ⟨hgz14, h⟩ := gd h
        refine ss_iald h230 hgz14 ?_
        obtain ⟨hgz16, h⟩ := gd h
        refine ss_iast h230 (by decide) hgz16 ?_
        refine sb_aload_n rfl ?_
        refine ss_getR g12_49 h217 r217_22 ?_
        refine sb_sipush cS400 ?_
        refine sb_aload_n rfl ?_
        refine ss_getI g12_252 h217 ?_
        refine sb_imul ?_
        refine sb_iload_n rfl ?_
        refine sb_iadd ?_
        refine sb_aload_n rfl ?_
        refine ss_getR g12_49 h217 r217_22 ?_
        refine sb_sipush cS800 ?_
        refine sb_iload_n rfl ?_
        refine sb_iadd ?_
        obtain ⟨hgz17, h⟩ := gd h
        refine ss_iald h231 hgz17 ?_
        obtain ⟨hgz19, h⟩ := gd h
        refine ss_iast h231 (by decide) hgz19 ?_
        refine ss_iinc cI1 rfl (by decide) rfl ?_
        refine sb_goto 107 (by decide) ?_
        cases h
        exact rn_sub [0, 1, 2] rfl hc
    · clear hl107
      obtain ⟨Mz20, hey⟩ : ∃ z, z = e107 := ⟨_, rfl⟩
      subst hey
      show RN P 1 kX12_takesLaw 171 [(0, .ref 217), (1, .int x1)] [] (S Mz20) r
      refine sb_in [(171, .aload_n 0, 1), (172, .getfield 31, 3), (175, .aload_n 0, 1), (176, .getfield 252, 3), (179, .iload_n 1, 1), (180, .iastore, 1), (181, .return_, 1)] 182 (by decide +kernel) ?_
      refine sb_aload_n rfl ?_
      refine ss_getR g12_31 h217 r217_16 ?_
      refine sb_aload_n rfl ?_
      refine ss_getI g12_252 h217 ?_
      refine sb_iload_n rfl ?_
      obtain ⟨hgz22, h⟩ := gd h
      refine ss_iast h225 (by decide) hgz22 ?_
      cases h
      subst hr
      refine sb_return ?_
      exact rfl
theorem tfM_takesLaw {P : Px} {x1 : Int32} {M : Mm} {rr : Mm} (h : fM_takesLaw x1 M = some rr) : EX P 1 kX12_takesLaw [.ref 217, .int x1] (S M) (none, S rr) := ex_of oX12_takesLaw (Nat.le_of_ble_eq_true rfl) (nfM_takesLaw  h rfl)
set_option maxRecDepth 20000 in
theorem nfM_readNumber {P : Px} {x1 : Int32} {x2 : Int32} {M : Mm} {rr : (Int32 × Mm)} (h : fM_readNumber x1 x2 M = some rr) {r : Option Value × Sg} (hr : r = (some (.int rr.1), S rr.2)) : RN P 4 kX12_readNumber 0 [(0, .ref 217), (1, .int x1), (2, .int x2)] [] (S M) r := by
  unfold fM_readNumber at h
  refine sb_in [(0, .aload_n 0, 1), (1, .getfield 173, 3), (4, .iconst 3, 1), (5, .if_icmp .eq 9, 3)] 8 (by decide +kernel) ?_
  refine sb_aload_n rfl ?_
  refine ss_getI g12_173 h217 ?_
  refine sb_iconst cI3 ?_
  rcases ife h with ⟨cz7, h⟩ | ⟨cz7, h⟩
  · refine sb_icmp_eq_t 14 cz7 (by decide) ?_
    refine sb_in [(14, .aload_n 0, 1), (15, .aload_n 0, 1), (16, .getfield 176, 3), (19, .iload_n 1, 1), (20, .iload_n 2, 1), (21, .invokevirtual 143, 3), (24, .ifCond .ne 9, 3)] 27 (by decide +kernel) ?_
    refine sb_aload_n rfl ?_
    refine sb_aload_n rfl ?_
    refine ss_getI g12_176 h217 ?_
    refine sb_iload_n rfl ?_
    refine sb_iload_n rfl ?_
    refine sb_callVi 3 rfl oX12_isIn ln12_143 vX12_isIn (rc_own h217.1 (S_lt h217.2) (by decide)) (rnCk_of (by decide +kernel) rfl) (tfM_isIn) ?_
    rcases ife h with ⟨cz8, h⟩ | ⟨cz8, h⟩
    · refine sb_if_ne_f 33 cz8 (by decide) ?_
      refine sb_in [(27, .aload_n 0, 1), (28, .iconst 2, 1), (29, .invokevirtual 204, 3), (32, .ireturn, 1)] 33 (by decide +kernel) ?_
      refine sb_aload_n rfl ?_
      refine sb_iconst cI2 ?_
      refine sb_callVi 1 rfl oX12_errs ln12_204 vX12_errs (rc_own h217.1 (S_lt h217.2) (by decide)) (rnCk_of (by decide +kernel) rfl) (tfM_errs) ?_
      cases h
      subst hr
      refine sb_ireturn ?_
      exact ⟨.int, rfl, rfl⟩
    · refine sb_if_ne_t 33 cz8 (by decide) ?_
      refine sb_in [(33, .aload_n 0, 1), (34, .getfield 176, 3), (37, .istore_n 3, 1), (38, .aload_n 0, 1), (39, .invokevirtual 211, 3), (42, .iload_n 3, 1), (43, .ireturn, 1)] 44 (by decide +kernel) ?_
      refine sb_aload_n rfl ?_
      refine ss_getI g12_176 h217 ?_
      refine sb_istore_n (by decide) rfl ?_
      refine sb_aload_n rfl ?_
      obtain ⟨Mz4, hez3, h⟩ := bd h
      refine sb_callVv 0 rfl oX12_reads ln12_211 vX12_reads (rc_own h217.1 (S_lt h217.2) (by decide)) (rnCk_of (by decide +kernel) rfl) (tfM_reads hez3) ?_
      refine sb_iload_n rfl ?_
      cases h
      subst hr
      refine sb_ireturn ?_
      exact ⟨.int, rfl, rfl⟩
  · refine sb_icmp_eq_f 14 cz7 (by decide) ?_
    refine sb_in [(8, .aload_n 0, 1), (9, .iconst 1, 1), (10, .invokevirtual 204, 3), (13, .ireturn, 1)] 14 (by decide +kernel) ?_
    refine sb_aload_n rfl ?_
    refine sb_iconst cI1 ?_
    refine sb_callVi 1 rfl oX12_errs ln12_204 vX12_errs (rc_own h217.1 (S_lt h217.2) (by decide)) (rnCk_of (by decide +kernel) rfl) (tfM_errs) ?_
    cases h
    subst hr
    refine sb_ireturn ?_
    exact ⟨.int, rfl, rfl⟩
theorem tfM_readNumber {P : Px} {x1 : Int32} {x2 : Int32} {M : Mm} {rr : (Int32 × Mm)} (h : fM_readNumber x1 x2 M = some rr) : EX P 4 kX12_readNumber [.ref 217, .int x1, .int x2] (S M) (some (.int rr.1), S rr.2) := ex_of oX12_readNumber (Nat.le_of_ble_eq_true rfl) (nfM_readNumber  h rfl)
set_option maxRecDepth 20000 in
theorem nfM_readMark {P : Px} {x1 : Int32} {M : Mm} {rr : (Int32 × Mm)} (h : fM_readMark x1 M = some rr) {r : Option Value × Sg} (hr : r = (some (.int rr.1), S rr.2)) : RN P 4 kX12_readMark 0 [(0, .ref 217), (1, .int x1)] [] (S M) r := by
  unfold fM_readMark at h
  refine sb_in [(0, .aload_n 0, 1), (1, .iload_n 1, 1), (2, .invokevirtual 218, 3), (5, .ifCond .ne 9, 3)] 8 (by decide +kernel) ?_
  refine sb_aload_n rfl ?_
  refine sb_iload_n rfl ?_
  refine sb_callVi 1 rfl oX12_isSign ln12_218 vX12_isSign (rc_own h217.1 (S_lt h217.2) (by decide)) (rnCk_of (by decide +kernel) rfl) (tfM_isSign) ?_
  rcases ife h with ⟨cz5, h⟩ | ⟨cz5, h⟩
  · refine sb_if_ne_f 14 cz5 (by decide) ?_
    refine sb_in [(8, .aload_n 0, 1), (9, .iconst 1, 1), (10, .invokevirtual 204, 3), (13, .ireturn, 1)] 14 (by decide +kernel) ?_
    refine sb_aload_n rfl ?_
    refine sb_iconst cI1 ?_
    refine sb_callVi 1 rfl oX12_errs ln12_204 vX12_errs (rc_own h217.1 (S_lt h217.2) (by decide)) (rnCk_of (by decide +kernel) rfl) (tfM_errs) ?_
    cases h
    subst hr
    refine sb_ireturn ?_
    exact ⟨.int, rfl, rfl⟩
  · refine sb_if_ne_t 14 cz5 (by decide) ?_
    refine sb_in [(14, .aload_n 0, 1), (15, .invokevirtual 211, 3), (18, .iconst 0, 1), (19, .ireturn, 1)] 20 (by decide +kernel) ?_
    refine sb_aload_n rfl ?_
    obtain ⟨Mz3, hez2, h⟩ := bd h
    refine sb_callVv 0 rfl oX12_reads ln12_211 vX12_reads (rc_own h217.1 (S_lt h217.2) (by decide)) (rnCk_of (by decide +kernel) rfl) (tfM_reads hez2) ?_
    refine sb_iconst cI0 ?_
    cases h
    subst hr
    refine sb_ireturn ?_
    exact ⟨.int, rfl, rfl⟩
theorem tfM_readMark {P : Px} {x1 : Int32} {M : Mm} {rr : (Int32 × Mm)} (h : fM_readMark x1 M = some rr) : EX P 4 kX12_readMark [.ref 217, .int x1] (S M) (some (.int rr.1), S rr.2) := ex_of oX12_readMark (Nat.le_of_ble_eq_true rfl) (nfM_readMark  h rfl)
set_option maxRecDepth 20000 in
theorem nfM_readTold {P : Px} {x1 : Int32} {x2 : Int32} {x3 : Int32} {M : Mm} {rr : (Int32 × Mm)} (h : fM_readTold x1 x2 x3 M = some rr) {r : Option Value × Sg} (hr : r = (some (.int rr.1), S rr.2)) : RN P 5 kX12_readTold 0 [(0, .ref 217), (1, .int x1), (2, .int x2), (3, .int x3)] [] (S M) r := by
  unfold fM_readTold at h
  refine sb_in [(0, .aload_n 0, 1), (1, .iload_n 1, 1), (2, .invokevirtual 233, 3), (5, .ifCond .ne 9, 3)] 8 (by decide +kernel) ?_
  refine sb_aload_n rfl ?_
  refine sb_iload_n rfl ?_
  refine sb_callVi 1 rfl oX12_isWord ln12_233 vX12_isWord (rc_own h217.1 (S_lt h217.2) (by decide)) (rnCk_of (by decide +kernel) rfl) (tfM_isWord) ?_
  rcases ife h with ⟨cz7, h⟩ | ⟨cz7, h⟩
  · refine sb_if_ne_f 14 cz7 (by decide) ?_
    refine sb_in [(8, .aload_n 0, 1), (9, .iconst 1, 1), (10, .invokevirtual 204, 3), (13, .ireturn, 1)] 14 (by decide +kernel) ?_
    refine sb_aload_n rfl ?_
    refine sb_iconst cI1 ?_
    refine sb_callVi 1 rfl oX12_errs ln12_204 vX12_errs (rc_own h217.1 (S_lt h217.2) (by decide)) (rnCk_of (by decide +kernel) rfl) (tfM_errs) ?_
    cases h
    subst hr
    refine sb_ireturn ?_
    exact ⟨.int, rfl, rfl⟩
  · refine sb_if_ne_t 14 cz7 (by decide) ?_
    refine sb_in [(14, .aload_n 0, 1), (15, .invokevirtual 211, 3), (18, .aload_n 0, 1), (19, .iload_n 2, 1), (20, .iload_n 3, 1), (21, .invokevirtual 255, 3), (24, .ireturn, 1)] 25 (by decide +kernel) ?_
    refine sb_aload_n rfl ?_
    obtain ⟨Mz3, hez2, h⟩ := bd h
    refine sb_callVv 0 rfl oX12_reads ln12_211 vX12_reads (rc_own h217.1 (S_lt h217.2) (by decide)) (rnCk_of (by decide +kernel) rfl) (tfM_reads hez2) ?_
    refine sb_aload_n rfl ?_
    refine sb_iload_n rfl ?_
    refine sb_iload_n rfl ?_
    obtain ⟨qz5, hez4, h⟩ := bd h
    refine sb_callVi 2 rfl oX12_readNumber ln12_255 vX12_readNumber (rc_own h217.1 (S_lt h217.2) (by decide)) (rnCk_of (by decide +kernel) rfl) (tfM_readNumber hez4) ?_
    cases h
    subst hr
    refine sb_ireturn ?_
    exact ⟨.int, rfl, rfl⟩
theorem tfM_readTold {P : Px} {x1 : Int32} {x2 : Int32} {x3 : Int32} {M : Mm} {rr : (Int32 × Mm)} (h : fM_readTold x1 x2 x3 M = some rr) : EX P 5 kX12_readTold [.ref 217, .int x1, .int x2, .int x3] (S M) (some (.int rr.1), S rr.2) := ex_of oX12_readTold (Nat.le_of_ble_eq_true rfl) (nfM_readTold  h rfl)
end RnT
