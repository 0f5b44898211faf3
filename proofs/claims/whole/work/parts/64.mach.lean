section RnT
set_option maxRecDepth 20000 in
theorem nfK_box {P : Px} {x1 : Int32} {M : Mm} {rr : (Int32 × Mm)} (h : fK_box x1 M = some rr) {r : Option Value × Sg} (hr : r = (some (.int rr.1), S rr.2)) : RN P 4 kX11_box 0 [(0, .ref 0), (1, .int x1)] [] (S M) r := by
  unfold fK_box at h
  refine sb_in [(0, .aload_n 0, 1), (1, .getfield 16, 3), (4, .getfield 95, 3), (7, .getfield 99, 3), (10, .ifCond .eq 12, 3)] 13 (by decide +kernel) ?_
  refine sb_aload_n rfl ?_
  refine ss_getR g11_16 h0 r0_0 ?_
  refine ss_getR g11_95 h1 r1_0 ?_
  refine ss_getI g11_99 h2 ?_
  rcases ife h with ⟨cz4, h⟩ | ⟨cz4, h⟩
  · refine sb_if_eq_t 22 cz4 (by decide) ?_
    refine sb_in [(22, .iconst (-1), 1), (23, .ireturn, 1)] 24 (by decide +kernel) ?_
    refine sb_iconst cIm1 ?_
    cases h
    subst hr
    refine sb_ireturn ?_
    exact ⟨.int, rfl, rfl⟩
  · refine sb_if_eq_f 22 cz4 (by decide) ?_
    refine sb_in [(13, .iload_n 1, 1), (14, .iconst 0, 1), (15, .iconst 1, 1), (16, .invokestatic 91, 3), (19, .ifCond .ne 5, 3)] 22 (by decide +kernel) ?_
    refine sb_iload_n rfl ?_
    refine sb_iconst cI0 ?_
    refine sb_iconst cI1 ?_
    refine sb_callSi 3 rfl oX11_isWithin ln11_91 vX11_isWithin (rnCk_of (by decide +kernel) rfl) (tfK_isWithin) ?_
    rcases ife h with ⟨cz5, h⟩ | ⟨cz5, h⟩
    · refine sb_if_ne_f 24 cz5 (by decide) ?_
      refine sb_in [(22, .iconst (-1), 1), (23, .ireturn, 1)] 24 (by decide +kernel) ?_
      refine sb_iconst cIm1 ?_
      cases h
      subst hr
      refine sb_ireturn ?_
      exact ⟨.int, rfl, rfl⟩
    · refine sb_if_ne_t 24 cz5 (by decide) ?_
      refine sb_in [(24, .aload_n 0, 1), (25, .getfield 59, 3), (28, .iload_n 1, 1), (29, .iconst 1, 1), (30, .if_icmp .ne 7, 3)] 33 (by decide +kernel) ?_
      refine sb_aload_n rfl ?_
      refine ss_getR g11_59 h0 r0_7 ?_
      refine sb_iload_n rfl ?_
      refine sb_iconst cI1 ?_
      have hJ38 : RN P 4 kX11_box 38 [(0, .ref 0)] [.int (if x1 = 1 then (1 : Int32) else 0), .ref 173] (S M) r := by
        refine sb_in [(38, .aload_n 0, 1), (39, .getfield 16, 3), (42, .getfield 95, 3), (45, .getfield 99, 3), (48, .aload_n 0, 1), (49, .getfield 33, 3), (52, .invokevirtual 310, 3), (55, .ireturn, 1)] 56 (by decide +kernel) ?_
        refine sb_aload_n rfl ?_
        refine ss_getR g11_16 h0 r0_0 ?_
        refine ss_getR g11_95 h1 r1_0 ?_
        refine ss_getI g11_99 h2 ?_
        refine sb_aload_n rfl ?_
        refine ss_getR g11_33 h0 r0_3 ?_
        obtain ⟨qz3, hez2, h⟩ := bd h
        refine sb_callVi 3 rfl oX9_newBox ln11_310 vX9_newBox (rc_own h173.1 (S_lt h173.2) (by decide)) (rnCk_of (by decide +kernel) rfl) (tfY_newBox hez2) ?_
        cases h
        subst hr
        refine sb_ireturn ?_
        exact ⟨.int, rfl, rfl⟩
      rcases Decidable.em (x1 = 1) with cz6 | cz6
      · refine sb_icmp_ne_f 37 cz6 (by decide) ?_
        refine sb_in [(33, .iconst 1, 1), (34, .goto 4, 3)] 37 (by decide +kernel) ?_
        refine sb_iconst cI1 ?_
        refine sb_goto 38 (by decide) ?_
        have hq := hJ38
        simp only [if_pos cz6] at hq
        exact rn_sub [0] rfl hq
      · refine sb_icmp_ne_t 37 cz6 (by decide) ?_
        refine sb_in [(37, .iconst 0, 1)] 38 (by decide +kernel) ?_
        refine sb_iconst cI0 ?_
        refine sb_end ?_
        have hq := hJ38
        simp only [if_neg cz6] at hq
        exact rn_sub [0] rfl hq
theorem tfK_box {P : Px} {x1 : Int32} {M : Mm} {rr : (Int32 × Mm)} (h : fK_box x1 M = some rr) : EX P 4 kX11_box [.ref 0, .int x1] (S M) (some (.int rr.1), S rr.2) := ex_of oX11_box (Nat.le_of_ble_eq_true rfl) (nfK_box  h rfl)
set_option maxRecDepth 20000 in
theorem nfE_addChange {P : Px} {x1 : Int32} {x2 : Int32} {M : Mm} {rr : (Int32 × Mm)} (h : fE_addChange x1 x2 M = some rr) {r : Option Value × Sg} (hr : r = (some (.int rr.1), S rr.2)) : RN P 2 kX8_addChange 0 [(0, .ref 138), (1, .int x1), (2, .int x2)] [] (S M) r := by
  unfold fE_addChange at h
  refine sb_in [(0, .iload_n 1, 1), (1, .iconst (-1), 1), (2, .if_icmp .ne 10, 3)] 5 (by decide +kernel) ?_
  refine sb_iload_n rfl ?_
  refine sb_iconst cIm1 ?_
  rcases ife h with ⟨cz10, h⟩ | ⟨cz10, h⟩
  · refine sb_icmp_ne_f 12 cz10 (by decide) ?_
    refine sb_in [(5, .aload_n 0, 1), (6, .iconst 0, 1), (7, .putfield 60, 3), (10, .iconst 0, 1), (11, .ireturn, 1)] 12 (by decide +kernel) ?_
    refine sb_aload_n rfl ?_
    refine sb_iconst cI0 ?_
    refine ss_putI p8_60 h138 (by decide) ?_
    refine sb_iconst cI0 ?_
    cases h
    subst hr
    refine sb_ireturn ?_
    exact ⟨.int, rfl, rfl⟩
  · refine sb_icmp_ne_t 12 cz10 (by decide) ?_
    refine sb_in [(12, .iload_n 1, 1), (13, .iconst 0, 1), (14, .bipush 63, 2), (16, .invokestatic 37, 3), (19, .ifCond .eq 17, 3)] 22 (by decide +kernel) ?_
    refine sb_iload_n rfl ?_
    refine sb_iconst cI0 ?_
    refine sb_bipush cB63 ?_
    refine sb_callSNi 3 rfl oX11_isWithin ln8_37 vX11_isWithin (rnCk_of (by decide +kernel) rfl) (tfK_isWithin) ?_
    obtain ⟨yz3, hj37, h⟩ := bd h
    have hJ37 : RN P 2 kX8_addChange 37 [(0, .ref 138), (1, .int x1), (2, .int x2)] [.int yz3] (S M) r := by
      refine sb_in [(37, .istore_n 3, 1), (38, .iload_n 3, 1), (39, .ifCond .eq 12, 3)] 42 (by decide +kernel) ?_
      refine sb_istore_n (by decide) rfl ?_
      refine sb_iload_n rfl ?_
      rcases ife h with ⟨cz11, h⟩ | ⟨cz11, h⟩
      · refine sb_if_eq_t 51 cz11 (by decide) ?_
        refine sb_in [(51, .iconst (-1), 1), (52, .ireturn, 1)] 53 (by decide +kernel) ?_
        refine sb_iconst cIm1 ?_
        cases h
        subst hr
        refine sb_ireturn ?_
        exact ⟨.int, rfl, rfl⟩
      · refine sb_if_eq_f 51 cz11 (by decide) ?_
        refine sb_in [(42, .aload_n 0, 1), (43, .getfield 60, 3), (46, .bipush 8, 2), (48, .if_icmp .lt 5, 3)] 51 (by decide +kernel) ?_
        refine sb_aload_n rfl ?_
        refine ss_getI g8_60 h138 ?_
        refine sb_bipush cB8 ?_
        rcases ife h with ⟨cz12, h⟩ | ⟨cz12, h⟩
        · refine sb_icmp_lt_t 53 cz12 (by decide) ?_
          refine sb_in [(53, .aload_n 0, 1), (54, .getfield 27, 3), (57, .aload_n 0, 1), (58, .getfield 60, 3), (61, .iload_n 1, 1), (62, .iastore, 1), (63, .aload_n 0, 1), (64, .getfield 30, 3), (67, .aload_n 0, 1), (68, .getfield 60, 3), (71, .iload_n 2, 1), (72, .iastore, 1), (73, .aload_n 0, 1), (74, .dup, 1), (75, .getfield 60, 3), (78, .iconst 1, 1), (79, .iadd, 1), (80, .putfield 60, 3), (83, .aload_n 0, 1), (84, .getfield 60, 3), (87, .ireturn, 1)] 88 (by decide +kernel) ?_
          refine sb_aload_n rfl ?_
          refine ss_getR g8_27 h138 r138_10 ?_
          refine sb_aload_n rfl ?_
          refine ss_getI g8_60 h138 ?_
          refine sb_iload_n rfl ?_
          obtain ⟨hgz5, h⟩ := gd h
          refine ss_iast h144 (by decide) hgz5 ?_
          refine sb_aload_n rfl ?_
          refine ss_getR g8_30 h138 r138_11 ?_
          refine sb_aload_n rfl ?_
          refine ss_getI g8_60 h138 ?_
          refine sb_iload_n rfl ?_
          obtain ⟨hgz7, h⟩ := gd h
          refine ss_iast h145 (by decide) hgz7 ?_
          refine sb_aload_n rfl ?_
          refine sb_dup rfl ?_
          refine ss_getI g8_60 h138 ?_
          refine sb_iconst cI1 ?_
          refine sb_iadd ?_
          refine ss_putI p8_60 h138 (by decide) ?_
          refine sb_aload_n rfl ?_
          refine ss_getI g8_60 h138 ?_
          cases h
          subst hr
          refine sb_ireturn ?_
          exact ⟨.int, rfl, rfl⟩
        · refine sb_icmp_lt_f 53 cz12 (by decide) ?_
          refine sb_in [(51, .iconst (-1), 1), (52, .ireturn, 1)] 53 (by decide +kernel) ?_
          refine sb_iconst cIm1 ?_
          cases h
          subst hr
          refine sb_ireturn ?_
          exact ⟨.int, rfl, rfl⟩
    clear h
    have h := hj37
    clear hj37
    rcases ife h with ⟨cz13, h⟩ | ⟨cz13, h⟩
    · refine sb_if_eq_t 36 cz13 (by decide) ?_
      refine sb_in [(36, .iconst 0, 1)] 37 (by decide +kernel) ?_
      refine sb_iconst cI0 ?_
      refine sb_end ?_
      cases h
      exact rn_sub [0, 1, 2] rfl hJ37
    · refine sb_if_eq_f 36 cz13 (by decide) ?_
      refine sb_in [(22, .iload_n 2, 1), (23, .bipush (-2), 2), (25, .iconst 2, 1), (26, .invokestatic 37, 3), (29, .ifCond .eq 7, 3)] 32 (by decide +kernel) ?_
      refine sb_iload_n rfl ?_
      refine sb_bipush cBm2 ?_
      refine sb_iconst cI2 ?_
      refine sb_callSNi 3 rfl oX11_isWithin ln8_37 vX11_isWithin (rnCk_of (by decide +kernel) rfl) (tfK_isWithin) ?_
      rcases ife h with ⟨cz14, h⟩ | ⟨cz14, h⟩
      · refine sb_if_eq_t 36 cz14 (by decide) ?_
        refine sb_in [(36, .iconst 0, 1)] 37 (by decide +kernel) ?_
        refine sb_iconst cI0 ?_
        refine sb_end ?_
        cases h
        exact rn_sub [0, 1, 2] rfl hJ37
      · refine sb_if_eq_f 36 cz14 (by decide) ?_
        refine sb_in [(32, .iconst 1, 1), (33, .goto 4, 3)] 36 (by decide +kernel) ?_
        refine sb_iconst cI1 ?_
        refine sb_goto 37 (by decide) ?_
        cases h
        exact rn_sub [0, 1, 2] rfl hJ37
theorem tfE_addChange {P : Px} {x1 : Int32} {x2 : Int32} {M : Mm} {rr : (Int32 × Mm)} (h : fE_addChange x1 x2 M = some rr) : EX P 2 kX8_addChange [.ref 138, .int x1, .int x2] (S M) (some (.int rr.1), S rr.2) := ex_of oX8_addChange (Nat.le_of_ble_eq_true rfl) (nfE_addChange  h rfl)
set_option maxRecDepth 20000 in
theorem nfK_face {P : Px} {x1 : Int32} {x2 : Int32} {M : Mm} {rr : (Int32 × Mm)} (h : fK_face x1 x2 M = some rr) {r : Option Value × Sg} (hr : r = (some (.int rr.1), S rr.2)) : RN P 3 kX11_face 0 [(0, .ref 0), (1, .int x1), (2, .int x2)] [] (S M) r := by
  unfold fK_face at h
  refine sb_in [(0, .aload_n 0, 1), (1, .getfield 40, 3), (4, .iload_n 1, 1), (5, .iload_n 2, 1), (6, .invokevirtual 314, 3), (9, .ireturn, 1)] 10 (by decide +kernel) ?_
  refine sb_aload_n rfl ?_
  refine ss_getR g11_40 h0 r0_4 ?_
  refine sb_iload_n rfl ?_
  refine sb_iload_n rfl ?_
  obtain ⟨qz2, hez1, h⟩ := bd h
  refine sb_callVi 2 rfl oX8_addChange ln11_314 vX8_addChange (rc_own h138.1 (S_lt h138.2) (by decide)) (rnCk_of (by decide +kernel) rfl) (tfE_addChange hez1) ?_
  cases h
  subst hr
  refine sb_ireturn ?_
  exact ⟨.int, rfl, rfl⟩
theorem tfK_face {P : Px} {x1 : Int32} {x2 : Int32} {M : Mm} {rr : (Int32 × Mm)} (h : fK_face x1 x2 M = some rr) : EX P 3 kX11_face [.ref 0, .int x1, .int x2] (S M) (some (.int rr.1), S rr.2) := ex_of oX11_face (Nat.le_of_ble_eq_true rfl) (nfK_face  h rfl)
set_option maxRecDepth 20000 in
theorem nfJ_fill_d0a16 {P : Px} {a na : Nat} (ha : shp a 22 na) (ha0 : a ≠ 0) {x1 : Int64} {M : Mm} {rr : Mm} (h : fJ_fill_d0a16 a na x1 M = some rr) {r : Option Value × Sg} (hr : r = (none, S rr)) : RN P 1 kJ7_fill_d0a16 0 [(0, .ref a), (1, .long x1)] [] (S M) r := by
  unfold fJ_fill_d0a16 at h
  refine sb_in [(0, .iconst 0, 1), (1, .istore_n 3, 1), (2, .aload_n 0, 1), (3, .arraylength, 1), (4, .istore 4, 2)] 6 (by decide +kernel) ?_
  refine sb_iconst cI0 ?_
  refine sb_istore_n (by decide) rfl ?_
  refine sb_aload_n rfl ?_
  refine ss_alen ha (Or.inr (Or.inr rfl)) rfl ?_
  refine sb_istore (by decide) rfl ?_
  refine sb_end ?_
  obtain ⟨e6, hl6, h⟩ := bd h
  refine rn_sub [0, 1, 3, 4] rfl ?_
  refine lp_ind (P := fun s => RN P 1 kJ7_fill_d0a16 6 [(0, .ref a), (1, .long x1), (3, .int s.1), (4, .int ((nI na)))] [] (S s.2) r) (E := fun p => RN P 1 kJ7_fill_d0a16 22 [] [] (S p) r) ?_ _ _ _ hl6 ?_
  · intro s qx h hc
    obtain ⟨x3, M⟩ := s
    replace h : fJ_fill_d0a16_b6 a na x1 ((nI na)) x3 M = some qx := h
    show RN P 1 kJ7_fill_d0a16 6 [(0, .ref a), (1, .long x1), (3, .int x3), (4, .int ((nI na)))] [] (S M) r
    generalize ((nI na)) = x4 at h hc ⊢
    unfold fJ_fill_d0a16_b6 at h
    refine sb_in [(6, .iload_n 3, 1), (7, .iload 4, 2), (9, .if_icmp .ge 13, 3)] 12 (by decide +kernel) ?_
    refine sb_iload_n rfl ?_
    refine sb_iload rfl ?_
    rcases ife h with ⟨cz5, h⟩ | ⟨cz5, h⟩
    · refine sb_icmp_ge_t 22 cz5 (by decide) ?_
      cases h
      exact rn_sub [] rfl hc
    · refine sb_icmp_ge_f 22 cz5 (by decide) ?_
      refine sb_in [(12, .aload_n 0, 1), (13, .iload_n 3, 1), (14, .lload_n 1, 1), (15, .lastore, 1), (16, .iinc 3 1, 3), (19, .goto (-13), 3)] 22 (by decide +kernel) ?_
      refine sb_aload_n rfl ?_
      refine sb_iload_n rfl ?_
      refine sb_lload_n rfl ?_
      obtain ⟨hgz3, h⟩ := gd h
      refine ss_last ha ha0 hgz3 ?_
      refine ss_iinc cI1 rfl (by decide) rfl ?_
      refine sb_goto 6 (by decide) ?_
      cases h
      exact rn_sub [0, 1, 3, 4] rfl hc
  · clear hl6
    obtain ⟨Mz4, hey⟩ : ∃ z, z = e6 := ⟨_, rfl⟩
    subst hey
    show RN P 1 kJ7_fill_d0a16 22 [] [] (S Mz4) r
    refine sb_in [(22, .return_, 1)] 23 (by decide +kernel) ?_
    cases h
    subst hr
    refine sb_return ?_
    exact rfl
theorem tfJ_fill_d0a16 {P : Px} {a na : Nat} (ha : shp a 22 na) (ha0 : a ≠ 0) {x1 : Int64} {M : Mm} {rr : Mm} (h : fJ_fill_d0a16 a na x1 M = some rr) : EX P 1 kJ7_fill_d0a16 [.ref a, .long x1] (S M) (none, S rr) := ex_of oJ7_fill_d0a16 (Nat.le_of_ble_eq_true rfl) (nfJ_fill_d0a16 ha ha0 h rfl)
set_option maxRecDepth 20000 in
theorem nfJ_bitCount_0f7a4 {P : Px} {x0 : Int32} {M : Mm} {rr : Int32} (h : fJ_bitCount_0f7a4 x0 = rr) {r : Option Value × Sg} (hr : r = (some (.int rr), S M)) : RN P 1 kJ6_bitCount_0f7a4 0 [(0, .int x0)] [] (S M) r := by
  unfold fJ_bitCount_0f7a4 at h
  refine sb_in [(0, .iload_n 0, 1), (1, .iload_n 0, 1), (2, .iconst 1, 1), (3, .iushr, 1), (4, .ldc_w 265, 3), (7, .iand, 1), (8, .isub, 1), (9, .istore_n 0, 1), (10, .iload_n 0, 1), (11, .ldc_w 266, 3), (14, .iand, 1), (15, .iload_n 0, 1), (16, .iconst 2, 1), (17, .iushr, 1), (18, .ldc_w 266, 3), (21, .iand, 1), (22, .iadd, 1), (23, .istore_n 0, 1), (24, .iload_n 0, 1), (25, .iload_n 0, 1), (26, .iconst 4, 1), (27, .iushr, 1), (28, .iadd, 1), (29, .ldc_w 267, 3), (32, .iand, 1), (33, .istore_n 0, 1), (34, .iload_n 0, 1), (35, .iload_n 0, 1), (36, .bipush 8, 2), (38, .iushr, 1), (39, .iadd, 1), (40, .istore_n 0, 1), (41, .iload_n 0, 1), (42, .iload_n 0, 1), (43, .bipush 16, 2), (45, .iushr, 1), (46, .iadd, 1), (47, .istore_n 0, 1), (48, .iload_n 0, 1), (49, .bipush 63, 2), (51, .iand, 1), (52, .ireturn, 1)] 53 (by decide +kernel) ?_
  refine sb_iload_n rfl ?_
  refine sb_iload_n rfl ?_
  refine sb_iconst cI1 ?_
  refine sb_iushr ?_
  refine sb_ldcw (v := 1431655765) rfl ?_
  refine sb_iand ?_
  refine sb_isub ?_
  refine sb_istore_n (by decide) rfl ?_
  refine sb_iload_n rfl ?_
  refine sb_ldcw (v := 858993459) rfl ?_
  refine sb_iand ?_
  refine sb_iload_n rfl ?_
  refine sb_iconst cI2 ?_
  refine sb_iushr ?_
  refine sb_ldcw (v := 858993459) rfl ?_
  refine sb_iand ?_
  refine sb_iadd ?_
  refine sb_istore_n (by decide) rfl ?_
  refine sb_iload_n rfl ?_
  refine sb_iload_n rfl ?_
  refine sb_iconst cI4 ?_
  refine sb_iushr ?_
  refine sb_iadd ?_
  refine sb_ldcw (v := 252645135) rfl ?_
  refine sb_iand ?_
  refine sb_istore_n (by decide) rfl ?_
  refine sb_iload_n rfl ?_
  refine sb_iload_n rfl ?_
  refine sb_bipush cB8 ?_
  refine sb_iushr ?_
  refine sb_iadd ?_
  refine sb_istore_n (by decide) rfl ?_
  refine sb_iload_n rfl ?_
  refine sb_iload_n rfl ?_
  refine sb_bipush cB16 ?_
  refine sb_iushr ?_
  refine sb_iadd ?_
  refine sb_istore_n (by decide) rfl ?_
  refine sb_iload_n rfl ?_
  refine sb_bipush cB63 ?_
  refine sb_iand ?_
  subst h
  subst hr
  refine sb_ireturn ?_
  exact ⟨.int, rfl, rfl⟩
theorem tfJ_bitCount_0f7a4 {P : Px} {x0 : Int32} {M : Mm} : EX P 1 kJ6_bitCount_0f7a4 [.int x0] (S M) (some (.int (fJ_bitCount_0f7a4 x0)), S M) := ex_of oJ6_bitCount_0f7a4 (Nat.le_of_ble_eq_true rfl) (nfJ_bitCount_0f7a4  rfl rfl)
theorem tfI_waysFrom {P : Px} : ∀ (n : Nat) (x0 : Int32) (x1 : Int64) (M : Mm) (rr : Int32 × Mm), fI_waysFrom n x0 x1 M = some rr → EX P (n + 1) kX3_waysFrom [.int x0, .long x1, .ref 171, .ref 172] (S M) (some (.int rr.1), S rr.2) := by
  intro n
  induction n with
  | zero => intro x0 x1 M rr h; cases h
  | succ n ih =>
    intro x0 x1 M rr h
    refine ex_of oX3_waysFrom (Nat.le_of_ble_eq_true rfl) ?_
    obtain ⟨r, hr⟩ : ∃ r : Option Value × Sg, r = (some (.int rr.1), S rr.2) := ⟨_, rfl⟩
    rw [← hr]
    show RN P (n + 1 + 1) kX3_waysFrom 0 [(0, .int x0), (1, .long x1), (3, .ref 171), (4, .ref 172)] [] (S M) r
    replace h : fI_waysFrom_r (fI_waysFrom n) x0 x1 M = some rr := h
    unfold fI_waysFrom_r at h
    refine sb_in [(0, .iload_n 0, 1), (1, .bipush 6, 2), (3, .if_icmp .lt 15, 3)] 6 (by decide +kernel) ?_
    refine sb_iload_n rfl ?_
    refine sb_bipush cB6 ?_
    rcases ife h with ⟨cz13, h⟩ | ⟨cz13, h⟩
    · refine sb_icmp_lt_t 18 cz13 (by decide) ?_
      refine sb_in [(18, .iconst 0, 1), (19, .istore 5, 2), (21, .iconst 0, 1), (22, .istore 6, 2)] 24 (by decide +kernel) ?_
      refine sb_iconst cI0 ?_
      refine sb_istore (by decide) rfl ?_
      refine sb_iconst cI0 ?_
      refine sb_istore (by decide) rfl ?_
      refine sb_end ?_
      obtain ⟨e24, hl24, h⟩ := bd h
      refine rn_sub [0, 1, 3, 4, 5, 6] rfl ?_
      refine lp_ind (P := fun s => RN P (n + 1 + 1) kX3_waysFrom 24 [(0, .int x0), (1, .long x1), (3, .ref 171), (4, .ref 172), (5, .int s.1), (6, .int s.2.1)] [] (S s.2.2) r) (E := fun p => RN P (n + 1 + 1) kX3_waysFrom 89 [(5, .int p.1)] [] (S p.2) r) ?_ _ _ _ hl24 ?_
      · intro s qx h hc
        obtain ⟨x5, x6, M⟩ := s
        replace h : fI_waysFrom_b24 (fI_waysFrom n) x0 x1 x5 x6 M = some qx := h
        show RN P (n + 1 + 1) kX3_waysFrom 24 [(0, .int x0), (1, .long x1), (3, .ref 171), (4, .ref 172), (5, .int x5), (6, .int x6)] [] (S M) r
        unfold fI_waysFrom_b24 at h
        refine sb_in [(24, .iload 6, 2), (26, .getstatic 102, 3), (29, .arraylength, 1), (30, .if_icmp .ge 59, 3)] 33 (by decide +kernel) ?_
        refine sb_iload rfl ?_
        refine rn_gets (v := .ref 1001) lf3_102 (fun X s h => z_kinds h) ?_
        refine sb_ialc 1 (by decide) ?_
        rcases ife h with ⟨cz14, h⟩ | ⟨cz14, h⟩
        · refine sb_icmp_ge_t 89 cz14 (by decide) ?_
          cases h
          exact rn_sub [5] rfl hc
        · refine sb_icmp_ge_f 89 cz14 (by decide) ?_
          refine sb_in [(33, .iload_n 0, 1), (34, .iconst 1, 1), (35, .iadd, 1), (36, .lload_n 1, 1), (37, .iload 6, 2), (39, .i2l, 1), (40, .aload_n 3, 1), (41, .iload_n 0, 1), (42, .laload, 1), (43, .lmul, 1), (44, .lsub, 1), (45, .aload_n 3, 1), (46, .aload 4, 2), (48, .invokestatic 98, 3), (51, .istore 7, 2), (53, .iload 7, 2), (55, .ifCond .le 28, 3)] 58 (by decide +kernel) ?_
          refine sb_iload_n rfl ?_
          refine sb_iconst cI1 ?_
          refine sb_iadd ?_
          refine sb_lload_n rfl ?_
          refine sb_iload rfl ?_
          refine sb_i2l ?_
          refine sb_aload_n rfl ?_
          refine sb_iload_n rfl ?_
          obtain ⟨hgz1, h⟩ := gd h
          refine ss_lald h171 hgz1 ?_
          refine sb_lmul ?_
          refine sb_lsub ?_
          refine sb_aload_n rfl ?_
          refine sb_aload rfl ?_
          obtain ⟨qz3, hez2, h⟩ := bd h
          refine sb_callSi 4 rfl oX3_waysFrom ln3_98 vX3_waysFrom (rnCk_of (by rw [Bool.and_eq_true]; exact ⟨by decide +kernel, decide_eq_true (Nat.le_refl _)⟩) rfl) (ih _ _ _ _ hez2) ?_
          refine sb_istore (by decide) rfl ?_
          refine sb_iload rfl ?_
          obtain ⟨⟨yz9, Mz10⟩, hj83, h⟩ := bd h
          have hJ83 : RN P (n + 1 + 1) kX3_waysFrom 83 [(0, .int x0), (1, .long x1), (3, .ref 171), (4, .ref 172), (5, .int yz9), (6, .int x6)] [] (S Mz10) r := by
            refine sb_in [(83, .iinc 6 1, 3), (86, .goto (-62), 3)] 89 (by decide +kernel) ?_
            refine ss_iinc cI1 rfl (by decide) rfl ?_
            refine sb_goto 24 (by decide) ?_
            cases h
            exact rn_sub [0, 1, 3, 4, 5, 6] rfl hc
          clear h
          have h := hj83
          clear hj83
          rcases ife h with ⟨cz15, h⟩ | ⟨cz15, h⟩
          · refine sb_if_le_t 83 cz15 (by decide) ?_
            cases h
            exact rn_sub [0, 1, 3, 4, 5, 6] rfl hJ83
          · refine sb_if_le_f 83 cz15 (by decide) ?_
            refine sb_in [(58, .aload 4, 2), (60, .iload_n 0, 1), (61, .dup2, 1), (62, .iaload, 1), (63, .iconst 1, 1), (64, .iload 6, 2), (66, .ishl, 1), (67, .ior, 1), (68, .iastore, 1), (69, .iload 5, 2), (71, .iload 7, 2), (73, .getstatic 102, 3), (76, .iload 6, 2), (78, .iaload, 1), (79, .imul, 1), (80, .iadd, 1), (81, .istore 5, 2)] 83 (by decide +kernel) ?_
            refine sb_aload rfl ?_
            refine sb_iload_n rfl ?_
            refine sb_dup2 rfl rfl ?_
            obtain ⟨hgz4, h⟩ := gd h
            refine ss_iald h172 hgz4 ?_
            refine sb_iconst cI1 ?_
            refine sb_iload rfl ?_
            refine sb_ishl ?_
            refine sb_ior ?_
            obtain ⟨hgz6, h⟩ := gd h
            refine ss_iast h172 (by decide) hgz6 ?_
            refine sb_iload rfl ?_
            refine sb_iload rfl ?_
            refine rn_gets (v := .ref 1001) lf3_102 (fun X s h => z_kinds h) ?_
            refine sb_iload rfl ?_
            obtain ⟨hgz7, h⟩ := gd h
            refine sb_icld 1 (by decide) hgz7 ?_
            refine sb_imul ?_
            refine sb_iadd ?_
            refine sb_istore (by decide) rfl ?_
            refine sb_end ?_
            cases h
            exact rn_sub [0, 1, 3, 4, 5, 6] rfl hJ83
      · clear hl24
        obtain ⟨yz11, Mz12⟩ := e24
        show RN P (n + 1 + 1) kX3_waysFrom 89 [(5, .int yz11)] [] (S Mz12) r
        refine sb_in [(89, .iload 5, 2), (91, .ireturn, 1)] 92 (by decide +kernel) ?_
        refine sb_iload rfl ?_
        cases h
        subst hr
        refine sb_ireturn ?_
        exact ⟨.int, rfl, rfl⟩
    · refine sb_icmp_lt_f 18 cz13 (by decide) ?_
      refine sb_in [(6, .lload_n 1, 1), (7, .lconst 0, 1), (8, .lcmp, 1), (9, .ifCond .ne 7, 3)] 12 (by decide +kernel) ?_
      refine sb_lload_n rfl ?_
      refine sb_lconst (v := 0) (by decide) ?_
      refine sb_lcmp ?_
      rcases ife h with ⟨cz16, h⟩ | ⟨cz16, h⟩
      · refine sb_if_ne_f 16 cz16 (by decide) ?_
        refine sb_in [(12, .iconst 1, 1), (13, .goto 4, 3)] 16 (by decide +kernel) ?_
        refine sb_iconst cI1 ?_
        refine sb_goto 17 (by decide) ?_
        refine sb_in [(17, .ireturn, 1)] 18 (by decide +kernel) ?_
        cases h
        subst hr
        refine sb_ireturn ?_
        exact ⟨.int, rfl, rfl⟩
      · refine sb_if_ne_t 16 cz16 (by decide) ?_
        refine sb_in [(16, .iconst 0, 1)] 17 (by decide +kernel) ?_
        refine sb_iconst cI0 ?_
        refine sb_end ?_
        refine sb_in [(17, .ireturn, 1)] 18 (by decide +kernel) ?_
        cases h
        subst hr
        refine sb_ireturn ?_
        exact ⟨.int, rfl, rfl⟩
set_option maxRecDepth 20000 in
theorem nfI_waysOfFaces {P : Px} {M : Mm} {rr : (Int32 × Mm)} (h : fI_waysOfFaces M = some rr) {r : Option Value × Sg} (hr : r = (some (.int rr.1), S rr.2)) : RN P 10 kX3_waysOfFaces 0 [(0, .ref 168), (1, .ref 138)] [] (S M) r := by
  unfold fI_waysOfFaces at h
  refine sb_in [(0, .aload_n 0, 1), (1, .getfield 24, 3), (4, .iconst 0, 1), (5, .invokestatic 44, 3), (8, .aload_n 0, 1), (9, .getfield 20, 3), (12, .lconst 0, 1), (13, .invokestatic 80, 3), (16, .lconst 0, 1), (17, .lstore_n 2, 1), (18, .iconst 0, 1), (19, .istore 4, 2)] 21 (by decide +kernel) ?_
  refine sb_aload_n rfl ?_
  refine ss_getR g3_24 h168 r168_3 ?_
  refine sb_iconst cI0 ?_
  obtain ⟨Mz2, hez1, h⟩ := bd h
  refine sb_callSv 2 rfl oJ7_fill_53178 ln3_44 vJ7_fill_53178 (rnCk_of (by decide +kernel) rfl) (tfJ_fill_53178 h172 (by decide) hez1) ?_
  refine sb_aload_n rfl ?_
  refine ss_getR g3_20 h168 r168_2 ?_
  refine sb_lconst (v := 0) (by decide) ?_
  obtain ⟨Mz4, hez3, h⟩ := bd h
  refine sb_callSv 2 rfl oJ7_fill_d0a16 ln3_80 vJ7_fill_d0a16 (rnCk_of (by decide +kernel) rfl) (tfJ_fill_d0a16 h171 (by decide) hez3) ?_
  refine sb_lconst (v := 0) (by decide) ?_
  refine sb_lstore_n (by decide) rfl ?_
  refine sb_iconst cI0 ?_
  refine sb_istore (by decide) rfl ?_
  refine sb_end ?_
  obtain ⟨e21, hl21, h⟩ := bd h
  refine rn_sub [0, 1, 2, 4] rfl ?_
  refine lp_ind (P := fun s => RN P 10 kX3_waysOfFaces 21 [(0, .ref 168), (1, .ref 138), (2, .long s.1), (4, .int s.2.1)] [] (S s.2.2) r) (E := fun e => match e with | Sum.inl p => RN P 10 kX3_waysOfFaces 59 [] [] (S p) r | Sum.inr p => RN P 10 kX3_waysOfFaces 122 [(0, .ref 168), (2, .long p.1)] [] (S p.2) r) ?_ _ _ _ hl21 ?_
  · intro s qx h hc
    obtain ⟨x2, x4, M⟩ := s
    replace h : fI_waysOfFaces_b21 x2 x4 M = some qx := h
    show RN P 10 kX3_waysOfFaces 21 [(0, .ref 168), (1, .ref 138), (2, .long x2), (4, .int x4)] [] (S M) r
    unfold fI_waysOfFaces_b21 at h
    refine sb_in [(21, .iload 4, 2), (23, .aload_n 1, 1), (24, .getfield 83, 3), (27, .if_icmp .ge 95, 3)] 30 (by decide +kernel) ?_
    refine sb_iload rfl ?_
    refine sb_aload_n rfl ?_
    refine ss_getI g3_83 h138 ?_
    rcases ife h with ⟨cz21, h⟩ | ⟨cz21, h⟩
    · refine sb_icmp_ge_t 122 cz21 (by decide) ?_
      cases h
      exact rn_sub [0, 2] rfl hc
    · refine sb_icmp_ge_f 122 cz21 (by decide) ?_
      refine sb_in [(30, .aload_n 1, 1), (31, .getfield 86, 3), (34, .iload 4, 2), (36, .iaload, 1), (37, .istore 5, 2), (39, .aload_n 1, 1), (40, .getfield 89, 3), (43, .iload 4, 2), (45, .iaload, 1), (46, .iload 5, 2), (48, .invokestatic 92, 3), (51, .iadd, 1), (52, .istore 6, 2), (54, .iload 6, 2), (56, .ifCond .ge 5, 3)] 59 (by decide +kernel) ?_
      refine sb_aload_n rfl ?_
      refine ss_getR g3_86 h138 r138_10 ?_
      refine sb_iload rfl ?_
      obtain ⟨hgz5, h⟩ := gd h
      refine ss_iald h144 hgz5 ?_
      refine sb_istore (by decide) rfl ?_
      refine sb_aload_n rfl ?_
      refine ss_getR g3_89 h138 r138_11 ?_
      refine sb_iload rfl ?_
      obtain ⟨hgz7, h⟩ := gd h
      refine ss_iald h145 hgz7 ?_
      refine sb_iload rfl ?_
      refine sb_callSi 1 rfl oJ6_bitCount_0f7a4 ln3_92 vJ6_bitCount_0f7a4 (rnCk_of (by decide +kernel) rfl) (tfJ_bitCount_0f7a4) ?_
      refine sb_iadd ?_
      refine sb_istore (by decide) rfl ?_
      refine sb_iload rfl ?_
      rcases ife h with ⟨cz22, h⟩ | ⟨cz22, h⟩
      · refine sb_if_ge_t 61 cz22 (by decide) ?_
        refine sb_in [(61, .lconst 1, 1), (62, .bipush 6, 2), (64, .iload 4, 2), (66, .imul, 1), (67, .lshl, 1), (68, .lstore 7, 2), (70, .lload_n 2, 1), (71, .iload 6, 2), (73, .i2l, 1), (74, .lload 7, 2), (76, .lmul, 1), (77, .ladd, 1), (78, .lstore_n 2, 1), (79, .iconst 0, 1), (80, .istore 9, 2)] 82 (by decide +kernel) ?_
        refine sb_lconst (v := 1) (by decide) ?_
        refine sb_bipush cB6 ?_
        refine sb_iload rfl ?_
        refine sb_imul ?_
        refine sb_lshl ?_
        refine sb_lstore (by decide) rfl ?_
        refine sb_lload_n rfl ?_
        refine sb_iload rfl ?_
        refine sb_i2l ?_
        refine sb_lload rfl ?_
        refine sb_lmul ?_
        refine sb_ladd ?_
        refine sb_lstore_n (by decide) rfl ?_
        refine sb_iconst cI0 ?_
        refine sb_istore (by decide) rfl ?_
        refine sb_end ?_
        obtain ⟨e82, hl82, h⟩ := bd h
        refine rn_sub [0, 1, 2, 4, 5, 7, 9] rfl ?_
        refine lp_ind (P := fun s => RN P 10 kX3_waysOfFaces 82 [(0, .ref 168), (1, .ref 138), (2, .long ((x2 + ((Int32.toInt64 (((M 145 (jix x4)) + (fJ_bitCount_0f7a4 ((M 144 (jix x4))))))) * ((1 <<< (Int32.toInt64 (6 * x4) &&& 63))))))), (4, .int x4), (5, .int ((M 144 (jix x4)))), (7, .long ((1 <<< (Int32.toInt64 (6 * x4) &&& 63)))), (9, .int s.1)] [] (S s.2) r) (E := fun p => RN P 10 kX3_waysOfFaces 116 [(0, .ref 168), (1, .ref 138), (2, .long ((x2 + ((Int32.toInt64 (((M 145 (jix x4)) + (fJ_bitCount_0f7a4 ((M 144 (jix x4))))))) * ((1 <<< (Int32.toInt64 (6 * x4) &&& 63))))))), (4, .int x4)] [] (S p) r) ?_ _ _ _ hl82 ?_
        · intro s qx h hc
          replace h : fI_waysOfFaces_b82 ((x2 + ((Int32.toInt64 (((M 145 (jix x4)) + (fJ_bitCount_0f7a4 ((M 144 (jix x4))))))) * ((1 <<< (Int32.toInt64 (6 * x4) &&& 63)))))) x4 ((M 144 (jix x4))) ((1 <<< (Int32.toInt64 (6 * x4) &&& 63))) s.1 s.2 = some qx := h
          show RN P 10 kX3_waysOfFaces 82 [(0, .ref 168), (1, .ref 138), (2, .long ((x2 + ((Int32.toInt64 (((M 145 (jix x4)) + (fJ_bitCount_0f7a4 ((M 144 (jix x4))))))) * ((1 <<< (Int32.toInt64 (6 * x4) &&& 63))))))), (4, .int x4), (5, .int ((M 144 (jix x4)))), (7, .long ((1 <<< (Int32.toInt64 (6 * x4) &&& 63)))), (9, .int s.1)] [] (S s.2) r
          generalize ((x2 + ((Int32.toInt64 (((M 145 (jix x4)) + (fJ_bitCount_0f7a4 ((M 144 (jix x4))))))) * ((1 <<< (Int32.toInt64 (6 * x4) &&& 63)))))) = x2 at h hc ⊢
          generalize ((M 144 (jix x4))) = x5 at h hc ⊢
          generalize ((1 <<< (Int32.toInt64 (6 * x4) &&& 63))) = x7 at h hc ⊢
          obtain ⟨x9, M⟩ := s
          replace h : fI_waysOfFaces_b82 x2 x4 x5 x7 x9 M = some qx := h
          show RN P 10 kX3_waysOfFaces 82 [(0, .ref 168), (1, .ref 138), (2, .long x2), (4, .int x4), (5, .int x5), (7, .long x7), (9, .int x9)] [] (S M) r
          unfold fI_waysOfFaces_b82 at h
          refine sb_in [(82, .iload 9, 2), (84, .bipush 6, 2), (86, .if_icmp .ge 30, 3)] 89 (by decide +kernel) ?_
          refine sb_iload rfl ?_
          refine sb_bipush cB6 ?_
          rcases ife h with ⟨cz23, h⟩ | ⟨cz23, h⟩
          · refine sb_icmp_ge_t 116 cz23 (by decide) ?_
            cases h
            exact rn_sub [0, 1, 2, 4] rfl hc
          · refine sb_icmp_ge_f 116 cz23 (by decide) ?_
            refine sb_in [(89, .aload_n 0, 1), (90, .getfield 20, 3), (93, .iload 9, 2), (95, .dup2, 1), (96, .laload, 1), (97, .lload 7, 2), (99, .iload 5, 2), (101, .iload 9, 2), (103, .ishr, 1), (104, .iconst 1, 1), (105, .iand, 1), (106, .i2l, 1), (107, .lmul, 1), (108, .ladd, 1), (109, .lastore, 1), (110, .iinc 9 1, 3), (113, .goto (-31), 3)] 116 (by decide +kernel) ?_
            refine sb_aload_n rfl ?_
            refine ss_getR g3_20 h168 r168_2 ?_
            refine sb_iload rfl ?_
            refine sb_dup2 rfl rfl ?_
            obtain ⟨hgz12, h⟩ := gd h
            refine ss_lald h171 hgz12 ?_
            refine sb_lload rfl ?_
            refine sb_iload rfl ?_
            refine sb_iload rfl ?_
            refine sb_ishr ?_
            refine sb_iconst cI1 ?_
            refine sb_iand ?_
            refine sb_i2l ?_
            refine sb_lmul ?_
            refine sb_ladd ?_
            obtain ⟨hgz14, h⟩ := gd h
            refine ss_last h171 (by decide) hgz14 ?_
            refine ss_iinc cI1 rfl (by decide) rfl ?_
            refine sb_goto 82 (by decide) ?_
            cases h
            exact rn_sub [0, 1, 2, 4, 5, 7, 9] rfl hc
        · clear hl82
          obtain ⟨Mz15, hey⟩ : ∃ z, z = e82 := ⟨_, rfl⟩
          subst hey
          show RN P 10 kX3_waysOfFaces 116 [(0, .ref 168), (1, .ref 138), (2, .long ((x2 + ((Int32.toInt64 (((M 145 (jix x4)) + (fJ_bitCount_0f7a4 ((M 144 (jix x4))))))) * ((1 <<< (Int32.toInt64 (6 * x4) &&& 63))))))), (4, .int x4)] [] (S Mz15) r
          refine sb_in [(116, .iinc 4 1, 3), (119, .goto (-98), 3)] 122 (by decide +kernel) ?_
          refine ss_iinc cI1 rfl (by decide) rfl ?_
          refine sb_goto 21 (by decide) ?_
          cases h
          exact rn_sub [0, 1, 2, 4] rfl hc
      · refine sb_if_ge_f 61 cz22 (by decide) ?_
        cases h
        exact rn_sub [] rfl hc
  · clear hl21
    rcases e21 with e21 | e21
    · skip
      obtain ⟨Mz16, hey⟩ : ∃ z, z = e21 := ⟨_, rfl⟩
      subst hey
      show RN P 10 kX3_waysOfFaces 59 [] [] (S Mz16) r
      refine sb_in [(59, .iconst 0, 1), (60, .ireturn, 1)] 61 (by decide +kernel) ?_
      refine sb_iconst cI0 ?_
      cases h
      subst hr
      refine sb_ireturn ?_
      exact ⟨.int, rfl, rfl⟩
    · skip
      obtain ⟨yz17, Mz18⟩ := e21
      show RN P 10 kX3_waysOfFaces 122 [(0, .ref 168), (2, .long yz17)] [] (S Mz18) r
      refine sb_in [(122, .iconst 0, 1), (123, .lload_n 2, 1), (124, .aload_n 0, 1), (125, .getfield 20, 3), (128, .aload_n 0, 1), (129, .getfield 24, 3), (132, .invokestatic 98, 3), (135, .ireturn, 1)] 136 (by decide +kernel) ?_
      refine sb_iconst cI0 ?_
      refine sb_lload_n rfl ?_
      refine sb_aload_n rfl ?_
      refine ss_getR g3_20 h168 r168_2 ?_
      refine sb_aload_n rfl ?_
      refine ss_getR g3_24 h168 r168_3 ?_
      obtain ⟨qz20, hez19, h⟩ := bd h
      refine sb_callSi 4 rfl oX3_waysFrom ln3_98 vX3_waysFrom (rnCk_of (by decide +kernel) rfl) (tfI_waysFrom 8 _ _ _ _ hez19) ?_
      cases h
      subst hr
      refine sb_ireturn ?_
      exact ⟨.int, rfl, rfl⟩
theorem tfI_waysOfFaces {P : Px} {M : Mm} {rr : (Int32 × Mm)} (h : fI_waysOfFaces M = some rr) : EX P 10 kX3_waysOfFaces [.ref 168, .ref 138] (S M) (some (.int rr.1), S rr.2) := ex_of oX3_waysOfFaces (Nat.le_of_ble_eq_true rfl) (nfI_waysOfFaces  h rfl)
set_option maxRecDepth 20000 in
theorem nfI_sureLetters {P : Px} {M : Mm} {rr : (Int32 × Mm)} (h : fI_sureLetters M = some rr) {r : Option Value × Sg} (hr : r = (some (.int rr.1), S rr.2)) : RN P 11 kX3_sureLetters 0 [(0, .ref 168), (1, .ref 138)] [] (S M) r := by
  unfold fI_sureLetters at h
  refine sb_in [(0, .aload_n 0, 1), (1, .aload_n 1, 1), (2, .invokevirtual 105, 3), (5, .pop, 1), (6, .iconst 0, 1), (7, .istore_n 2, 1), (8, .iconst 0, 1), (9, .istore_n 3, 1)] 10 (by decide +kernel) ?_
  refine sb_aload_n rfl ?_
  refine sb_aload_n rfl ?_
  obtain ⟨qz2, hez1, h⟩ := bd h
  refine sb_callVi 1 rfl oX3_waysOfFaces ln3_105 vX3_waysOfFaces (rc_own h168.1 (S_lt h168.2) (by decide)) (rnCk_of (by decide +kernel) rfl) (tfI_waysOfFaces hez1) ?_
  refine sb_pop rfl ?_
  refine sb_iconst cI0 ?_
  refine sb_istore_n (by decide) rfl ?_
  refine sb_iconst cI0 ?_
  refine sb_istore_n (by decide) rfl ?_
  refine sb_end ?_
  obtain ⟨e10, hl10, h⟩ := bd h
  refine rn_sub [0, 2, 3] rfl ?_
  refine lp_ind (P := fun s => RN P 11 kX3_sureLetters 10 [(0, .ref 168), (2, .int s.1), (3, .int s.2)] [] (S qz2.2) r) (E := fun p => RN P 11 kX3_sureLetters 41 [(2, .int p)] [] (S qz2.2) r) ?_ _ _ _ hl10 ?_
  · intro s qx h hc
    obtain ⟨x2, x3⟩ := s
    replace h : fI_sureLetters_b10 qz2.2 x2 x3 = some qx := h
    show RN P 11 kX3_sureLetters 10 [(0, .ref 168), (2, .int x2), (3, .int x3)] [] (S qz2.2) r
    generalize qz2.2 = M at h hc ⊢
    unfold fI_sureLetters_b10 at h
    refine sb_in [(10, .iload_n 3, 1), (11, .bipush 6, 2), (13, .if_icmp .ge 28, 3)] 16 (by decide +kernel) ?_
    refine sb_iload_n rfl ?_
    refine sb_bipush cB6 ?_
    rcases ife h with ⟨cz8, h⟩ | ⟨cz8, h⟩
    · refine sb_icmp_ge_t 41 cz8 (by decide) ?_
      cases h
      exact rn_sub [2] rfl hc
    · refine sb_icmp_ge_f 41 cz8 (by decide) ?_
      refine sb_in [(16, .aload_n 0, 1), (17, .getfield 24, 3), (20, .iload_n 3, 1), (21, .iaload, 1), (22, .invokestatic 92, 3), (25, .iconst 1, 1), (26, .if_icmp .ne 9, 3)] 29 (by decide +kernel) ?_
      refine sb_aload_n rfl ?_
      refine ss_getR g3_24 h168 r168_3 ?_
      refine sb_iload_n rfl ?_
      obtain ⟨hgz3, h⟩ := gd h
      refine ss_iald h172 hgz3 ?_
      refine sb_callSi 1 rfl oJ6_bitCount_0f7a4 ln3_92 vJ6_bitCount_0f7a4 (rnCk_of (by decide +kernel) rfl) (tfJ_bitCount_0f7a4) ?_
      refine sb_iconst cI1 ?_
      obtain ⟨yz6, hj35, h⟩ := bd h
      have hJ35 : RN P 11 kX3_sureLetters 35 [(0, .ref 168), (2, .int yz6), (3, .int x3)] [] (S M) r := by
        refine sb_in [(35, .iinc 3 1, 3), (38, .goto (-28), 3)] 41 (by decide +kernel) ?_
        refine ss_iinc cI1 rfl (by decide) rfl ?_
        refine sb_goto 10 (by decide) ?_
        cases h
        exact rn_sub [0, 2, 3] rfl hc
      clear h
      have h := hj35
      clear hj35
      rcases ife h with ⟨cz9, h⟩ | ⟨cz9, h⟩
      · refine sb_icmp_ne_f 35 cz9 (by decide) ?_
        refine sb_in [(29, .iload_n 2, 1), (30, .iconst 1, 1), (31, .iload_n 3, 1), (32, .ishl, 1), (33, .ior, 1), (34, .istore_n 2, 1)] 35 (by decide +kernel) ?_
        refine sb_iload_n rfl ?_
        refine sb_iconst cI1 ?_
        refine sb_iload_n rfl ?_
        refine sb_ishl ?_
        refine sb_ior ?_
        refine sb_istore_n (by decide) rfl ?_
        refine sb_end ?_
        cases h
        exact rn_sub [0, 2, 3] rfl hJ35
      · refine sb_icmp_ne_t 35 cz9 (by decide) ?_
        cases h
        exact rn_sub [0, 2, 3] rfl hJ35
  · clear hl10
    obtain ⟨yz7, hey⟩ : ∃ z, z = e10 := ⟨_, rfl⟩
    subst hey
    show RN P 11 kX3_sureLetters 41 [(2, .int yz7)] [] (S qz2.2) r
    refine sb_in [(41, .iload_n 2, 1), (42, .ireturn, 1)] 43 (by decide +kernel) ?_
    refine sb_iload_n rfl ?_
    cases h
    subst hr
    refine sb_ireturn ?_
    exact ⟨.int, rfl, rfl⟩
theorem tfI_sureLetters {P : Px} {M : Mm} {rr : (Int32 × Mm)} (h : fI_sureLetters M = some rr) : EX P 11 kX3_sureLetters [.ref 168, .ref 138] (S M) (some (.int rr.1), S rr.2) := ex_of oX3_sureLetters (Nat.le_of_ble_eq_true rfl) (nfI_sureLetters  h rfl)
set_option maxRecDepth 20000 in
theorem nfK_faces {P : Px} {x1 : Int32} {M : Mm} {rr : (Int32 × Mm)} (h : fK_faces x1 M = some rr) {r : Option Value × Sg} (hr : r = (some (.int rr.1), S rr.2)) : RN P 12 kX11_faces 0 [(0, .ref 0), (1, .int x1)] [] (S M) r := by
  unfold fK_faces at h
  refine sb_in [(0, .iload_n 1, 1), (1, .ifCond .ne 15, 3)] 4 (by decide +kernel) ?_
  refine sb_iload_n rfl ?_
  rcases ife h with ⟨cz5, h⟩ | ⟨cz5, h⟩
  · refine sb_if_ne_f 16 cz5 (by decide) ?_
    refine sb_in [(4, .aload_n 0, 1), (5, .getfield 54, 3), (8, .aload_n 0, 1), (9, .getfield 40, 3), (12, .invokevirtual 317, 3), (15, .ireturn, 1)] 16 (by decide +kernel) ?_
    refine sb_aload_n rfl ?_
    refine ss_getR g11_54 h0 r0_6 ?_
    refine sb_aload_n rfl ?_
    refine ss_getR g11_40 h0 r0_4 ?_
    obtain ⟨qz4, hez3, h⟩ := bd h
    refine sb_callVi 1 rfl oX3_waysOfFaces ln11_317 vX3_waysOfFaces (rc_own h168.1 (S_lt h168.2) (by decide)) (rnCk_of (by decide +kernel) rfl) (tfI_waysOfFaces hez3) ?_
    cases h
    subst hr
    refine sb_ireturn ?_
    exact ⟨.int, rfl, rfl⟩
  · refine sb_if_ne_t 16 cz5 (by decide) ?_
    refine sb_in [(16, .iload_n 1, 1), (17, .iconst 1, 1), (18, .if_icmp .ne 17, 3)] 21 (by decide +kernel) ?_
    refine sb_iload_n rfl ?_
    refine sb_iconst cI1 ?_
    rcases ife h with ⟨cz6, h⟩ | ⟨cz6, h⟩
    · refine sb_icmp_ne_f 35 cz6 (by decide) ?_
      refine sb_in [(21, .aload_n 0, 1), (22, .getfield 54, 3), (25, .aload_n 0, 1), (26, .getfield 40, 3), (29, .invokevirtual 320, 3), (32, .goto 4, 3)] 35 (by decide +kernel) ?_
      refine sb_aload_n rfl ?_
      refine ss_getR g11_54 h0 r0_6 ?_
      refine sb_aload_n rfl ?_
      refine ss_getR g11_40 h0 r0_4 ?_
      obtain ⟨qz2, hez1, h⟩ := bd h
      refine sb_callVi 1 rfl oX3_sureLetters ln11_320 vX3_sureLetters (rc_own h168.1 (S_lt h168.2) (by decide)) (rnCk_of (by decide +kernel) rfl) (tfI_sureLetters hez1) ?_
      refine sb_goto 36 (by decide) ?_
      refine sb_in [(36, .ireturn, 1)] 37 (by decide +kernel) ?_
      cases h
      subst hr
      refine sb_ireturn ?_
      exact ⟨.int, rfl, rfl⟩
    · refine sb_icmp_ne_t 35 cz6 (by decide) ?_
      refine sb_in [(35, .iconst (-1), 1)] 36 (by decide +kernel) ?_
      refine sb_iconst cIm1 ?_
      refine sb_end ?_
      refine sb_in [(36, .ireturn, 1)] 37 (by decide +kernel) ?_
      cases h
      subst hr
      refine sb_ireturn ?_
      exact ⟨.int, rfl, rfl⟩
theorem tfK_faces {P : Px} {x1 : Int32} {M : Mm} {rr : (Int32 × Mm)} (h : fK_faces x1 M = some rr) : EX P 12 kX11_faces [.ref 0, .int x1] (S M) (some (.int rr.1), S rr.2) := ex_of oX11_faces (Nat.le_of_ble_eq_true rfl) (nfK_faces  h rfl)
set_option maxRecDepth 20000 in
theorem nfY_joyOfRow {P : Px} {x1 : Int32} {M : Mm} {rr : Int32} (h : fY_joyOfRow x1 M = some rr) {r : Option Value × Sg} (hr : r = (some (.int rr), S M)) : RN P 1 kX9_joyOfRow 0 [(0, .ref 173), (1, .int x1), (2, .ref 2)] [] (S M) r := by
  unfold fY_joyOfRow at h
  refine sb_in [(0, .bipush (-10), 2), (2, .istore_n 3, 1), (3, .iconst (-1), 1), (4, .istore 4, 2), (6, .iconst 0, 1), (7, .istore 5, 2)] 9 (by decide +kernel) ?_
  refine sb_bipush cBm10 ?_
  refine sb_istore_n (by decide) rfl ?_
  refine sb_iconst cIm1 ?_
  refine sb_istore (by decide) rfl ?_
  refine sb_iconst cI0 ?_
  refine sb_istore (by decide) rfl ?_
  refine sb_end ?_
  obtain ⟨e9, hl9, h⟩ := bd h
  refine rn_sub [1, 2, 3, 4, 5] rfl ?_
  refine lp_ind (P := fun s => RN P 1 kX9_joyOfRow 9 [(1, .int x1), (2, .ref 2), (3, .int s.1), (4, .int s.2.1), (5, .int s.2.2)] [] (S M) r) (E := fun p => RN P 1 kX9_joyOfRow 71 [(1, .int x1), (3, .int p.1), (4, .int p.2)] [] (S M) r) ?_ _ _ _ hl9 ?_
  · intro s qx h hc
    obtain ⟨x3, x4, x5⟩ := s
    replace h : fY_joyOfRow_b9 x1 M x3 x4 x5 = some qx := h
    show RN P 1 kX9_joyOfRow 9 [(1, .int x1), (2, .ref 2), (3, .int x3), (4, .int x4), (5, .int x5)] [] (S M) r
    unfold fY_joyOfRow_b9 at h
    refine sb_in [(9, .iload 5, 2), (11, .aload_n 2, 1), (12, .getfield 27, 3), (15, .if_icmp .ge 56, 3)] 18 (by decide +kernel) ?_
    refine sb_iload rfl ?_
    refine sb_aload_n rfl ?_
    refine ss_getI g9_27 h2 ?_
    rcases ife h with ⟨cz7, h⟩ | ⟨cz7, h⟩
    · refine sb_icmp_ge_t 71 cz7 (by decide) ?_
      cases h
      exact rn_sub [1, 3, 4] rfl hc
    · refine sb_icmp_ge_f 71 cz7 (by decide) ?_
      refine sb_in [(18, .iconst 0, 1), (19, .istore 6, 2), (21, .iload 5, 2), (23, .istore 7, 2)] 25 (by decide +kernel) ?_
      refine sb_iconst cI0 ?_
      refine sb_istore (by decide) rfl ?_
      refine sb_iload rfl ?_
      refine sb_istore (by decide) rfl ?_
      refine sb_end ?_
      obtain ⟨e25, hl25, h⟩ := bd h
      refine rn_sub [1, 2, 3, 4, 5, 6, 7] rfl ?_
      refine lp_ind (P := fun s => RN P 1 kX9_joyOfRow 25 [(1, .int x1), (2, .ref 2), (3, .int s.1), (4, .int s.2.1), (5, .int x5), (6, .int s.2.2.1), (7, .int s.2.2.2)] [] (S M) r) (E := fun p => RN P 1 kX9_joyOfRow 65 [(1, .int x1), (2, .ref 2), (3, .int p.1), (4, .int p.2), (5, .int x5)] [] (S M) r) ?_ _ _ _ hl25 ?_
      · intro s qx h hc
        obtain ⟨x3, x4, x6, x7⟩ := s
        replace h : fY_joyOfRow_b25 x1 x5 M x3 x4 x6 x7 = some qx := h
        show RN P 1 kX9_joyOfRow 25 [(1, .int x1), (2, .ref 2), (3, .int x3), (4, .int x4), (5, .int x5), (6, .int x6), (7, .int x7)] [] (S M) r
        unfold fY_joyOfRow_b25 at h
        refine sb_in [(25, .iload 7, 2), (27, .aload_n 2, 1), (28, .getfield 27, 3), (31, .if_icmp .ge 34, 3)] 34 (by decide +kernel) ?_
        refine sb_iload rfl ?_
        refine sb_aload_n rfl ?_
        refine ss_getI g9_27 h2 ?_
        rcases ife h with ⟨cz8, h⟩ | ⟨cz8, h⟩
        · refine sb_icmp_ge_t 65 cz8 (by decide) ?_
          cases h
          exact rn_sub [1, 2, 3, 4, 5] rfl hc
        · refine sb_icmp_ge_f 65 cz8 (by decide) ?_
          refine sb_in [(34, .iload 6, 2), (36, .aload_n 2, 1), (37, .getfield 89, 3), (40, .iload 7, 2), (42, .iaload, 1), (43, .iadd, 1), (44, .istore 6, 2), (46, .iload 6, 2), (48, .iload_n 3, 1), (49, .if_icmp .le 10, 3)] 52 (by decide +kernel) ?_
          refine sb_iload rfl ?_
          refine sb_aload_n rfl ?_
          refine ss_getR g9_89 h2 r2_1 ?_
          refine sb_iload rfl ?_
          obtain ⟨hgz1, h⟩ := gd h
          refine ss_iald h3 hgz1 ?_
          refine sb_iadd ?_
          refine sb_istore (by decide) rfl ?_
          refine sb_iload rfl ?_
          refine sb_iload_n rfl ?_
          have hJ59 : RN P 1 kX9_joyOfRow 59 [(1, .int x1), (2, .ref 2), (3, .int (if ((x6 + (M 3 (jix x7)))) ≤ x3 then x3 else ((x6 + (M 3 (jix x7)))))), (4, .int (if ((x6 + (M 3 (jix x7)))) ≤ x3 then x4 else x5)), (5, .int x5), (6, .int ((x6 + (M 3 (jix x7))))), (7, .int x7)] [] (S M) r := by
            refine sb_in [(59, .iinc 7 1, 3), (62, .goto (-37), 3)] 65 (by decide +kernel) ?_
            refine ss_iinc cI1 rfl (by decide) rfl ?_
            refine sb_goto 25 (by decide) ?_
            cases h
            exact rn_sub [1, 2, 3, 4, 5, 6, 7] rfl hc
          rcases Decidable.em (((x6 + (M 3 (jix x7)))) ≤ x3) with cz9 | cz9
          · refine sb_icmp_le_t 59 cz9 (by decide) ?_
            have hq := hJ59
            simp only [if_pos cz9] at hq
            exact rn_sub [1, 2, 3, 4, 5, 6, 7] rfl hq
          · refine sb_icmp_le_f 59 cz9 (by decide) ?_
            refine sb_in [(52, .iload 6, 2), (54, .istore_n 3, 1), (55, .iload 5, 2), (57, .istore 4, 2)] 59 (by decide +kernel) ?_
            refine sb_iload rfl ?_
            refine sb_istore_n (by decide) rfl ?_
            refine sb_iload rfl ?_
            refine sb_istore (by decide) rfl ?_
            refine sb_end ?_
            have hq := hJ59
            simp only [if_neg cz9] at hq
            exact rn_sub [1, 2, 3, 4, 5, 6, 7] rfl hq
      · clear hl25
        obtain ⟨yz3, yz4⟩ := e25
        show RN P 1 kX9_joyOfRow 65 [(1, .int x1), (2, .ref 2), (3, .int yz3), (4, .int yz4), (5, .int x5)] [] (S M) r
        refine sb_in [(65, .iinc 5 1, 3), (68, .goto (-59), 3)] 71 (by decide +kernel) ?_
        refine ss_iinc cI1 rfl (by decide) rfl ?_
        refine sb_goto 9 (by decide) ?_
        cases h
        exact rn_sub [1, 2, 3, 4, 5] rfl hc
  · clear hl9
    obtain ⟨yz5, yz6⟩ := e9
    show RN P 1 kX9_joyOfRow 71 [(1, .int x1), (3, .int yz5), (4, .int yz6)] [] (S M) r
    refine sb_in [(71, .iload_n 1, 1), (72, .ifCond .eq 8, 3)] 75 (by decide +kernel) ?_
    refine sb_iload_n rfl ?_
    rcases ife h with ⟨cz10, h⟩ | ⟨cz10, h⟩
    · refine sb_if_eq_t 80 cz10 (by decide) ?_
      refine sb_in [(80, .iload_n 3, 1)] 81 (by decide +kernel) ?_
      refine sb_iload_n rfl ?_
      refine sb_end ?_
      refine sb_in [(81, .ireturn, 1)] 82 (by decide +kernel) ?_
      cases h
      subst hr
      refine sb_ireturn ?_
      exact ⟨.int, rfl, rfl⟩
    · refine sb_if_eq_f 80 cz10 (by decide) ?_
      refine sb_in [(75, .iload 4, 2), (77, .goto 4, 3)] 80 (by decide +kernel) ?_
      refine sb_iload rfl ?_
      refine sb_goto 81 (by decide) ?_
      refine sb_in [(81, .ireturn, 1)] 82 (by decide +kernel) ?_
      cases h
      subst hr
      refine sb_ireturn ?_
      exact ⟨.int, rfl, rfl⟩
theorem tfY_joyOfRow {P : Px} {x1 : Int32} {M : Mm} {rr : Int32} (h : fY_joyOfRow x1 M = some rr) : EX P 1 kX9_joyOfRow [.ref 173, .int x1, .ref 2] (S M) (some (.int rr), S M) := ex_of oX9_joyOfRow (Nat.le_of_ble_eq_true rfl) (nfY_joyOfRow  h rfl)
set_option maxRecDepth 20000 in
theorem nfK_joy {P : Px} {x1 : Int32} {M : Mm} {rr : Int32} (h : fK_joy x1 M = some rr) {r : Option Value × Sg} (hr : r = (some (.int rr), S M)) : RN P 2 kX11_joy 0 [(0, .ref 0), (1, .int x1)] [] (S M) r := by
  unfold fK_joy at h
  refine sb_in [(0, .aload_n 0, 1), (1, .getfield 16, 3), (4, .getfield 95, 3), (7, .getfield 99, 3), (10, .ifCond .eq 12, 3)] 13 (by decide +kernel) ?_
  refine sb_aload_n rfl ?_
  refine ss_getR g11_16 h0 r0_0 ?_
  refine ss_getR g11_95 h1 r1_0 ?_
  refine ss_getI g11_99 h2 ?_
  rcases ife h with ⟨cz4, h⟩ | ⟨cz4, h⟩
  · refine sb_if_eq_t 22 cz4 (by decide) ?_
    refine sb_in [(22, .bipush (-100), 2), (24, .ireturn, 1)] 25 (by decide +kernel) ?_
    refine sb_bipush cBm100 ?_
    cases h
    subst hr
    refine sb_ireturn ?_
    exact ⟨.int, rfl, rfl⟩
  · refine sb_if_eq_f 22 cz4 (by decide) ?_
    refine sb_in [(13, .iload_n 1, 1), (14, .iconst 0, 1), (15, .iconst 1, 1), (16, .invokestatic 91, 3), (19, .ifCond .ne 6, 3)] 22 (by decide +kernel) ?_
    refine sb_iload_n rfl ?_
    refine sb_iconst cI0 ?_
    refine sb_iconst cI1 ?_
    refine sb_callSi 3 rfl oX11_isWithin ln11_91 vX11_isWithin (rnCk_of (by decide +kernel) rfl) (tfK_isWithin) ?_
    rcases ife h with ⟨cz5, h⟩ | ⟨cz5, h⟩
    · refine sb_if_ne_f 25 cz5 (by decide) ?_
      refine sb_in [(22, .bipush (-100), 2), (24, .ireturn, 1)] 25 (by decide +kernel) ?_
      refine sb_bipush cBm100 ?_
      cases h
      subst hr
      refine sb_ireturn ?_
      exact ⟨.int, rfl, rfl⟩
    · refine sb_if_ne_t 25 cz5 (by decide) ?_
      refine sb_in [(25, .aload_n 0, 1), (26, .getfield 59, 3), (29, .iload_n 1, 1), (30, .iconst 1, 1), (31, .if_icmp .ne 7, 3)] 34 (by decide +kernel) ?_
      refine sb_aload_n rfl ?_
      refine ss_getR g11_59 h0 r0_7 ?_
      refine sb_iload_n rfl ?_
      refine sb_iconst cI1 ?_
      have hJ39 : RN P 2 kX11_joy 39 [(0, .ref 0)] [.int (if x1 = 1 then (1 : Int32) else 0), .ref 173] (S M) r := by
        refine sb_in [(39, .aload_n 0, 1), (40, .getfield 16, 3), (43, .getfield 95, 3), (46, .invokevirtual 323, 3), (49, .ireturn, 1)] 50 (by decide +kernel) ?_
        refine sb_aload_n rfl ?_
        refine ss_getR g11_16 h0 r0_0 ?_
        refine ss_getR g11_95 h1 r1_0 ?_
        obtain ⟨qz3, hez2, h⟩ := bd h
        refine sb_callVi 2 rfl oX9_joyOfRow ln11_323 vX9_joyOfRow (rc_own h173.1 (S_lt h173.2) (by decide)) (rnCk_of (by decide +kernel) rfl) (tfY_joyOfRow hez2) ?_
        cases h
        subst hr
        refine sb_ireturn ?_
        exact ⟨.int, rfl, rfl⟩
      rcases Decidable.em (x1 = 1) with cz6 | cz6
      · refine sb_icmp_ne_f 38 cz6 (by decide) ?_
        refine sb_in [(34, .iconst 1, 1), (35, .goto 4, 3)] 38 (by decide +kernel) ?_
        refine sb_iconst cI1 ?_
        refine sb_goto 39 (by decide) ?_
        have hq := hJ39
        simp only [if_pos cz6] at hq
        exact rn_sub [0] rfl hq
      · refine sb_icmp_ne_t 38 cz6 (by decide) ?_
        refine sb_in [(38, .iconst 0, 1)] 39 (by decide +kernel) ?_
        refine sb_iconst cI0 ?_
        refine sb_end ?_
        have hq := hJ39
        simp only [if_neg cz6] at hq
        exact rn_sub [0] rfl hq
theorem tfK_joy {P : Px} {x1 : Int32} {M : Mm} {rr : Int32} (h : fK_joy x1 M = some rr) : EX P 2 kX11_joy [.ref 0, .int x1] (S M) (some (.int rr), S M) := ex_of oX11_joy (Nat.le_of_ble_eq_true rfl) (nfK_joy  h rfl)
set_option maxRecDepth 20000 in
theorem nfY_goodMove {P : Px} {x1 : Int32} {M : Mm} {rr : (Int32 × Mm)} (h : fY_goodMove x1 M = some rr) {r : Option Value × Sg} (hr : r = (some (.int rr.1), S rr.2)) : RN P 2 kX9_goodMove 0 [(0, .ref 173), (1, .int x1), (2, .ref 1)] [] (S M) r := by
  unfold fY_goodMove at h
  refine sb_in [(0, .iconst 0, 1), (1, .istore_n 3, 1), (2, .iconst 0, 1), (3, .istore 4, 2)] 5 (by decide +kernel) ?_
  refine sb_iconst cI0 ?_
  refine sb_istore_n (by decide) rfl ?_
  refine sb_iconst cI0 ?_
  refine sb_istore (by decide) rfl ?_
  refine sb_end ?_
  obtain ⟨e5, hl5, h⟩ := bd h
  refine rn_sub [0, 1, 2, 3, 4] rfl ?_
  refine lp_ind (P := fun s => RN P 2 kX9_goodMove 5 [(0, .ref 173), (1, .int x1), (2, .ref 1), (3, .int s.1), (4, .int s.2.1)] [] (S s.2.2) r) (E := fun p => RN P 2 kX9_goodMove 51 [(0, .ref 173), (1, .int x1), (2, .ref 1), (3, .int p.1)] [] (S p.2) r) ?_ _ _ _ hl5 ?_
  · intro s qx h hc
    obtain ⟨x3, x4, M⟩ := s
    replace h : fY_goodMove_b5 x1 x3 x4 M = some qx := h
    show RN P 2 kX9_goodMove 5 [(0, .ref 173), (1, .int x1), (2, .ref 1), (3, .int x3), (4, .int x4)] [] (S M) r
    unfold fY_goodMove_b5 at h
    refine sb_in [(5, .iload 4, 2), (7, .aload_n 2, 1), (8, .getfield 21, 3), (11, .getfield 27, 3), (14, .if_icmp .ge 37, 3)] 17 (by decide +kernel) ?_
    refine sb_iload rfl ?_
    refine sb_aload_n rfl ?_
    refine ss_getR g9_21 h1 r1_0 ?_
    refine ss_getI g9_27 h2 ?_
    rcases ife h with ⟨cz15, h⟩ | ⟨cz15, h⟩
    · refine sb_icmp_ge_t 51 cz15 (by decide) ?_
      cases h
      exact rn_sub [0, 1, 2, 3] rfl hc
    · refine sb_icmp_ge_f 51 cz15 (by decide) ?_
      refine sb_in [(17, .aload_n 0, 1), (18, .getfield 18, 3), (21, .iload 4, 2), (23, .aload_n 2, 1), (24, .getfield 33, 3), (27, .iload 4, 2), (29, .invokevirtual 37, 3), (32, .iastore, 1), (33, .iload_n 3, 1), (34, .aload_n 0, 1), (35, .getfield 18, 3), (38, .iload 4, 2), (40, .iaload, 1), (41, .iconst 3, 1), (42, .irem, 1), (43, .ixor, 1), (44, .istore_n 3, 1), (45, .iinc 4 1, 3), (48, .goto (-43), 3)] 51 (by decide +kernel) ?_
      refine sb_aload_n rfl ?_
      refine ss_getR g9_18 h173 r173_2 ?_
      refine sb_iload rfl ?_
      refine sb_aload_n rfl ?_
      refine ss_getR g9_33 h1 r1_1 ?_
      refine sb_iload rfl ?_
      obtain ⟨qz2, hez1, h⟩ := bd h
      refine sb_callVi 1 rfl oX0_countFor ln9_37 vX0_countFor (rc_own h8.1 (S_lt h8.2) (by decide)) (rnCk_of (by decide +kernel) rfl) (tfB_countFor lBg8 hez1) ?_
      obtain ⟨hgz4, h⟩ := gd h
      refine ss_iast h176 (by decide) hgz4 ?_
      refine sb_iload_n rfl ?_
      refine sb_aload_n rfl ?_
      refine ss_getR g9_18 h173 r173_2 ?_
      refine sb_iload rfl ?_
      obtain ⟨hgz5, h⟩ := gd h
      refine ss_iald h176 hgz5 ?_
      refine sb_iconst cI3 ?_
      refine sb_irem (by decide) ?_
      refine sb_ixor ?_
      refine sb_istore_n (by decide) rfl ?_
      refine ss_iinc cI1 rfl (by decide) rfl ?_
      refine sb_goto 5 (by decide) ?_
      cases h
      exact rn_sub [0, 1, 2, 3, 4] rfl hc
  · clear hl5
    obtain ⟨yz7, Mz8⟩ := e5
    show RN P 2 kX9_goodMove 51 [(0, .ref 173), (1, .int x1), (2, .ref 1), (3, .int yz7)] [] (S Mz8) r
    refine sb_in [(51, .iconst 0, 1), (52, .istore 4, 2)] 54 (by decide +kernel) ?_
    refine sb_iconst cI0 ?_
    refine sb_istore (by decide) rfl ?_
    refine sb_end ?_
    obtain ⟨e54, hl54, h⟩ := bd h
    refine rn_sub [0, 1, 2, 3, 4] rfl ?_
    refine lp_ind (P := fun s => RN P 2 kX9_goodMove 54 [(0, .ref 173), (1, .int x1), (2, .ref 1), (3, .int yz7), (4, .int s)] [] (S Mz8) r) (E := fun e => match e with | Sum.inl p => RN P 2 kX9_goodMove 112 [(1, .int x1), (4, .int p.1), (5, .int p.2)] [] (S Mz8) r | Sum.inr p => RN P 2 kX9_goodMove 136 [] [] (S Mz8) r) ?_ _ _ _ hl54 ?_
    · intro x4 qx h hc
      replace h : fY_goodMove_b54 x1 yz7 Mz8 x4 = some qx := h
      show RN P 2 kX9_goodMove 54 [(0, .ref 173), (1, .int x1), (2, .ref 1), (3, .int yz7), (4, .int x4)] [] (S Mz8) r
      generalize yz7 = x3 at h hc ⊢
      generalize Mz8 = M at h hc ⊢
      unfold fY_goodMove_b54 at h
      refine sb_in [(54, .iload 4, 2), (56, .aload_n 2, 1), (57, .getfield 21, 3), (60, .getfield 27, 3), (63, .if_icmp .ge 73, 3)] 66 (by decide +kernel) ?_
      refine sb_iload rfl ?_
      refine sb_aload_n rfl ?_
      refine ss_getR g9_21 h1 r1_0 ?_
      refine ss_getI g9_27 h2 ?_
      rcases ife h with ⟨cz16, h⟩ | ⟨cz16, h⟩
      · refine sb_icmp_ge_t 136 cz16 (by decide) ?_
        cases h
        exact rn_sub [] rfl hc
      · refine sb_icmp_ge_f 136 cz16 (by decide) ?_
        refine sb_in [(66, .iconst 1, 1), (67, .istore 5, 2)] 69 (by decide +kernel) ?_
        refine sb_iconst cI1 ?_
        refine sb_istore (by decide) rfl ?_
        refine sb_end ?_
        obtain ⟨e69, hl69, h⟩ := bd h
        refine rn_sub [0, 1, 2, 3, 4, 5] rfl ?_
        refine lp_ind (P := fun s => RN P 2 kX9_goodMove 69 [(0, .ref 173), (1, .int x1), (2, .ref 1), (3, .int x3), (4, .int x4), (5, .int s)] [] (S M) r) (E := fun e => match e with | Sum.inl p => RN P 2 kX9_goodMove 112 [(1, .int x1), (4, .int x4), (5, .int p)] [] (S M) r | Sum.inr p => RN P 2 kX9_goodMove 130 [(0, .ref 173), (1, .int x1), (2, .ref 1), (3, .int x3), (4, .int x4)] [] (S M) r) ?_ _ _ _ hl69 ?_
        · intro x5 qx h hc
          replace h : fY_goodMove_b69 x1 x3 x4 M x5 = some qx := h
          show RN P 2 kX9_goodMove 69 [(0, .ref 173), (1, .int x1), (2, .ref 1), (3, .int x3), (4, .int x4), (5, .int x5)] [] (S M) r
          unfold fY_goodMove_b69 at h
          refine sb_in [(69, .iload 5, 2), (71, .iconst 2, 1), (72, .aload_n 0, 1), (73, .getfield 18, 3), (76, .iload 4, 2), (78, .iaload, 1), (79, .invokestatic 72, 3), (82, .if_icmp .gt 48, 3)] 85 (by decide +kernel) ?_
          refine sb_iload rfl ?_
          refine sb_iconst cI2 ?_
          refine sb_aload_n rfl ?_
          refine ss_getR g9_18 h173 r173_2 ?_
          refine sb_iload rfl ?_
          obtain ⟨hgz9, h⟩ := gd h
          refine ss_iald h176 hgz9 ?_
          refine sb_min lm9_72 minS maI minC (by decide) rfl ?_
          rcases ife h with ⟨cz17, h⟩ | ⟨cz17, h⟩
          · refine sb_icmp_gt_t 130 cz17 (by decide) ?_
            cases h
            exact rn_sub [0, 1, 2, 3, 4] rfl hc
          · refine sb_icmp_gt_f 130 cz17 (by decide) ?_
            refine sb_in [(85, .iload_n 3, 1), (86, .aload_n 0, 1), (87, .getfield 18, 3), (90, .iload 4, 2), (92, .iaload, 1), (93, .iconst 3, 1), (94, .irem, 1), (95, .ixor, 1), (96, .aload_n 0, 1), (97, .getfield 18, 3), (100, .iload 4, 2), (102, .iaload, 1), (103, .iload 5, 2), (105, .isub, 1), (106, .iconst 3, 1), (107, .irem, 1), (108, .ixor, 1), (109, .ifCond .ne 15, 3)] 112 (by decide +kernel) ?_
            refine sb_iload_n rfl ?_
            refine sb_aload_n rfl ?_
            refine ss_getR g9_18 h173 r173_2 ?_
            refine sb_iload rfl ?_
            obtain ⟨hgz10, h⟩ := gd h
            refine ss_iald h176 hgz10 ?_
            refine sb_iconst cI3 ?_
            refine sb_irem (by decide) ?_
            refine sb_ixor ?_
            refine sb_aload_n rfl ?_
            refine ss_getR g9_18 h173 r173_2 ?_
            refine sb_iload rfl ?_
            obtain ⟨hgz11, h⟩ := gd h
            refine ss_iald h176 hgz11 ?_
            refine sb_iload rfl ?_
            refine sb_isub ?_
            refine sb_iconst cI3 ?_
            refine sb_irem (by decide) ?_
            refine sb_ixor ?_
            rcases ife h with ⟨cz18, h⟩ | ⟨cz18, h⟩
            · refine sb_if_ne_f 124 cz18 (by decide) ?_
              cases h
              exact rn_sub [1, 4, 5] rfl hc
            · refine sb_if_ne_t 124 cz18 (by decide) ?_
              refine sb_in [(124, .iinc 5 1, 3), (127, .goto (-58), 3)] 130 (by decide +kernel) ?_
              refine ss_iinc cI1 rfl (by decide) rfl ?_
              refine sb_goto 69 (by decide) ?_
              cases h
              exact rn_sub [0, 1, 2, 3, 4, 5] rfl hc
        · clear hl69
          rcases e69 with e69 | e69
          · skip
            obtain ⟨yz12, hey⟩ : ∃ z, z = e69 := ⟨_, rfl⟩
            subst hey
            show RN P 2 kX9_goodMove 112 [(1, .int x1), (4, .int x4), (5, .int yz12)] [] (S M) r
            cases h
            exact rn_sub [1, 4, 5] rfl hc
          · skip
            show RN P 2 kX9_goodMove 130 [(0, .ref 173), (1, .int x1), (2, .ref 1), (3, .int x3), (4, .int x4)] [] (S M) r
            refine sb_in [(130, .iinc 4 1, 3), (133, .goto (-79), 3)] 136 (by decide +kernel) ?_
            refine ss_iinc cI1 rfl (by decide) rfl ?_
            refine sb_goto 54 (by decide) ?_
            cases h
            exact rn_sub [0, 1, 2, 3, 4] rfl hc
    · clear hl54
      rcases e54 with e54 | e54
      · skip
        obtain ⟨yz13, yz14⟩ := e54
        show RN P 2 kX9_goodMove 112 [(1, .int x1), (4, .int yz13), (5, .int yz14)] [] (S Mz8) r
        refine sb_in [(112, .iload_n 1, 1), (113, .ifCond .eq 8, 3)] 116 (by decide +kernel) ?_
        refine sb_iload_n rfl ?_
        rcases ife h with ⟨cz19, h⟩ | ⟨cz19, h⟩
        · refine sb_if_eq_t 121 cz19 (by decide) ?_
          refine sb_in [(121, .iload 4, 2)] 123 (by decide +kernel) ?_
          refine sb_iload rfl ?_
          refine sb_end ?_
          refine sb_in [(123, .ireturn, 1)] 124 (by decide +kernel) ?_
          cases h
          subst hr
          refine sb_ireturn ?_
          exact ⟨.int, rfl, rfl⟩
        · refine sb_if_eq_f 121 cz19 (by decide) ?_
          refine sb_in [(116, .iload 5, 2), (118, .goto 5, 3)] 121 (by decide +kernel) ?_
          refine sb_iload rfl ?_
          refine sb_goto 123 (by decide) ?_
          refine sb_in [(123, .ireturn, 1)] 124 (by decide +kernel) ?_
          cases h
          subst hr
          refine sb_ireturn ?_
          exact ⟨.int, rfl, rfl⟩
      · skip
        show RN P 2 kX9_goodMove 136 [] [] (S Mz8) r
        refine sb_in [(136, .iconst (-1), 1), (137, .ireturn, 1)] 138 (by decide +kernel) ?_
        refine sb_iconst cIm1 ?_
        cases h
        subst hr
        refine sb_ireturn ?_
        exact ⟨.int, rfl, rfl⟩
theorem tfY_goodMove {P : Px} {x1 : Int32} {M : Mm} {rr : (Int32 × Mm)} (h : fY_goodMove x1 M = some rr) : EX P 2 kX9_goodMove [.ref 173, .int x1, .ref 1] (S M) (some (.int rr.1), S rr.2) := ex_of oX9_goodMove (Nat.le_of_ble_eq_true rfl) (nfY_goodMove  h rfl)
set_option maxRecDepth 20000 in
theorem nfK_game {P : Px} {x1 : Int32} {M : Mm} {rr : (Int32 × Mm)} (h : fK_game x1 M = some rr) {r : Option Value × Sg} (hr : r = (some (.int rr.1), S rr.2)) : RN P 3 kX11_game 0 [(0, .ref 0), (1, .int x1)] [] (S M) r := by
  unfold fK_game at h
  refine sb_in [(0, .iload_n 1, 1), (1, .iconst 0, 1), (2, .iconst 1, 1), (3, .invokestatic 91, 3), (6, .ifCond .eq 27, 3)] 9 (by decide +kernel) ?_
  refine sb_iload_n rfl ?_
  refine sb_iconst cI0 ?_
  refine sb_iconst cI1 ?_
  refine sb_callSi 3 rfl oX11_isWithin ln11_91 vX11_isWithin (rnCk_of (by decide +kernel) rfl) (tfK_isWithin) ?_
  rcases ife h with ⟨cz4, h⟩ | ⟨cz4, h⟩
  · refine sb_if_eq_t 33 cz4 (by decide) ?_
    refine sb_in [(33, .iconst (-1), 1)] 34 (by decide +kernel) ?_
    refine sb_iconst cIm1 ?_
    refine sb_end ?_
    refine sb_in [(34, .ireturn, 1)] 35 (by decide +kernel) ?_
    cases h
    subst hr
    refine sb_ireturn ?_
    exact ⟨.int, rfl, rfl⟩
  · refine sb_if_eq_f 33 cz4 (by decide) ?_
    refine sb_in [(9, .aload_n 0, 1), (10, .getfield 59, 3), (13, .iload_n 1, 1), (14, .iconst 1, 1), (15, .if_icmp .ne 7, 3)] 18 (by decide +kernel) ?_
    refine sb_aload_n rfl ?_
    refine ss_getR g11_59 h0 r0_7 ?_
    refine sb_iload_n rfl ?_
    refine sb_iconst cI1 ?_
    have hJ23 : RN P 3 kX11_game 23 [(0, .ref 0)] [.int (if x1 = 1 then (1 : Int32) else 0), .ref 173] (S M) r := by
      refine sb_in [(23, .aload_n 0, 1), (24, .getfield 16, 3), (27, .invokevirtual 327, 3), (30, .goto 4, 3)] 33 (by decide +kernel) ?_
      refine sb_aload_n rfl ?_
      refine ss_getR g11_16 h0 r0_0 ?_
      obtain ⟨qz3, hez2, h⟩ := bd h
      refine sb_callVi 2 rfl oX9_goodMove ln11_327 vX9_goodMove (rc_own h173.1 (S_lt h173.2) (by decide)) (rnCk_of (by decide +kernel) rfl) (tfY_goodMove hez2) ?_
      refine sb_goto 34 (by decide) ?_
      refine sb_in [(34, .ireturn, 1)] 35 (by decide +kernel) ?_
      cases h
      subst hr
      refine sb_ireturn ?_
      exact ⟨.int, rfl, rfl⟩
    rcases Decidable.em (x1 = 1) with cz5 | cz5
    · refine sb_icmp_ne_f 22 cz5 (by decide) ?_
      refine sb_in [(18, .iconst 1, 1), (19, .goto 4, 3)] 22 (by decide +kernel) ?_
      refine sb_iconst cI1 ?_
      refine sb_goto 23 (by decide) ?_
      have hq := hJ23
      simp only [if_pos cz5] at hq
      exact rn_sub [0] rfl hq
    · refine sb_icmp_ne_t 22 cz5 (by decide) ?_
      refine sb_in [(22, .iconst 0, 1)] 23 (by decide +kernel) ?_
      refine sb_iconst cI0 ?_
      refine sb_end ?_
      have hq := hJ23
      simp only [if_neg cz5] at hq
      exact rn_sub [0] rfl hq
theorem tfK_game {P : Px} {x1 : Int32} {M : Mm} {rr : (Int32 × Mm)} (h : fK_game x1 M = some rr) : EX P 3 kX11_game [.ref 0, .int x1] (S M) (some (.int rr.1), S rr.2) := ex_of oX11_game (Nat.le_of_ble_eq_true rfl) (nfK_game  h rfl)
set_option maxRecDepth 20000 in
theorem nfP_goBack {P : Px} {M : Mm} {rr : (Int32 × Mm)} (h : fP_goBack M = some rr) {r : Option Value × Sg} (hr : r = (some (.int rr.1), S rr.2)) : RN P 3 kX4_goBack 0 [(0, .ref 31), (1, .ref 1)] [] (S M) r := by
  unfold fP_goBack at h
  refine sb_in [(0, .aload_n 0, 1), (1, .getfield 26, 3), (4, .ifCond .ne 5, 3)] 7 (by decide +kernel) ?_
  refine sb_aload_n rfl ?_
  refine ss_getI g4_26 h31 ?_
  rcases ife h with ⟨cz6, h⟩ | ⟨cz6, h⟩
  · refine sb_if_ne_f 9 cz6 (by decide) ?_
    refine sb_in [(7, .iconst 0, 1), (8, .ireturn, 1)] 9 (by decide +kernel) ?_
    refine sb_iconst cI0 ?_
    cases h
    subst hr
    refine sb_ireturn ?_
    exact ⟨.boolean, rfl, by decide⟩
  · refine sb_if_ne_t 9 cz6 (by decide) ?_
    refine sb_in [(9, .aload_n 1, 1), (10, .aload_n 0, 1), (11, .getfield 11, 3), (14, .aload_n 0, 1), (15, .getfield 18, 3), (18, .aaload, 1), (19, .invokevirtual 22, 3), (22, .aload_n 0, 1), (23, .aload_n 0, 1), (24, .getfield 18, 3), (27, .bipush 6, 2), (29, .iadd, 1), (30, .iconst 1, 1), (31, .isub, 1), (32, .bipush 6, 2), (34, .irem, 1), (35, .putfield 18, 3), (38, .aload_n 0, 1), (39, .dup, 1), (40, .getfield 26, 3), (43, .iconst 1, 1), (44, .isub, 1), (45, .putfield 26, 3), (48, .iconst 1, 1), (49, .ireturn, 1)] 50 (by decide +kernel) ?_
    refine sb_aload_n rfl ?_
    refine sb_aload_n rfl ?_
    refine ss_getR g4_11 h31 r31_2 ?_
    refine sb_aload_n rfl ?_
    refine ss_getI g4_18 h31 ?_
    obtain ⟨hgz1, h⟩ := gd h
    refine ss_kept hgz1 ?_
    obtain ⟨Mz3, hez2, h⟩ := bd h
    refine sb_callVv 1 rfl oX10_copyFrom ln4_22 vX10_copyFrom (rc_own h1.1 (S_lt h1.2) (by decide)) (rnCk_of (by decide +kernel) rfl) (tfW_copyFrom lWd1 (kept_wd hgz1) hez2) ?_
    refine sb_aload_n rfl ?_
    refine sb_aload_n rfl ?_
    refine ss_getI g4_18 h31 ?_
    refine sb_bipush cB6 ?_
    refine sb_iadd ?_
    refine sb_iconst cI1 ?_
    refine sb_isub ?_
    refine sb_bipush cB6 ?_
    refine sb_irem (by decide) ?_
    refine ss_putI p4_18 h31 (by decide) ?_
    refine sb_aload_n rfl ?_
    refine sb_dup rfl ?_
    refine ss_getI g4_26 h31 ?_
    refine sb_iconst cI1 ?_
    refine sb_isub ?_
    refine ss_putI p4_26 h31 (by decide) ?_
    refine sb_iconst cI1 ?_
    cases h
    subst hr
    refine sb_ireturn ?_
    exact ⟨.boolean, rfl, by decide⟩
theorem tfP_goBack {P : Px} {M : Mm} {rr : (Int32 × Mm)} (h : fP_goBack M = some rr) : EX P 3 kX4_goBack [.ref 31, .ref 1] (S M) (some (.int rr.1), S rr.2) := ex_of oX4_goBack (Nat.le_of_ble_eq_true rfl) (nfP_goBack  h rfl)
set_option maxRecDepth 20000 in
theorem nfK_undo {P : Px} {M : Mm} {rr : (Int32 × Mm)} (h : fK_undo M = some rr) {r : Option Value × Sg} (hr : r = (some (.int rr.1), S rr.2)) : RN P 4 kX11_undo 0 [(0, .ref 0)] [] (S M) r := by
  unfold fK_undo at h
  refine sb_in [(0, .aload_n 0, 1), (1, .getfield 26, 3), (4, .aload_n 0, 1), (5, .getfield 16, 3), (8, .invokevirtual 331, 3), (11, .ireturn, 1)] 12 (by decide +kernel) ?_
  refine sb_aload_n rfl ?_
  refine ss_getR g11_26 h0 r0_2 ?_
  refine sb_aload_n rfl ?_
  refine ss_getR g11_16 h0 r0_0 ?_
  obtain ⟨qz2, hez1, h⟩ := bd h
  refine sb_callVi 1 rfl oX4_goBack ln11_331 vX4_goBack (rc_own h31.1 (S_lt h31.2) (by decide)) (rnCk_of (by decide +kernel) rfl) (tfP_goBack hez1) ?_
  obtain ⟨hgz3, h⟩ := gd h
  cases h
  subst hr
  refine sb_ireturn ?_
  exact ⟨.boolean, rfl, rn_nz hgz3⟩
theorem tfK_undo {P : Px} {M : Mm} {rr : (Int32 × Mm)} (h : fK_undo M = some rr) : EX P 4 kX11_undo [.ref 0] (S M) (some (.int rr.1), S rr.2) := ex_of oX11_undo (Nat.le_of_ble_eq_true rfl) (nfK_undo  h rfl)
set_option maxRecDepth 20000 in
theorem nfT_copyFrom {P : Px} {w : Nat} (hw : Tx w) {v : Nat} (hv : Tx v) {M : Mm} {rr : Mm} (h : fT_copyFrom w v M = some rr) {r : Option Value × Sg} (hr : r = (none, S rr)) : RN P 3 kX6_copyFrom 0 [(0, .ref w), (1, .ref v)] [] (S M) r := by
  unfold fT_copyFrom at h
  refine sb_in [(0, .iconst 0, 1), (1, .istore_n 2, 1)] 2 (by decide +kernel) ?_
  refine sb_iconst cI0 ?_
  refine sb_istore_n (by decide) rfl ?_
  refine sb_end ?_
  obtain ⟨e2, hl2, h⟩ := bd h
  refine rn_sub [0, 1, 2] rfl ?_
  refine lp_ind (P := fun s => RN P 3 kX6_copyFrom 2 [(0, .ref w), (1, .ref v), (2, .int s.1)] [] (S s.2) r) (E := fun p => RN P 3 kX6_copyFrom 19 [] [] (S p) r) ?_ _ _ _ hl2 ?_
  · intro s qx h hc
    obtain ⟨x2, M⟩ := s
    replace h : fT_copyFrom_b2 w v x2 M = some qx := h
    show RN P 3 kX6_copyFrom 2 [(0, .ref w), (1, .ref v), (2, .int x2)] [] (S M) r
    unfold fT_copyFrom_b2 at h
    refine sb_in [(2, .iload_n 2, 1), (3, .iconst 4, 1), (4, .if_icmp .ge 15, 3)] 7 (by decide +kernel) ?_
    refine sb_iload_n rfl ?_
    refine sb_iconst cI4 ?_
    rcases ife h with ⟨cz3, h⟩ | ⟨cz3, h⟩
    · refine sb_icmp_ge_t 19 cz3 (by decide) ?_
      cases h
      exact rn_sub [] rfl hc
    · refine sb_icmp_ge_f 19 cz3 (by decide) ?_
      refine sb_in [(7, .aload_n 0, 1), (8, .iload_n 2, 1), (9, .aload_n 1, 1), (10, .invokevirtual 59, 3), (13, .iinc 2 1, 3), (16, .goto (-14), 3)] 19 (by decide +kernel) ?_
      refine sb_aload_n rfl ?_
      refine sb_iload_n rfl ?_
      refine sb_aload_n rfl ?_
      refine sb_callVv 2 rfl oX6_copyOne ln6_59 vX6_copyOne (rc_own (hTx0 hw).1 (S_lt (hTx0 hw).2) (by decide)) (rnCk_of (by decide +kernel) rfl) (tfT_copyOne hw hv) ?_
      refine ss_iinc cI1 rfl (by decide) rfl ?_
      refine sb_goto 2 (by decide) ?_
      cases h
      exact rn_sub [0, 1, 2] rfl hc
  · clear hl2
    obtain ⟨Mz2, hey⟩ : ∃ z, z = e2 := ⟨_, rfl⟩
    subst hey
    show RN P 3 kX6_copyFrom 19 [] [] (S Mz2) r
    refine sb_in [(19, .return_, 1)] 20 (by decide +kernel) ?_
    cases h
    subst hr
    refine sb_return ?_
    exact rfl
theorem tfT_copyFrom {P : Px} {w : Nat} (hw : Tx w) {v : Nat} (hv : Tx v) {M : Mm} {rr : Mm} (h : fT_copyFrom w v M = some rr) : EX P 3 kX6_copyFrom [.ref w, .ref v] (S M) (none, S rr) := ex_of oX6_copyFrom (Nat.le_of_ble_eq_true rfl) (nfT_copyFrom hw hv h rfl)
set_option maxRecDepth 20000 in
theorem nfE_copyFrom {P : Px} {w : Nat} (hw : Td w) {v : Nat} (hv : Td v) {M : Mm} {rr : Mm} (h : fE_copyFrom w v M = rr) {r : Option Value × Sg} (hr : r = (none, S rr)) : RN P 1 kX8_copyFrom 0 [(0, .ref w), (1, .ref v)] [] (S M) r := by
  unfold fE_copyFrom at h
  refine sb_in [(0, .aload_n 0, 1), (1, .aload_n 1, 1), (2, .getfield 33, 3), (5, .putfield 33, 3), (8, .aload_n 1, 1), (9, .getfield 11, 3), (12, .iconst 0, 1), (13, .aload_n 0, 1), (14, .getfield 11, 3), (17, .iconst 0, 1), (18, .bipush 8, 2), (20, .invokestatic 63, 3), (23, .aload_n 0, 1), (24, .aload_n 1, 1), (25, .getfield 41, 3), (28, .putfield 41, 3), (31, .aload_n 1, 1), (32, .getfield 15, 3), (35, .iconst 0, 1), (36, .aload_n 0, 1), (37, .getfield 15, 3), (40, .iconst 0, 1), (41, .bipush 12, 2), (43, .invokestatic 63, 3), (46, .aload_n 1, 1), (47, .getfield 18, 3), (50, .iconst 0, 1), (51, .aload_n 0, 1), (52, .getfield 18, 3), (55, .iconst 0, 1), (56, .bipush 26, 2), (58, .invokestatic 63, 3), (61, .aload_n 0, 1), (62, .aload_n 1, 1), (63, .getfield 50, 3), (66, .putfield 50, 3), (69, .aload_n 1, 1), (70, .getfield 21, 3), (73, .iconst 0, 1), (74, .aload_n 0, 1), (75, .getfield 21, 3), (78, .iconst 0, 1), (79, .bipush 26, 2), (81, .invokestatic 63, 3), (84, .aload_n 0, 1), (85, .aload_n 1, 1), (86, .getfield 53, 3), (89, .putfield 53, 3), (92, .aload_n 1, 1), (93, .getfield 24, 3), (96, .iconst 0, 1), (97, .aload_n 0, 1), (98, .getfield 24, 3), (101, .iconst 0, 1), (102, .bipush 49, 2), (104, .invokestatic 63, 3), (107, .aload_n 0, 1), (108, .aload_n 1, 1), (109, .getfield 60, 3), (112, .putfield 60, 3), (115, .aload_n 1, 1), (116, .getfield 27, 3), (119, .iconst 0, 1), (120, .aload_n 0, 1), (121, .getfield 27, 3), (124, .iconst 0, 1), (125, .bipush 8, 2), (127, .invokestatic 63, 3), (130, .aload_n 1, 1), (131, .getfield 30, 3), (134, .iconst 0, 1), (135, .aload_n 0, 1), (136, .getfield 30, 3), (139, .iconst 0, 1), (140, .bipush 8, 2), (142, .invokestatic 63, 3), (145, .return_, 1)] 146 (by decide +kernel) ?_
  refine sb_aload_n rfl ?_
  refine sb_aload_n rfl ?_
  refine ss_getI g8_33 (hTd0 hv) ?_
  refine ss_putI p8_33 (hTd0 hw) (fun q => (nzTd hw) q.1) ?_
  refine sb_aload_n rfl ?_
  refine ss_getR g8_11 (hTd0 hv) (rTd1 hv) ?_
  refine sb_iconst cI0 ?_
  refine sb_aload_n rfl ?_
  refine ss_getR g8_11 (hTd0 hw) (rTd1 hw) ?_
  refine sb_iconst cI0 ?_
  refine sb_bipush cB8 ?_
  refine ss_copyL 8 lc8_63 acN acS acI (hTd1 hv) (hTd1 hw) (Nat.succ_ne_zero _) iL8 rfl rfl (by decide) rfl ?_
  refine sb_aload_n rfl ?_
  refine sb_aload_n rfl ?_
  refine ss_getI g8_41 (hTd0 hv) ?_
  refine ss_putI p8_41 (hTd0 hw) (fun q => (nzTd hw) q.1) ?_
  refine sb_aload_n rfl ?_
  refine ss_getR g8_15 (hTd0 hv) (rTd3 hv) ?_
  refine sb_iconst cI0 ?_
  refine sb_aload_n rfl ?_
  refine ss_getR g8_15 (hTd0 hw) (rTd3 hw) ?_
  refine sb_iconst cI0 ?_
  refine sb_bipush cB12 ?_
  refine ss_copyL 12 lc8_63 acN acS acI (hTd2 hv) (hTd2 hw) (Nat.succ_ne_zero _) iL12 rfl rfl (by decide) rfl ?_
  refine sb_aload_n rfl ?_
  refine ss_getR g8_18 (hTd0 hv) (rTd4 hv) ?_
  refine sb_iconst cI0 ?_
  refine sb_aload_n rfl ?_
  refine ss_getR g8_18 (hTd0 hw) (rTd4 hw) ?_
  refine sb_iconst cI0 ?_
  refine sb_bipush cB26 ?_
  refine ss_copyL 26 lc8_63 acN acS acI (hTd3 hv) (hTd3 hw) (Nat.succ_ne_zero _) iL26 rfl rfl (by decide) rfl ?_
  refine sb_aload_n rfl ?_
  refine sb_aload_n rfl ?_
  refine ss_getI g8_50 (hTd0 hv) ?_
  refine ss_putI p8_50 (hTd0 hw) (fun q => (nzTd hw) q.1) ?_
  refine sb_aload_n rfl ?_
  refine ss_getR g8_21 (hTd0 hv) (rTd6 hv) ?_
  refine sb_iconst cI0 ?_
  refine sb_aload_n rfl ?_
  refine ss_getR g8_21 (hTd0 hw) (rTd6 hw) ?_
  refine sb_iconst cI0 ?_
  refine sb_bipush cB26 ?_
  refine ss_copyL 26 lc8_63 acN acS acI (hTd4 hv) (hTd4 hw) (Nat.succ_ne_zero _) iL26 rfl rfl (by decide) rfl ?_
  refine sb_aload_n rfl ?_
  refine sb_aload_n rfl ?_
  refine ss_getI g8_53 (hTd0 hv) ?_
  refine ss_putI p8_53 (hTd0 hw) (fun q => (nzTd hw) q.1) ?_
  refine sb_aload_n rfl ?_
  refine ss_getR g8_24 (hTd0 hv) (rTd8 hv) ?_
  refine sb_iconst cI0 ?_
  refine sb_aload_n rfl ?_
  refine ss_getR g8_24 (hTd0 hw) (rTd8 hw) ?_
  refine sb_iconst cI0 ?_
  refine sb_bipush cB49 ?_
  refine ss_copyL 49 lc8_63 acN acS acI (hTd5 hv) (hTd5 hw) (Nat.succ_ne_zero _) iL49 rfl rfl (by decide) rfl ?_
  refine sb_aload_n rfl ?_
  refine sb_aload_n rfl ?_
  refine ss_getI g8_60 (hTd0 hv) ?_
  refine ss_putI p8_60 (hTd0 hw) (fun q => (nzTd hw) q.1) ?_
  refine sb_aload_n rfl ?_
  refine ss_getR g8_27 (hTd0 hv) (rTd10 hv) ?_
  refine sb_iconst cI0 ?_
  refine sb_aload_n rfl ?_
  refine ss_getR g8_27 (hTd0 hw) (rTd10 hw) ?_
  refine sb_iconst cI0 ?_
  refine sb_bipush cB8 ?_
  refine ss_copyL 8 lc8_63 acN acS acI (hTd6 hv) (hTd6 hw) (Nat.succ_ne_zero _) iL8 rfl rfl (by decide) rfl ?_
  refine sb_aload_n rfl ?_
  refine ss_getR g8_30 (hTd0 hv) (rTd11 hv) ?_
  refine sb_iconst cI0 ?_
  refine sb_aload_n rfl ?_
  refine ss_getR g8_30 (hTd0 hw) (rTd11 hw) ?_
  refine sb_iconst cI0 ?_
  refine sb_bipush cB8 ?_
  refine ss_copyL 8 lc8_63 acN acS acI (hTd7 hv) (hTd7 hw) (Nat.succ_ne_zero _) iL8 rfl rfl (by decide) rfl ?_
  subst h
  subst hr
  refine sb_return ?_
  exact rfl
theorem tfE_copyFrom {P : Px} {w : Nat} (hw : Td w) {v : Nat} (hv : Td v) {M : Mm} : EX P 1 kX8_copyFrom [.ref w, .ref v] (S M) (none, S (fE_copyFrom w v M)) := ex_of oX8_copyFrom (Nat.le_of_ble_eq_true rfl) (nfE_copyFrom hw hv rfl rfl)
set_option maxRecDepth 20000 in
theorem nfK_image {P : Px} {x1 : Int32} {M : Mm} {rr : (Int32 × Mm)} (h : fK_image x1 M = some rr) {r : Option Value × Sg} (hr : r = (some (.int rr.1), S rr.2)) : RN P 4 kX11_image 0 [(0, .ref 0), (1, .int x1)] [] (S M) r := by
  unfold fK_image at h
  refine sb_in [(0, .iload_n 1, 1), (1, .ifCond .eq 44, 3)] 4 (by decide +kernel) ?_
  refine sb_iload_n rfl ?_
  rcases ife h with ⟨cz16, h⟩ | ⟨cz16, h⟩
  · refine sb_if_eq_t 45 cz16 (by decide) ?_
    refine sb_in [(45, .aload_n 0, 1), (46, .getfield 341, 3), (49, .ifCond .eq 43, 3)] 52 (by decide +kernel) ?_
    refine sb_aload_n rfl ?_
    refine ss_getI g11_341 h0 ?_
    rcases ife h with ⟨cz17, h⟩ | ⟨cz17, h⟩
    · refine sb_if_eq_t 92 cz17 (by decide) ?_
      refine sb_in [(92, .aload_n 0, 1), (93, .getfield 341, 3), (96, .ireturn, 1)] 97 (by decide +kernel) ?_
      refine sb_aload_n rfl ?_
      refine ss_getI g11_341 h0 ?_
      obtain ⟨hgz1, h⟩ := gd h
      cases h
      subst hr
      refine sb_ireturn ?_
      exact ⟨.boolean, rfl, rn_nz hgz1⟩
    · refine sb_if_eq_f 92 cz17 (by decide) ?_
      refine sb_in [(52, .aload_n 0, 1), (53, .getfield 16, 3), (56, .aload_n 0, 1), (57, .getfield 71, 3), (60, .invokevirtual 241, 3), (63, .aload_n 0, 1), (64, .getfield 33, 3), (67, .aload_n 0, 1), (68, .getfield 74, 3), (71, .invokevirtual 335, 3), (74, .aload_n 0, 1), (75, .getfield 40, 3), (78, .aload_n 0, 1), (79, .getfield 77, 3), (82, .invokevirtual 338, 3), (85, .aload_n 0, 1), (86, .getfield 26, 3), (89, .invokevirtual 84, 3)] 92 (by decide +kernel) ?_
      refine sb_aload_n rfl ?_
      refine ss_getR g11_16 h0 r0_0 ?_
      refine sb_aload_n rfl ?_
      refine ss_getR g11_71 h0 r0_11 ?_
      obtain ⟨Mz3, hez2, h⟩ := bd h
      refine sb_callVv 1 rfl oX10_copyFrom ln11_241 vX10_copyFrom (rc_own h1.1 (S_lt h1.2) (by decide)) (rnCk_of (by decide +kernel) rfl) (tfW_copyFrom lWd1 lWd179 hez2) ?_
      refine sb_aload_n rfl ?_
      refine ss_getR g11_33 h0 r0_3 ?_
      refine sb_aload_n rfl ?_
      refine ss_getR g11_74 h0 r0_12 ?_
      obtain ⟨Mz5, hez4, h⟩ := bd h
      refine sb_callVv 1 rfl oX6_copyFrom ln11_335 vX6_copyFrom (rc_own h123.1 (S_lt h123.2) (by decide)) (rnCk_of (by decide +kernel) rfl) (tfT_copyFrom lTx123 lTx194 hez4) ?_
      refine sb_aload_n rfl ?_
      refine ss_getR g11_40 h0 r0_4 ?_
      refine sb_aload_n rfl ?_
      refine ss_getR g11_77 h0 r0_13 ?_
      refine sb_callVv 1 rfl oX8_copyFrom ln11_338 vX8_copyFrom (rc_own h138.1 (S_lt h138.2) (by decide)) (rnCk_of (by decide +kernel) rfl) (tfE_copyFrom lTd138 lTd209) ?_
      refine sb_aload_n rfl ?_
      refine ss_getR g11_26 h0 r0_2 ?_
      refine sb_callVv 0 rfl oX4_forget ln11_84 vX4_forget (rc_own h31.1 (S_lt h31.2) (by decide)) (rnCk_of (by decide +kernel) rfl) (tfP_forget) ?_
      refine sb_end ?_
      refine sb_in [(92, .aload_n 0, 1), (93, .getfield 341, 3), (96, .ireturn, 1)] 97 (by decide +kernel) ?_
      refine sb_aload_n rfl ?_
      refine ss_getI g11_341 h0 ?_
      obtain ⟨hgz8, h⟩ := gd h
      cases h
      subst hr
      refine sb_ireturn ?_
      exact ⟨.boolean, rfl, rn_nz hgz8⟩
  · refine sb_if_eq_f 45 cz16 (by decide) ?_
    refine sb_in [(4, .aload_n 0, 1), (5, .getfield 71, 3), (8, .aload_n 0, 1), (9, .getfield 16, 3), (12, .invokevirtual 241, 3), (15, .aload_n 0, 1), (16, .getfield 74, 3), (19, .aload_n 0, 1), (20, .getfield 33, 3), (23, .invokevirtual 335, 3), (26, .aload_n 0, 1), (27, .getfield 77, 3), (30, .aload_n 0, 1), (31, .getfield 40, 3), (34, .invokevirtual 338, 3), (37, .aload_n 0, 1), (38, .iconst 1, 1), (39, .putfield 341, 3), (42, .goto 50, 3)] 45 (by decide +kernel) ?_
    refine sb_aload_n rfl ?_
    refine ss_getR g11_71 h0 r0_11 ?_
    refine sb_aload_n rfl ?_
    refine ss_getR g11_16 h0 r0_0 ?_
    obtain ⟨Mz10, hez9, h⟩ := bd h
    refine sb_callVv 1 rfl oX10_copyFrom ln11_241 vX10_copyFrom (rc_own h179.1 (S_lt h179.2) (by decide)) (rnCk_of (by decide +kernel) rfl) (tfW_copyFrom lWd179 lWd1 hez9) ?_
    refine sb_aload_n rfl ?_
    refine ss_getR g11_74 h0 r0_12 ?_
    refine sb_aload_n rfl ?_
    refine ss_getR g11_33 h0 r0_3 ?_
    obtain ⟨Mz12, hez11, h⟩ := bd h
    refine sb_callVv 1 rfl oX6_copyFrom ln11_335 vX6_copyFrom (rc_own h194.1 (S_lt h194.2) (by decide)) (rnCk_of (by decide +kernel) rfl) (tfT_copyFrom lTx194 lTx123 hez11) ?_
    refine sb_aload_n rfl ?_
    refine ss_getR g11_77 h0 r0_13 ?_
    refine sb_aload_n rfl ?_
    refine ss_getR g11_40 h0 r0_4 ?_
    refine sb_callVv 1 rfl oX8_copyFrom ln11_338 vX8_copyFrom (rc_own h209.1 (S_lt h209.2) (by decide)) (rnCk_of (by decide +kernel) rfl) (tfE_copyFrom lTd209 lTd138) ?_
    refine sb_aload_n rfl ?_
    refine sb_iconst cI1 ?_
    refine ss_putZ p11_341 h0 (by decide) (Or.inr rfl) ?_
    refine sb_goto 92 (by decide) ?_
    refine sb_in [(92, .aload_n 0, 1), (93, .getfield 341, 3), (96, .ireturn, 1)] 97 (by decide +kernel) ?_
    refine sb_aload_n rfl ?_
    refine ss_getI g11_341 h0 ?_
    obtain ⟨hgz15, h⟩ := gd h
    cases h
    subst hr
    refine sb_ireturn ?_
    exact ⟨.boolean, rfl, rn_nz hgz15⟩
theorem tfK_image {P : Px} {x1 : Int32} {M : Mm} {rr : (Int32 × Mm)} (h : fK_image x1 M = some rr) : EX P 4 kX11_image [.ref 0, .int x1] (S M) (some (.int rr.1), S rr.2) := ex_of oX11_image (Nat.le_of_ble_eq_true rfl) (nfK_image  h rfl)
set_option maxRecDepth 20000 in
theorem nfK_look {P : Px} {x1 : Int32} {M : Mm} {rr : Int32} (h : fK_look x1 M = rr) {r : Option Value × Sg} (hr : r = (some (.int rr), S M)) : RN P 2 kX11_look 0 [(0, .ref 0), (1, .int x1)] [] (S M) r := by
  unfold fK_look at h
  refine sb_in [(0, .iload_n 1, 1), (1, .tableswitch 217 0 15 #[79, 90, 101, 109, 117, 125, 133, 141, 149, 157, 165, 173, 182, 191, 200, 209], 79)] 80 (by decide +kernel) ?_
  refine sb_iload_n rfl ?_
  rcases ife h with ⟨cz5, h⟩ | ⟨cz5, h⟩
  · refine sb_tsw_in (off := 79) 0 80 cz5 (by decide +kernel) ?_
    refine sb_in [(80, .aload_n 0, 1), (81, .getfield 16, 3), (84, .getfield 95, 3), (87, .getfield 99, 3), (90, .ireturn, 1)] 91 (by decide +kernel) ?_
    refine sb_aload_n rfl ?_
    refine ss_getR g11_16 h0 r0_0 ?_
    refine ss_getR g11_95 h1 r1_0 ?_
    refine ss_getI g11_99 h2 ?_
    subst h
    subst hr
    refine sb_ireturn ?_
    exact ⟨.int, rfl, rfl⟩
  rcases ife h with ⟨cz6, h⟩ | ⟨cz6, h⟩
  · refine sb_tsw_in (off := 90) 1 91 cz6 (by decide +kernel) ?_
    refine sb_in [(91, .aload_n 0, 1), (92, .getfield 16, 3), (95, .getfield 121, 3), (98, .getfield 125, 3), (101, .ireturn, 1)] 102 (by decide +kernel) ?_
    refine sb_aload_n rfl ?_
    refine ss_getR g11_16 h0 r0_0 ?_
    refine ss_getR g11_121 h1 r1_1 ?_
    refine ss_getI g11_125 h8 ?_
    subst h
    subst hr
    refine sb_ireturn ?_
    exact ⟨.int, rfl, rfl⟩
  rcases ife h with ⟨cz7, h⟩ | ⟨cz7, h⟩
  · refine sb_tsw_in (off := 101) 2 102 cz7 (by decide +kernel) ?_
    refine sb_in [(102, .aload_n 0, 1), (103, .getfield 16, 3), (106, .getfield 141, 3), (109, .ireturn, 1)] 110 (by decide +kernel) ?_
    refine sb_aload_n rfl ?_
    refine ss_getR g11_16 h0 r0_0 ?_
    refine ss_getI g11_141 h1 ?_
    subst h
    subst hr
    refine sb_ireturn ?_
    exact ⟨.int, rfl, rfl⟩
  rcases ife h with ⟨cz8, h⟩ | ⟨cz8, h⟩
  · refine sb_tsw_in (off := 109) 3 110 cz8 (by decide +kernel) ?_
    refine sb_in [(110, .aload_n 0, 1), (111, .getfield 16, 3), (114, .getfield 244, 3), (117, .ireturn, 1)] 118 (by decide +kernel) ?_
    refine sb_aload_n rfl ?_
    refine ss_getR g11_16 h0 r0_0 ?_
    refine ss_getI g11_244 h1 ?_
    subst h
    subst hr
    refine sb_ireturn ?_
    exact ⟨.int, rfl, rfl⟩
  rcases ife h with ⟨cz9, h⟩ | ⟨cz9, h⟩
  · refine sb_tsw_in (off := 117) 4 118 cz9 (by decide +kernel) ?_
    refine sb_in [(118, .aload_n 0, 1), (119, .getfield 16, 3), (122, .getfield 345, 3), (125, .ireturn, 1)] 126 (by decide +kernel) ?_
    refine sb_aload_n rfl ?_
    refine ss_getR g11_16 h0 r0_0 ?_
    refine ss_getI g11_345 h1 ?_
    subst h
    subst hr
    refine sb_ireturn ?_
    exact ⟨.int, rfl, rfl⟩
  rcases ife h with ⟨cz10, h⟩ | ⟨cz10, h⟩
  · refine sb_tsw_in (off := 125) 5 126 cz10 (by decide +kernel) ?_
    refine sb_in [(126, .aload_n 0, 1), (127, .getfield 16, 3), (130, .getfield 247, 3), (133, .ireturn, 1)] 134 (by decide +kernel) ?_
    refine sb_aload_n rfl ?_
    refine ss_getR g11_16 h0 r0_0 ?_
    refine ss_getI g11_247 h1 ?_
    subst h
    subst hr
    refine sb_ireturn ?_
    exact ⟨.int, rfl, rfl⟩
  rcases ife h with ⟨cz11, h⟩ | ⟨cz11, h⟩
  · refine sb_tsw_in (off := 133) 6 134 cz11 (by decide +kernel) ?_
    refine sb_in [(134, .aload_n 0, 1), (135, .getfield 16, 3), (138, .getfield 348, 3), (141, .ireturn, 1)] 142 (by decide +kernel) ?_
    refine sb_aload_n rfl ?_
    refine ss_getR g11_16 h0 r0_0 ?_
    refine ss_getI g11_348 h1 ?_
    subst h
    subst hr
    refine sb_ireturn ?_
    exact ⟨.int, rfl, rfl⟩
  rcases ife h with ⟨cz12, h⟩ | ⟨cz12, h⟩
  · refine sb_tsw_in (off := 141) 7 142 cz12 (by decide +kernel) ?_
    refine sb_in [(142, .aload_n 0, 1), (143, .getfield 16, 3), (146, .getfield 152, 3), (149, .ireturn, 1)] 150 (by decide +kernel) ?_
    refine sb_aload_n rfl ?_
    refine ss_getR g11_16 h0 r0_0 ?_
    refine ss_getI g11_152 h1 ?_
    subst h
    subst hr
    refine sb_ireturn ?_
    exact ⟨.int, rfl, rfl⟩
  rcases ife h with ⟨cz13, h⟩ | ⟨cz13, h⟩
  · refine sb_tsw_in (off := 149) 8 150 cz13 (by decide +kernel) ?_
    refine sb_in [(150, .aload_n 0, 1), (151, .getfield 16, 3), (154, .getfield 155, 3), (157, .ireturn, 1)] 158 (by decide +kernel) ?_
    refine sb_aload_n rfl ?_
    refine ss_getR g11_16 h0 r0_0 ?_
    refine ss_getI g11_155 h1 ?_
    subst h
    subst hr
    refine sb_ireturn ?_
    exact ⟨.int, rfl, rfl⟩
  rcases ife h with ⟨cz14, h⟩ | ⟨cz14, h⟩
  · refine sb_tsw_in (off := 157) 9 158 cz14 (by decide +kernel) ?_
    refine sb_in [(158, .aload_n 0, 1), (159, .getfield 16, 3), (162, .getfield 235, 3), (165, .ireturn, 1)] 166 (by decide +kernel) ?_
    refine sb_aload_n rfl ?_
    refine ss_getR g11_16 h0 r0_0 ?_
    refine ss_getI g11_235 h1 ?_
    subst h
    subst hr
    refine sb_ireturn ?_
    exact ⟨.int, rfl, rfl⟩
  rcases ife h with ⟨cz15, h⟩ | ⟨cz15, h⟩
  · refine sb_tsw_in (off := 165) 10 166 cz15 (by decide +kernel) ?_
    refine sb_in [(166, .aload_n 0, 1), (167, .getfield 16, 3), (170, .getfield 80, 3), (173, .ireturn, 1)] 174 (by decide +kernel) ?_
    refine sb_aload_n rfl ?_
    refine ss_getR g11_16 h0 r0_0 ?_
    refine ss_getI g11_80 h1 ?_
    subst h
    subst hr
    refine sb_ireturn ?_
    exact ⟨.int, rfl, rfl⟩
  rcases ife h with ⟨cz16, h⟩ | ⟨cz16, h⟩
  · refine sb_tsw_in (off := 173) 11 174 cz16 (by decide +kernel) ?_
    refine sb_in [(174, .aload_n 0, 1), (175, .getfield 33, 3), (178, .iconst 0, 1), (179, .invokevirtual 183, 3), (182, .ireturn, 1)] 183 (by decide +kernel) ?_
    refine sb_aload_n rfl ?_
    refine ss_getR g11_33 h0 r0_3 ?_
    refine sb_iconst cI0 ?_
    refine sb_callVi 1 rfl oX6_linesOf ln11_183 vX6_linesOf (rc_own h123.1 (S_lt h123.2) (by decide)) (rnCk_of (by decide +kernel) rfl) (tfT_linesOf) ?_
    subst h
    subst hr
    refine sb_ireturn ?_
    exact ⟨.int, rfl, rfl⟩
  rcases ife h with ⟨cz17, h⟩ | ⟨cz17, h⟩
  · refine sb_tsw_in (off := 182) 12 183 cz17 (by decide +kernel) ?_
    refine sb_in [(183, .aload_n 0, 1), (184, .getfield 33, 3), (187, .iconst 1, 1), (188, .invokevirtual 183, 3), (191, .ireturn, 1)] 192 (by decide +kernel) ?_
    refine sb_aload_n rfl ?_
    refine ss_getR g11_33 h0 r0_3 ?_
    refine sb_iconst cI1 ?_
    refine sb_callVi 1 rfl oX6_linesOf ln11_183 vX6_linesOf (rc_own h123.1 (S_lt h123.2) (by decide)) (rnCk_of (by decide +kernel) rfl) (tfT_linesOf) ?_
    subst h
    subst hr
    refine sb_ireturn ?_
    exact ⟨.int, rfl, rfl⟩
  rcases ife h with ⟨cz18, h⟩ | ⟨cz18, h⟩
  · refine sb_tsw_in (off := 191) 13 192 cz18 (by decide +kernel) ?_
    refine sb_in [(192, .aload_n 0, 1), (193, .getfield 33, 3), (196, .iconst 2, 1), (197, .invokevirtual 183, 3), (200, .ireturn, 1)] 201 (by decide +kernel) ?_
    refine sb_aload_n rfl ?_
    refine ss_getR g11_33 h0 r0_3 ?_
    refine sb_iconst cI2 ?_
    refine sb_callVi 1 rfl oX6_linesOf ln11_183 vX6_linesOf (rc_own h123.1 (S_lt h123.2) (by decide)) (rnCk_of (by decide +kernel) rfl) (tfT_linesOf) ?_
    subst h
    subst hr
    refine sb_ireturn ?_
    exact ⟨.int, rfl, rfl⟩
  rcases ife h with ⟨cz19, h⟩ | ⟨cz19, h⟩
  · refine sb_tsw_in (off := 200) 14 201 cz19 (by decide +kernel) ?_
    refine sb_in [(201, .aload_n 0, 1), (202, .getfield 33, 3), (205, .iconst 3, 1), (206, .invokevirtual 183, 3), (209, .ireturn, 1)] 210 (by decide +kernel) ?_
    refine sb_aload_n rfl ?_
    refine ss_getR g11_33 h0 r0_3 ?_
    refine sb_iconst cI3 ?_
    refine sb_callVi 1 rfl oX6_linesOf ln11_183 vX6_linesOf (rc_own h123.1 (S_lt h123.2) (by decide)) (rnCk_of (by decide +kernel) rfl) (tfT_linesOf) ?_
    subst h
    subst hr
    refine sb_ireturn ?_
    exact ⟨.int, rfl, rfl⟩
  rcases ife h with ⟨cz20, h⟩ | ⟨cz20, h⟩
  · refine sb_tsw_in (off := 209) 15 210 cz20 (by decide +kernel) ?_
    refine sb_in [(210, .aload_n 0, 1), (211, .getfield 26, 3), (214, .getfield 351, 3), (217, .ireturn, 1)] 218 (by decide +kernel) ?_
    refine sb_aload_n rfl ?_
    refine ss_getR g11_26 h0 r0_2 ?_
    refine ss_getI g11_351 h31 ?_
    subst h
    subst hr
    refine sb_ireturn ?_
    exact ⟨.int, rfl, rfl⟩
  refine sb_tsw_out 0 16 218 ((lt_s (lt_s (lt_s (lt_s (lt_s (lt_s (lt_s (lt_s (lt_s (lt_s (lt_s (lt_s (lt_s (lt_s (lt_s (lt_s lt_0 cz5) cz6) cz7) cz8) cz9) cz10) cz11) cz12) cz13) cz14) cz15) cz16) cz17) cz18) cz19) cz20)) (by decide +kernel) ?_
  refine sb_in [(218, .iconst (-1), 1), (219, .ireturn, 1)] 220 (by decide +kernel) ?_
  refine sb_iconst cIm1 ?_
  subst h
  subst hr
  refine sb_ireturn ?_
  exact ⟨.int, rfl, rfl⟩
theorem tfK_look {P : Px} {x1 : Int32} {M : Mm} : EX P 2 kX11_look [.ref 0, .int x1] (S M) (some (.int (fK_look x1 M)), S M) := ex_of oX11_look (Nat.le_of_ble_eq_true rfl) (nfK_look  rfl rfl)
set_option maxRecDepth 20000 in
theorem nfM_isIn {P : Px} {x1 : Int32} {x2 : Int32} {x3 : Int32} {M : Mm} {rr : Int32} (h : fM_isIn x1 x2 x3 = rr) {r : Option Value × Sg} (hr : r = (some (.int rr), S M)) : RN P 1 kX12_isIn 0 [(0, .ref 217), (1, .int x1), (2, .int x2), (3, .int x3)] [] (S M) r := by
  unfold fM_isIn at h
  refine sb_in [(0, .iload_n 1, 1), (1, .iload_n 2, 1), (2, .if_icmp .lt 12, 3)] 5 (by decide +kernel) ?_
  refine sb_iload_n rfl ?_
  refine sb_iload_n rfl ?_
  rcases ife h with ⟨cz1, h⟩ | ⟨cz1, h⟩
  · refine sb_icmp_lt_t 14 cz1 (by decide) ?_
    refine sb_in [(14, .iconst 0, 1)] 15 (by decide +kernel) ?_
    refine sb_iconst cI0 ?_
    refine sb_end ?_
    refine sb_in [(15, .ireturn, 1)] 16 (by decide +kernel) ?_
    subst h
    subst hr
    refine sb_ireturn ?_
    exact ⟨.boolean, rfl, by decide⟩
  · refine sb_icmp_lt_f 14 cz1 (by decide) ?_
    refine sb_in [(5, .iload_n 1, 1), (6, .iload_n 3, 1), (7, .if_icmp .gt 7, 3)] 10 (by decide +kernel) ?_
    refine sb_iload_n rfl ?_
    refine sb_iload_n rfl ?_
    rcases ife h with ⟨cz2, h⟩ | ⟨cz2, h⟩
    · refine sb_icmp_gt_t 14 cz2 (by decide) ?_
      refine sb_in [(14, .iconst 0, 1)] 15 (by decide +kernel) ?_
      refine sb_iconst cI0 ?_
      refine sb_end ?_
      refine sb_in [(15, .ireturn, 1)] 16 (by decide +kernel) ?_
      subst h
      subst hr
      refine sb_ireturn ?_
      exact ⟨.boolean, rfl, by decide⟩
    · refine sb_icmp_gt_f 14 cz2 (by decide) ?_
      refine sb_in [(10, .iconst 1, 1), (11, .goto 4, 3)] 14 (by decide +kernel) ?_
      refine sb_iconst cI1 ?_
      refine sb_goto 15 (by decide) ?_
      refine sb_in [(15, .ireturn, 1)] 16 (by decide +kernel) ?_
      subst h
      subst hr
      refine sb_ireturn ?_
      exact ⟨.boolean, rfl, by decide⟩
theorem tfM_isIn {P : Px} {x1 : Int32} {x2 : Int32} {x3 : Int32} {M : Mm} : EX P 1 kX12_isIn [.ref 217, .int x1, .int x2, .int x3] (S M) (some (.int (fM_isIn x1 x2 x3)), S M) := ex_of oX12_isIn (Nat.le_of_ble_eq_true rfl) (nfM_isIn  rfl rfl)
set_option maxRecDepth 20000 in
theorem nfM_held {P : Px} {x1 : Int32} {x2 : Int32} {x3 : Int32} {M : Mm} {rr : Int32} (h : fM_held x1 x2 x3 = rr) {r : Option Value × Sg} (hr : r = (some (.int rr), S M)) : RN P 1 kX12_held 0 [(0, .ref 217), (1, .int x1), (2, .int x2), (3, .int x3)] [] (S M) r := by
  unfold fM_held at h
  refine sb_in [(0, .iload_n 1, 1), (1, .iload_n 2, 1), (2, .if_icmp .ge 7, 3)] 5 (by decide +kernel) ?_
  refine sb_iload_n rfl ?_
  refine sb_iload_n rfl ?_
  rcases ife h with ⟨cz1, h⟩ | ⟨cz1, h⟩
  · refine sb_icmp_ge_t 9 cz1 (by decide) ?_
    refine sb_in [(9, .iload_n 1, 1), (10, .iload_n 3, 1), (11, .if_icmp .le 7, 3)] 14 (by decide +kernel) ?_
    refine sb_iload_n rfl ?_
    refine sb_iload_n rfl ?_
    rcases ife h with ⟨cz2, h⟩ | ⟨cz2, h⟩
    · refine sb_icmp_le_t 18 cz2 (by decide) ?_
      refine sb_in [(18, .iload_n 1, 1)] 19 (by decide +kernel) ?_
      refine sb_iload_n rfl ?_
      refine sb_end ?_
      refine sb_in [(19, .ireturn, 1)] 20 (by decide +kernel) ?_
      subst h
      subst hr
      refine sb_ireturn ?_
      exact ⟨.int, rfl, rfl⟩
    · refine sb_icmp_le_f 18 cz2 (by decide) ?_
      refine sb_in [(14, .iload_n 3, 1), (15, .goto 4, 3)] 18 (by decide +kernel) ?_
      refine sb_iload_n rfl ?_
      refine sb_goto 19 (by decide) ?_
      refine sb_in [(19, .ireturn, 1)] 20 (by decide +kernel) ?_
      subst h
      subst hr
      refine sb_ireturn ?_
      exact ⟨.int, rfl, rfl⟩
  · refine sb_icmp_ge_f 9 cz1 (by decide) ?_
    refine sb_in [(5, .iload_n 2, 1), (6, .goto 13, 3)] 9 (by decide +kernel) ?_
    refine sb_iload_n rfl ?_
    refine sb_goto 19 (by decide) ?_
    refine sb_in [(19, .ireturn, 1)] 20 (by decide +kernel) ?_
    subst h
    subst hr
    refine sb_ireturn ?_
    exact ⟨.int, rfl, rfl⟩
theorem tfM_held {P : Px} {x1 : Int32} {x2 : Int32} {x3 : Int32} {M : Mm} : EX P 1 kX12_held [.ref 217, .int x1, .int x2, .int x3] (S M) (some (.int (fM_held x1 x2 x3)), S M) := ex_of oX12_held (Nat.le_of_ble_eq_true rfl) (nfM_held  rfl rfl)
set_option maxRecDepth 20000 in
theorem nfM_greater {P : Px} {x1 : Int32} {x2 : Int32} {M : Mm} {rr : Int32} (h : fM_greater x1 x2 = rr) {r : Option Value × Sg} (hr : r = (some (.int rr), S M)) : RN P 1 kX12_greater 0 [(0, .ref 217), (1, .int x1), (2, .int x2)] [] (S M) r := by
  unfold fM_greater at h
  refine sb_in [(0, .iload_n 1, 1), (1, .iload_n 2, 1), (2, .if_icmp .le 7, 3)] 5 (by decide +kernel) ?_
  refine sb_iload_n rfl ?_
  refine sb_iload_n rfl ?_
  rcases ife h with ⟨cz1, h⟩ | ⟨cz1, h⟩
  · refine sb_icmp_le_t 9 cz1 (by decide) ?_
    refine sb_in [(9, .iload_n 2, 1)] 10 (by decide +kernel) ?_
    refine sb_iload_n rfl ?_
    refine sb_end ?_
    refine sb_in [(10, .ireturn, 1)] 11 (by decide +kernel) ?_
    subst h
    subst hr
    refine sb_ireturn ?_
    exact ⟨.int, rfl, rfl⟩
  · refine sb_icmp_le_f 9 cz1 (by decide) ?_
    refine sb_in [(5, .iload_n 1, 1), (6, .goto 4, 3)] 9 (by decide +kernel) ?_
    refine sb_iload_n rfl ?_
    refine sb_goto 10 (by decide) ?_
    refine sb_in [(10, .ireturn, 1)] 11 (by decide +kernel) ?_
    subst h
    subst hr
    refine sb_ireturn ?_
    exact ⟨.int, rfl, rfl⟩
theorem tfM_greater {P : Px} {x1 : Int32} {x2 : Int32} {M : Mm} : EX P 1 kX12_greater [.ref 217, .int x1, .int x2] (S M) (some (.int (fM_greater x1 x2)), S M) := ex_of oX12_greater (Nat.le_of_ble_eq_true rfl) (nfM_greater  rfl rfl)
set_option maxRecDepth 20000 in
theorem nfM_lesser {P : Px} {x1 : Int32} {x2 : Int32} {M : Mm} {rr : Int32} (h : fM_lesser x1 x2 = rr) {r : Option Value × Sg} (hr : r = (some (.int rr), S M)) : RN P 1 kX12_lesser 0 [(0, .ref 217), (1, .int x1), (2, .int x2)] [] (S M) r := by
  unfold fM_lesser at h
  refine sb_in [(0, .iload_n 1, 1), (1, .iload_n 2, 1), (2, .if_icmp .ge 7, 3)] 5 (by decide +kernel) ?_
  refine sb_iload_n rfl ?_
  refine sb_iload_n rfl ?_
  rcases ife h with ⟨cz1, h⟩ | ⟨cz1, h⟩
  · refine sb_icmp_ge_t 9 cz1 (by decide) ?_
    refine sb_in [(9, .iload_n 2, 1)] 10 (by decide +kernel) ?_
    refine sb_iload_n rfl ?_
    refine sb_end ?_
    refine sb_in [(10, .ireturn, 1)] 11 (by decide +kernel) ?_
    subst h
    subst hr
    refine sb_ireturn ?_
    exact ⟨.int, rfl, rfl⟩
  · refine sb_icmp_ge_f 9 cz1 (by decide) ?_
    refine sb_in [(5, .iload_n 1, 1), (6, .goto 4, 3)] 9 (by decide +kernel) ?_
    refine sb_iload_n rfl ?_
    refine sb_goto 10 (by decide) ?_
    refine sb_in [(10, .ireturn, 1)] 11 (by decide +kernel) ?_
    subst h
    subst hr
    refine sb_ireturn ?_
    exact ⟨.int, rfl, rfl⟩
theorem tfM_lesser {P : Px} {x1 : Int32} {x2 : Int32} {M : Mm} : EX P 1 kX12_lesser [.ref 217, .int x1, .int x2] (S M) (some (.int (fM_lesser x1 x2)), S M) := ex_of oX12_lesser (Nat.le_of_ble_eq_true rfl) (nfM_lesser  rfl rfl)
set_option maxRecDepth 20000 in
theorem nfM_added {P : Px} {x1 : Int32} {x2 : Int32} {M : Mm} {rr : Int32} (h : fM_added x1 x2 = rr) {r : Option Value × Sg} (hr : r = (some (.int rr), S M)) : RN P 1 kX12_added 0 [(0, .ref 217), (1, .int x1), (2, .int x2)] [] (S M) r := by
  unfold fM_added at h
  refine sb_in [(0, .iload_n 1, 1), (1, .ldc 119, 2), (3, .iload_n 2, 1), (4, .isub, 1), (5, .if_icmp .lt 12, 3)] 8 (by decide +kernel) ?_
  refine sb_iload_n rfl ?_
  refine sb_ldc (v := 1000000007) rfl ?_
  refine sb_iload_n rfl ?_
  refine sb_isub ?_
  rcases ife h with ⟨cz1, h⟩ | ⟨cz1, h⟩
  · refine sb_icmp_lt_t 17 cz1 (by decide) ?_
    refine sb_in [(17, .iload_n 1, 1), (18, .iload_n 2, 1), (19, .iadd, 1)] 20 (by decide +kernel) ?_
    refine sb_iload_n rfl ?_
    refine sb_iload_n rfl ?_
    refine sb_iadd ?_
    refine sb_end ?_
    refine sb_in [(20, .ireturn, 1)] 21 (by decide +kernel) ?_
    subst h
    subst hr
    refine sb_ireturn ?_
    exact ⟨.int, rfl, rfl⟩
  · refine sb_icmp_lt_f 17 cz1 (by decide) ?_
    refine sb_in [(8, .iload_n 1, 1), (9, .ldc 119, 2), (11, .iload_n 2, 1), (12, .isub, 1), (13, .isub, 1), (14, .goto 6, 3)] 17 (by decide +kernel) ?_
    refine sb_iload_n rfl ?_
    refine sb_ldc (v := 1000000007) rfl ?_
    refine sb_iload_n rfl ?_
    refine sb_isub ?_
    refine sb_isub ?_
    refine sb_goto 20 (by decide) ?_
    refine sb_in [(20, .ireturn, 1)] 21 (by decide +kernel) ?_
    subst h
    subst hr
    refine sb_ireturn ?_
    exact ⟨.int, rfl, rfl⟩
theorem tfM_added {P : Px} {x1 : Int32} {x2 : Int32} {M : Mm} : EX P 1 kX12_added [.ref 217, .int x1, .int x2] (S M) (some (.int (fM_added x1 x2)), S M) := ex_of oX12_added (Nat.le_of_ble_eq_true rfl) (nfM_added  rfl rfl)
set_option maxRecDepth 20000 in
theorem nfM_onesOf {P : Px} {x1 : Int32} {M : Mm} {rr : Int32} (h : fM_onesOf x1 = some rr) {r : Option Value × Sg} (hr : r = (some (.int rr), S M)) : RN P 1 kX12_onesOf 0 [(0, .ref 217), (1, .int x1)] [] (S M) r := by
  unfold fM_onesOf at h
  refine sb_in [(0, .iconst 0, 1), (1, .istore_n 2, 1), (2, .iload_n 1, 1), (3, .istore_n 3, 1)] 4 (by decide +kernel) ?_
  refine sb_iconst cI0 ?_
  refine sb_istore_n (by decide) rfl ?_
  refine sb_iload_n rfl ?_
  refine sb_istore_n (by decide) rfl ?_
  refine sb_end ?_
  obtain ⟨e4, hl4, h⟩ := bd h
  refine rn_sub [2, 3] rfl ?_
  refine lp_ind (P := fun s => RN P 1 kX12_onesOf 4 [(2, .int s.1), (3, .int s.2)] [] (S M) r) (E := fun p => RN P 1 kX12_onesOf 21 [(2, .int p)] [] (S M) r) ?_ _ _ _ hl4 ?_
  · intro s qx h hc
    obtain ⟨x2, x3⟩ := s
    replace h : fM_onesOf_b4 x2 x3 = some qx := h
    show RN P 1 kX12_onesOf 4 [(2, .int x2), (3, .int x3)] [] (S M) r
    unfold fM_onesOf_b4 at h
    refine sb_in [(4, .iload_n 3, 1), (5, .ifCond .eq 16, 3)] 8 (by decide +kernel) ?_
    refine sb_iload_n rfl ?_
    rcases ife h with ⟨cz4, h⟩ | ⟨cz4, h⟩
    · refine sb_if_eq_t 21 cz4 (by decide) ?_
      cases h
      exact rn_sub [2] rfl hc
    · refine sb_if_eq_f 21 cz4 (by decide) ?_
      refine sb_in [(8, .iload_n 2, 1), (9, .iconst 1, 1), (10, .iadd, 1), (11, .istore_n 2, 1), (12, .iload_n 3, 1), (13, .iload_n 3, 1), (14, .iconst 1, 1), (15, .isub, 1), (16, .iand, 1), (17, .istore_n 3, 1), (18, .goto (-14), 3)] 21 (by decide +kernel) ?_
      refine sb_iload_n rfl ?_
      refine sb_iconst cI1 ?_
      refine sb_iadd ?_
      refine sb_istore_n (by decide) rfl ?_
      refine sb_iload_n rfl ?_
      refine sb_iload_n rfl ?_
      refine sb_iconst cI1 ?_
      refine sb_isub ?_
      refine sb_iand ?_
      refine sb_istore_n (by decide) rfl ?_
      refine sb_goto 4 (by decide) ?_
      cases h
      exact rn_sub [2, 3] rfl hc
  · clear hl4
    obtain ⟨yz3, hey⟩ : ∃ z, z = e4 := ⟨_, rfl⟩
    subst hey
    show RN P 1 kX12_onesOf 21 [(2, .int yz3)] [] (S M) r
    refine sb_in [(21, .iload_n 2, 1), (22, .ireturn, 1)] 23 (by decide +kernel) ?_
    refine sb_iload_n rfl ?_
    cases h
    subst hr
    refine sb_ireturn ?_
    exact ⟨.int, rfl, rfl⟩
theorem tfM_onesOf {P : Px} {x1 : Int32} {M : Mm} {rr : Int32} (h : fM_onesOf x1 = some rr) : EX P 1 kX12_onesOf [.ref 217, .int x1] (S M) (some (.int rr), S M) := ex_of oX12_onesOf (Nat.le_of_ble_eq_true rfl) (nfM_onesOf  h rfl)
set_option maxRecDepth 20000 in
theorem nfM_lies {P : Px} {x1 : Int32} {x2 : Int32} {M : Mm} {rr : Int32} (h : fM_lies x1 x2 = rr) {r : Option Value × Sg} (hr : r = (some (.int rr), S M)) : RN P 1 kX12_lies 0 [(0, .ref 217), (1, .int x1), (2, .int x2)] [] (S M) r := by
  unfold fM_lies at h
  refine sb_in [(0, .iload_n 1, 1), (1, .iload_n 2, 1), (2, .ishr, 1), (3, .iconst 1, 1), (4, .iand, 1), (5, .iconst 1, 1), (6, .if_icmp .ne 7, 3)] 9 (by decide +kernel) ?_
  refine sb_iload_n rfl ?_
  refine sb_iload_n rfl ?_
  refine sb_ishr ?_
  refine sb_iconst cI1 ?_
  refine sb_iand ?_
  refine sb_iconst cI1 ?_
  rcases ife h with ⟨cz1, h⟩ | ⟨cz1, h⟩
  · refine sb_icmp_ne_f 13 cz1 (by decide) ?_
    refine sb_in [(9, .iconst 1, 1), (10, .goto 4, 3)] 13 (by decide +kernel) ?_
    refine sb_iconst cI1 ?_
    refine sb_goto 14 (by decide) ?_
    refine sb_in [(14, .ireturn, 1)] 15 (by decide +kernel) ?_
    subst h
    subst hr
    refine sb_ireturn ?_
    exact ⟨.boolean, rfl, by decide⟩
  · refine sb_icmp_ne_t 13 cz1 (by decide) ?_
    refine sb_in [(13, .iconst 0, 1)] 14 (by decide +kernel) ?_
    refine sb_iconst cI0 ?_
    refine sb_end ?_
    refine sb_in [(14, .ireturn, 1)] 15 (by decide +kernel) ?_
    subst h
    subst hr
    refine sb_ireturn ?_
    exact ⟨.boolean, rfl, by decide⟩
theorem tfM_lies {P : Px} {x1 : Int32} {x2 : Int32} {M : Mm} : EX P 1 kX12_lies [.ref 217, .int x1, .int x2] (S M) (some (.int (fM_lies x1 x2)), S M) := ex_of oX12_lies (Nat.le_of_ble_eq_true rfl) (nfM_lies  rfl rfl)
set_option maxRecDepth 20000 in
theorem nfM_keepsAhead {P : Px} {M : Mm} {rr : Mm} (h : fM_keepsAhead M = some rr) {r : Option Value × Sg} (hr : r = (none, S rr)) : RN P 1 kX12_keepsAhead 0 [(0, .ref 217)] [] (S M) r := by
  unfold fM_keepsAhead at h
  refine sb_in [(0, .aload_n 0, 1), (1, .getfield 120, 3), (4, .bipush 6, 2), (6, .if_icmp .ne 49, 3)] 9 (by decide +kernel) ?_
  refine sb_aload_n rfl ?_
  refine ss_getI g12_120 h217 ?_
  refine sb_bipush cB6 ?_
  obtain ⟨Mz6, hj55, h⟩ := bd h
  have hJ55 : RN P 1 kX12_keepsAhead 55 [(0, .ref 217)] [] (S Mz6) r := by
    refine sb_in [(55, .iconst 0, 1), (56, .istore_n 1, 1)] 57 (by decide +kernel) ?_
    refine sb_iconst cI0 ?_
    refine sb_istore_n (by decide) rfl ?_
    refine sb_end ?_
    obtain ⟨e57, hl57, h⟩ := bd h
    refine rn_sub [0, 1] rfl ?_
    refine lp_ind (P := fun s => RN P 1 kX12_keepsAhead 57 [(0, .ref 217), (1, .int s.1)] [] (S s.2) r) (E := fun p => RN P 1 kX12_keepsAhead 91 [(0, .ref 217)] [] (S p) r) ?_ _ _ _ hl57 ?_
    · intro s qx h hc
      obtain ⟨x1, M⟩ := s
      replace h : fM_keepsAhead_b57 x1 M = some qx := h
      show RN P 1 kX12_keepsAhead 57 [(0, .ref 217), (1, .int x1)] [] (S M) r
      unfold fM_keepsAhead_b57 at h
      refine sb_in [(57, .iload_n 1, 1), (58, .sipush 174, 3), (61, .if_icmp .ge 30, 3)] 64 (by decide +kernel) ?_
      refine sb_iload_n rfl ?_
      refine sb_sipush cS174 ?_
      rcases ife h with ⟨cz12, h⟩ | ⟨cz12, h⟩
      · refine sb_icmp_ge_t 91 cz12 (by decide) ?_
        cases h
        exact rn_sub [0] rfl hc
      · refine sb_icmp_ge_f 91 cz12 (by decide) ?_
        refine sb_in [(64, .aload_n 0, 1), (65, .getfield 13, 3), (68, .sipush 174, 3), (71, .aload_n 0, 1), (72, .getfield 120, 3), (75, .imul, 1), (76, .iload_n 1, 1), (77, .iadd, 1), (78, .aload_n 0, 1), (79, .getfield 7, 3), (82, .iload_n 1, 1), (83, .iaload, 1), (84, .iastore, 1), (85, .iinc 1 1, 3), (88, .goto (-31), 3)] 91 (by decide +kernel) ?_
        refine sb_aload_n rfl ?_
        refine ss_getR g12_13 h217 r217_2 ?_
        refine sb_sipush cS174 ?_
        refine sb_aload_n rfl ?_
        refine ss_getI g12_120 h217 ?_
        refine sb_imul ?_
        refine sb_iload_n rfl ?_
        refine sb_iadd ?_
        refine sb_aload_n rfl ?_
        refine ss_getR g12_7 h217 r217_1 ?_
        refine sb_iload_n rfl ?_
        obtain ⟨hgz7, h⟩ := gd h
        refine ss_iald h218 hgz7 ?_
        obtain ⟨hgz9, h⟩ := gd h
        refine ss_iast h219 (by decide) hgz9 ?_
        refine ss_iinc cI1 rfl (by decide) rfl ?_
        refine sb_goto 57 (by decide) ?_
        cases h
        exact rn_sub [0, 1] rfl hc
    · clear hl57
      obtain ⟨Mz10, hey⟩ : ∃ z, z = e57 := ⟨_, rfl⟩
      subst hey
      show RN P 1 kX12_keepsAhead 91 [(0, .ref 217)] [] (S Mz10) r
      refine sb_in [(91, .aload_n 0, 1), (92, .aload_n 0, 1), (93, .getfield 120, 3), (96, .iconst 1, 1), (97, .iadd, 1), (98, .putfield 120, 3), (101, .return_, 1)] 102 (by decide +kernel) ?_
      refine sb_aload_n rfl ?_
      refine sb_aload_n rfl ?_
      refine ss_getI g12_120 h217 ?_
      refine sb_iconst cI1 ?_
      refine sb_iadd ?_
      refine ss_putI p12_120 h217 (by decide) ?_
      cases h
      subst hr
      refine sb_return ?_
      exact rfl
  clear h
  have h := hj55
  clear hj55
  rcases ife h with ⟨cz13, h⟩ | ⟨cz13, h⟩
  · refine sb_icmp_ne_f 55 cz13 (by decide) ?_
    refine sb_in [(9, .aload_n 0, 1), (10, .aload_n 0, 1), (11, .getfield 120, 3), (14, .iconst 1, 1), (15, .isub, 1), (16, .putfield 120, 3), (19, .iconst 0, 1), (20, .istore_n 1, 1)] 21 (by decide +kernel) ?_
    refine sb_aload_n rfl ?_
    refine sb_aload_n rfl ?_
    refine ss_getI g12_120 h217 ?_
    refine sb_iconst cI1 ?_
    refine sb_isub ?_
    refine ss_putI p12_120 h217 (by decide) ?_
    refine sb_iconst cI0 ?_
    refine sb_istore_n (by decide) rfl ?_
    refine sb_end ?_
    obtain ⟨e21, hl21, h⟩ := bd h
    refine rn_sub [0, 1] rfl ?_
    refine lp_ind (P := fun s => RN P 1 kX12_keepsAhead 21 [(0, .ref 217), (1, .int s.1)] [] (S s.2) r) (E := fun p => RN P 1 kX12_keepsAhead 55 [(0, .ref 217)] [] (S p) r) ?_ _ _ _ hl21 ?_
    · intro s qx h hc
      obtain ⟨x1, M⟩ := s
      replace h : fM_keepsAhead_b21 x1 M = some qx := h
      show RN P 1 kX12_keepsAhead 21 [(0, .ref 217), (1, .int x1)] [] (S M) r
      unfold fM_keepsAhead_b21 at h
      refine sb_in [(21, .iload_n 1, 1), (22, .sipush 174, 3), (25, .aload_n 0, 1), (26, .getfield 120, 3), (29, .imul, 1), (30, .if_icmp .ge 25, 3)] 33 (by decide +kernel) ?_
      refine sb_iload_n rfl ?_
      refine sb_sipush cS174 ?_
      refine sb_aload_n rfl ?_
      refine ss_getI g12_120 h217 ?_
      refine sb_imul ?_
      rcases ife h with ⟨cz14, h⟩ | ⟨cz14, h⟩
      · refine sb_icmp_ge_t 55 cz14 (by decide) ?_
        cases h
        exact rn_sub [0] rfl hc
      · refine sb_icmp_ge_f 55 cz14 (by decide) ?_
        refine sb_in [(33, .aload_n 0, 1), (34, .getfield 13, 3), (37, .iload_n 1, 1), (38, .aload_n 0, 1), (39, .getfield 13, 3), (42, .iload_n 1, 1), (43, .sipush 174, 3), (46, .iadd, 1), (47, .iaload, 1), (48, .iastore, 1), (49, .iinc 1 1, 3), (52, .goto (-31), 3)] 55 (by decide +kernel) ?_
        refine sb_aload_n rfl ?_
        refine ss_getR g12_13 h217 r217_2 ?_
        refine sb_iload_n rfl ?_
        refine sb_aload_n rfl ?_
        refine ss_getR g12_13 h217 r217_2 ?_
        refine sb_iload_n rfl ?_
        refine sb_sipush cS174 ?_
        refine sb_iadd ?_
        obtain ⟨hgz2, h⟩ := gd h
        refine ss_iald h219 hgz2 ?_
        obtain ⟨hgz4, h⟩ := gd h
        refine ss_iast h219 (by decide) hgz4 ?_
        refine ss_iinc cI1 rfl (by decide) rfl ?_
        refine sb_goto 21 (by decide) ?_
        cases h
        exact rn_sub [0, 1] rfl hc
    · clear hl21
      obtain ⟨Mz5, hey⟩ : ∃ z, z = e21 := ⟨_, rfl⟩
      subst hey
      show RN P 1 kX12_keepsAhead 55 [(0, .ref 217)] [] (S Mz5) r
      cases h
      exact rn_sub [0] rfl hJ55
  · refine sb_icmp_ne_t 55 cz13 (by decide) ?_
    cases h
    exact rn_sub [0] rfl hJ55
theorem tfM_keepsAhead {P : Px} {M : Mm} {rr : Mm} (h : fM_keepsAhead M = some rr) : EX P 1 kX12_keepsAhead [.ref 217] (S M) (none, S rr) := ex_of oX12_keepsAhead (Nat.le_of_ble_eq_true rfl) (nfM_keepsAhead  h rfl)
set_option maxRecDepth 20000 in
theorem nfM_undo {P : Px} {M : Mm} {rr : (Int32 × Mm)} (h : fM_undo M = some rr) {r : Option Value × Sg} (hr : r = (some (.int rr.1), S rr.2)) : RN P 1 kX12_undo 0 [(0, .ref 217)] [] (S M) r := by
  unfold fM_undo at h
  refine sb_in [(0, .aload_n 0, 1), (1, .iconst 0, 1), (2, .putfield 116, 3), (5, .aload_n 0, 1), (6, .getfield 120, 3), (9, .ifCond .ne 5, 3)] 12 (by decide +kernel) ?_
  refine sb_aload_n rfl ?_
  refine sb_iconst cI0 ?_
  refine ss_putI p12_116 h217 (by decide) ?_
  refine sb_aload_n rfl ?_
  refine ss_getI g12_120 h217 ?_
  rcases ife h with ⟨cz7, h⟩ | ⟨cz7, h⟩
  · refine sb_if_ne_f 14 cz7 (by decide) ?_
    refine sb_in [(12, .iconst 0, 1), (13, .ireturn, 1)] 14 (by decide +kernel) ?_
    refine sb_iconst cI0 ?_
    cases h
    subst hr
    refine sb_ireturn ?_
    exact ⟨.boolean, rfl, by decide⟩
  · refine sb_if_ne_t 14 cz7 (by decide) ?_
    refine sb_in [(14, .aload_n 0, 1), (15, .aload_n 0, 1), (16, .getfield 120, 3), (19, .iconst 1, 1), (20, .isub, 1), (21, .putfield 120, 3), (24, .iconst 0, 1), (25, .istore_n 1, 1)] 26 (by decide +kernel) ?_
    refine sb_aload_n rfl ?_
    refine sb_aload_n rfl ?_
    refine ss_getI g12_120 h217 ?_
    refine sb_iconst cI1 ?_
    refine sb_isub ?_
    refine ss_putI p12_120 h217 (by decide) ?_
    refine sb_iconst cI0 ?_
    refine sb_istore_n (by decide) rfl ?_
    refine sb_end ?_
    obtain ⟨e26, hl26, h⟩ := bd h
    refine rn_sub [0, 1] rfl ?_
    refine lp_ind (P := fun s => RN P 1 kX12_undo 26 [(0, .ref 217), (1, .int s.1)] [] (S s.2) r) (E := fun p => RN P 1 kX12_undo 60 [] [] (S p) r) ?_ _ _ _ hl26 ?_
    · intro s qx h hc
      obtain ⟨x1, M⟩ := s
      replace h : fM_undo_b26 x1 M = some qx := h
      show RN P 1 kX12_undo 26 [(0, .ref 217), (1, .int x1)] [] (S M) r
      unfold fM_undo_b26 at h
      refine sb_in [(26, .iload_n 1, 1), (27, .sipush 174, 3), (30, .if_icmp .ge 30, 3)] 33 (by decide +kernel) ?_
      refine sb_iload_n rfl ?_
      refine sb_sipush cS174 ?_
      rcases ife h with ⟨cz8, h⟩ | ⟨cz8, h⟩
      · refine sb_icmp_ge_t 60 cz8 (by decide) ?_
        cases h
        exact rn_sub [] rfl hc
      · refine sb_icmp_ge_f 60 cz8 (by decide) ?_
        refine sb_in [(33, .aload_n 0, 1), (34, .getfield 7, 3), (37, .iload_n 1, 1), (38, .aload_n 0, 1), (39, .getfield 13, 3), (42, .sipush 174, 3), (45, .aload_n 0, 1), (46, .getfield 120, 3), (49, .imul, 1), (50, .iload_n 1, 1), (51, .iadd, 1), (52, .iaload, 1), (53, .iastore, 1), (54, .iinc 1 1, 3), (57, .goto (-31), 3)] 60 (by decide +kernel) ?_
        refine sb_aload_n rfl ?_
        refine ss_getR g12_7 h217 r217_1 ?_
        refine sb_iload_n rfl ?_
        refine sb_aload_n rfl ?_
        refine ss_getR g12_13 h217 r217_2 ?_
        refine sb_sipush cS174 ?_
        refine sb_aload_n rfl ?_
        refine ss_getI g12_120 h217 ?_
        refine sb_imul ?_
        refine sb_iload_n rfl ?_
        refine sb_iadd ?_
        obtain ⟨hgz3, h⟩ := gd h
        refine ss_iald h219 hgz3 ?_
        obtain ⟨hgz5, h⟩ := gd h
        refine ss_iast h218 (by decide) hgz5 ?_
        refine ss_iinc cI1 rfl (by decide) rfl ?_
        refine sb_goto 26 (by decide) ?_
        cases h
        exact rn_sub [0, 1] rfl hc
    · clear hl26
      obtain ⟨Mz6, hey⟩ : ∃ z, z = e26 := ⟨_, rfl⟩
      subst hey
      show RN P 1 kX12_undo 60 [] [] (S Mz6) r
      refine sb_in [(60, .iconst 1, 1), (61, .ireturn, 1)] 62 (by decide +kernel) ?_
      refine sb_iconst cI1 ?_
      cases h
      subst hr
      refine sb_ireturn ?_
      exact ⟨.boolean, rfl, by decide⟩
theorem tfM_undo {P : Px} {M : Mm} {rr : (Int32 × Mm)} (h : fM_undo M = some rr) : EX P 1 kX12_undo [.ref 217] (S M) (some (.int rr.1), S rr.2) := ex_of oX12_undo (Nat.le_of_ble_eq_true rfl) (nfM_undo  h rfl)
set_option maxRecDepth 20000 in
theorem nfM_thinks {P : Px} {M : Mm} {rr : Mm} (h : fM_thinks M = some rr) {r : Option Value × Sg} (hr : r = (none, S rr)) : RN P 1 kX12_thinks 0 [(0, .ref 217)] [] (S M) r := by
  unfold fM_thinks at h
  refine sb_in [(0, .iconst 0, 1), (1, .istore_n 1, 1)] 2 (by decide +kernel) ?_
  refine sb_iconst cI0 ?_
  refine sb_istore_n (by decide) rfl ?_
  refine sb_end ?_
  obtain ⟨e2, hl2, h⟩ := bd h
  refine rn_sub [0, 1] rfl ?_
  refine lp_ind (P := fun s => RN P 1 kX12_thinks 2 [(0, .ref 217), (1, .int s.1)] [] (S s.2) r) (E := fun p => RN P 1 kX12_thinks 27 [(0, .ref 217)] [] (S p) r) ?_ _ _ _ hl2 ?_
  · intro s qx h hc
    obtain ⟨x1, M⟩ := s
    replace h : fM_thinks_b2 x1 M = some qx := h
    show RN P 1 kX12_thinks 2 [(0, .ref 217), (1, .int x1)] [] (S M) r
    unfold fM_thinks_b2 at h
    refine sb_in [(2, .iload_n 1, 1), (3, .sipush 174, 3), (6, .if_icmp .ge 21, 3)] 9 (by decide +kernel) ?_
    refine sb_iload_n rfl ?_
    refine sb_sipush cS174 ?_
    rcases ife h with ⟨cz6, h⟩ | ⟨cz6, h⟩
    · refine sb_icmp_ge_t 27 cz6 (by decide) ?_
      cases h
      exact rn_sub [0] rfl hc
    · refine sb_icmp_ge_f 27 cz6 (by decide) ?_
      refine sb_in [(9, .aload_n 0, 1), (10, .getfield 16, 3), (13, .iload_n 1, 1), (14, .aload_n 0, 1), (15, .getfield 7, 3), (18, .iload_n 1, 1), (19, .iaload, 1), (20, .iastore, 1), (21, .iinc 1 1, 3), (24, .goto (-22), 3)] 27 (by decide +kernel) ?_
      refine sb_aload_n rfl ?_
      refine ss_getR g12_16 h217 r217_4 ?_
      refine sb_iload_n rfl ?_
      refine sb_aload_n rfl ?_
      refine ss_getR g12_7 h217 r217_1 ?_
      refine sb_iload_n rfl ?_
      obtain ⟨hgz1, h⟩ := gd h
      refine ss_iald h218 hgz1 ?_
      obtain ⟨hgz3, h⟩ := gd h
      refine ss_iast h220 (by decide) hgz3 ?_
      refine ss_iinc cI1 rfl (by decide) rfl ?_
      refine sb_goto 2 (by decide) ?_
      cases h
      exact rn_sub [0, 1] rfl hc
  · clear hl2
    obtain ⟨Mz4, hey⟩ : ∃ z, z = e2 := ⟨_, rfl⟩
    subst hey
    show RN P 1 kX12_thinks 27 [(0, .ref 217)] [] (S Mz4) r
    refine sb_in [(27, .aload_n 0, 1), (28, .iconst 1, 1), (29, .putfield 123, 3), (32, .return_, 1)] 33 (by decide +kernel) ?_
    refine sb_aload_n rfl ?_
    refine sb_iconst cI1 ?_
    refine ss_putZ p12_123 h217 (by decide) (Or.inr rfl) ?_
    cases h
    subst hr
    refine sb_return ?_
    exact rfl
theorem tfM_thinks {P : Px} {M : Mm} {rr : Mm} (h : fM_thinks M = some rr) : EX P 1 kX12_thinks [.ref 217] (S M) (none, S rr) := ex_of oX12_thinks (Nat.le_of_ble_eq_true rfl) (nfM_thinks  h rfl)
set_option maxRecDepth 20000 in
theorem nfM_endsThought {P : Px} {M : Mm} {rr : Mm} (h : fM_endsThought M = some rr) {r : Option Value × Sg} (hr : r = (none, S rr)) : RN P 1 kX12_endsThought 0 [(0, .ref 217)] [] (S M) r := by
  unfold fM_endsThought at h
  refine sb_in [(0, .iconst 0, 1), (1, .istore_n 1, 1)] 2 (by decide +kernel) ?_
  refine sb_iconst cI0 ?_
  refine sb_istore_n (by decide) rfl ?_
  refine sb_end ?_
  obtain ⟨e2, hl2, h⟩ := bd h
  refine rn_sub [0, 1] rfl ?_
  refine lp_ind (P := fun s => RN P 1 kX12_endsThought 2 [(0, .ref 217), (1, .int s.1)] [] (S s.2) r) (E := fun p => RN P 1 kX12_endsThought 27 [(0, .ref 217)] [] (S p) r) ?_ _ _ _ hl2 ?_
  · intro s qx h hc
    obtain ⟨x1, M⟩ := s
    replace h : fM_endsThought_b2 x1 M = some qx := h
    show RN P 1 kX12_endsThought 2 [(0, .ref 217), (1, .int x1)] [] (S M) r
    unfold fM_endsThought_b2 at h
    refine sb_in [(2, .iload_n 1, 1), (3, .sipush 174, 3), (6, .if_icmp .ge 21, 3)] 9 (by decide +kernel) ?_
    refine sb_iload_n rfl ?_
    refine sb_sipush cS174 ?_
    rcases ife h with ⟨cz6, h⟩ | ⟨cz6, h⟩
    · refine sb_icmp_ge_t 27 cz6 (by decide) ?_
      cases h
      exact rn_sub [0] rfl hc
    · refine sb_icmp_ge_f 27 cz6 (by decide) ?_
      refine sb_in [(9, .aload_n 0, 1), (10, .getfield 7, 3), (13, .iload_n 1, 1), (14, .aload_n 0, 1), (15, .getfield 16, 3), (18, .iload_n 1, 1), (19, .iaload, 1), (20, .iastore, 1), (21, .iinc 1 1, 3), (24, .goto (-22), 3)] 27 (by decide +kernel) ?_
      refine sb_aload_n rfl ?_
      refine ss_getR g12_7 h217 r217_1 ?_
      refine sb_iload_n rfl ?_
      refine sb_aload_n rfl ?_
      refine ss_getR g12_16 h217 r217_4 ?_
      refine sb_iload_n rfl ?_
      obtain ⟨hgz1, h⟩ := gd h
      refine ss_iald h220 hgz1 ?_
      obtain ⟨hgz3, h⟩ := gd h
      refine ss_iast h218 (by decide) hgz3 ?_
      refine ss_iinc cI1 rfl (by decide) rfl ?_
      refine sb_goto 2 (by decide) ?_
      cases h
      exact rn_sub [0, 1] rfl hc
  · clear hl2
    obtain ⟨Mz4, hey⟩ : ∃ z, z = e2 := ⟨_, rfl⟩
    subst hey
    show RN P 1 kX12_endsThought 27 [(0, .ref 217)] [] (S Mz4) r
    refine sb_in [(27, .aload_n 0, 1), (28, .iconst 0, 1), (29, .putfield 123, 3), (32, .return_, 1)] 33 (by decide +kernel) ?_
    refine sb_aload_n rfl ?_
    refine sb_iconst cI0 ?_
    refine ss_putZ p12_123 h217 (by decide) (Or.inl rfl) ?_
    cases h
    subst hr
    refine sb_return ?_
    exact rfl
theorem tfM_endsThought {P : Px} {M : Mm} {rr : Mm} (h : fM_endsThought M = some rr) : EX P 1 kX12_endsThought [.ref 217] (S M) (none, S rr) := ex_of oX12_endsThought (Nat.le_of_ble_eq_true rfl) (nfM_endsThought  h rfl)
set_option maxRecDepth 20000 in
theorem nfM_state {P : Px} {x1 : Int32} {M : Mm} {rr : (Int32 × Mm)} (h : fM_state x1 M = rr) {r : Option Value × Sg} (hr : r = (some (.int rr.1), S rr.2)) : RN P 1 kX12_state 0 [(0, .ref 217), (1, .int x1)] [] (S M) r := by
  unfold fM_state at h
  refine sb_in [(0, .aload_n 0, 1), (1, .iconst 0, 1), (2, .putfield 116, 3), (5, .aload_n 0, 1), (6, .getfield 7, 3), (9, .iconst 1, 1), (10, .iaload, 1), (11, .istore_n 2, 1), (12, .aload_n 0, 1), (13, .getfield 7, 3), (16, .iconst 1, 1), (17, .iload_n 1, 1), (18, .iastore, 1), (19, .aload_n 0, 1), (20, .iconst 0, 1), (21, .putfield 120, 3), (24, .iload_n 2, 1), (25, .ireturn, 1)] 26 (by decide +kernel) ?_
  refine sb_aload_n rfl ?_
  refine sb_iconst cI0 ?_
  refine ss_putI p12_116 h217 (by decide) ?_
  refine sb_aload_n rfl ?_
  refine ss_getR g12_7 h217 r217_1 ?_
  refine sb_iconst cI1 ?_
  refine ss_ialdL 1 h218 iL1 rfl ?_
  refine sb_istore_n (by decide) rfl ?_
  refine sb_aload_n rfl ?_
  refine ss_getR g12_7 h217 r217_1 ?_
  refine sb_iconst cI1 ?_
  refine sb_iload_n rfl ?_
  refine ss_iastL 1 h218 (by decide) iL1 rfl ?_
  refine sb_aload_n rfl ?_
  refine sb_iconst cI0 ?_
  refine ss_putI p12_120 h217 (by decide) ?_
  refine sb_iload_n rfl ?_
  subst h
  subst hr
  refine sb_ireturn ?_
  exact ⟨.int, rfl, rfl⟩
theorem tfM_state {P : Px} {x1 : Int32} {M : Mm} : EX P 1 kX12_state [.ref 217, .int x1] (S M) (some (.int (fM_state x1 M).1), S (fM_state x1 M).2) := ex_of oX12_state (Nat.le_of_ble_eq_true rfl) (nfM_state  rfl rfl)
set_option maxRecDepth 20000 in
theorem nfM_draw {P : Px} {x1 : Int32} {M : Mm} {rr : (Int32 × Mm)} (h : fM_draw x1 M = some rr) {r : Option Value × Sg} (hr : r = (some (.int rr.1), S rr.2)) : RN P 1 kX12_draw 0 [(0, .ref 217), (1, .int x1)] [] (S M) r := by
  unfold fM_draw at h
  refine sb_in [(0, .aload_n 0, 1), (1, .getfield 7, 3), (4, .iconst 1, 1), (5, .ldc 127, 2), (7, .aload_n 0, 1), (8, .getfield 7, 3), (11, .iconst 1, 1), (12, .iaload, 1), (13, .imul, 1), (14, .ldc 128, 2), (16, .iadd, 1), (17, .iastore, 1), (18, .aload_n 0, 1), (19, .getfield 7, 3), (22, .iconst 1, 1), (23, .iaload, 1), (24, .bipush 8, 2), (26, .iushr, 1), (27, .iload_n 1, 1), (28, .irem, 1), (29, .ireturn, 1)] 30 (by decide +kernel) ?_
  refine sb_aload_n rfl ?_
  refine ss_getR g12_7 h217 r217_1 ?_
  refine sb_iconst cI1 ?_
  refine sb_ldc (v := 1664525) rfl ?_
  refine sb_aload_n rfl ?_
  refine ss_getR g12_7 h217 r217_1 ?_
  refine sb_iconst cI1 ?_
  refine ss_ialdL 1 h218 iL1 rfl ?_
  refine sb_imul ?_
  refine sb_ldc (v := 1013904223) rfl ?_
  refine sb_iadd ?_
  refine ss_iastL 1 h218 (by decide) iL1 rfl ?_
  refine sb_aload_n rfl ?_
  refine ss_getR g12_7 h217 r217_1 ?_
  refine sb_iconst cI1 ?_
  refine ss_ialdL 1 h218 iL1 rfl ?_
  refine sb_bipush cB8 ?_
  refine sb_iushr ?_
  refine sb_iload_n rfl ?_
  obtain ⟨hgz2, h⟩ := gd h
  refine sb_irem hgz2 ?_
  cases h
  subst hr
  refine sb_ireturn ?_
  exact ⟨.int, rfl, rfl⟩
theorem tfM_draw {P : Px} {x1 : Int32} {M : Mm} {rr : (Int32 × Mm)} (h : fM_draw x1 M = some rr) : EX P 1 kX12_draw [.ref 217, .int x1] (S M) (some (.int rr.1), S rr.2) := ex_of oX12_draw (Nat.le_of_ble_eq_true rfl) (nfM_draw  h rfl)
set_option maxRecDepth 20000 in
theorem nfM_isDoor {P : Px} {x1 : Int32} {M : Mm} {rr : Int32} (h : fM_isDoor x1 M = rr) {r : Option Value × Sg} (hr : r = (some (.int rr), S M)) : RN P 1 kX12_isDoor 0 [(0, .ref 217), (1, .int x1)] [] (S M) r := by
  unfold fM_isDoor at h
  refine sb_in [(0, .iload_n 1, 1), (1, .ifCond .lt 15, 3)] 4 (by decide +kernel) ?_
  refine sb_iload_n rfl ?_
  rcases ife h with ⟨cz1, h⟩ | ⟨cz1, h⟩
  · refine sb_if_lt_t 16 cz1 (by decide) ?_
    refine sb_in [(16, .iconst 0, 1)] 17 (by decide +kernel) ?_
    refine sb_iconst cI0 ?_
    refine sb_end ?_
    refine sb_in [(17, .ireturn, 1)] 18 (by decide +kernel) ?_
    subst h
    subst hr
    refine sb_ireturn ?_
    exact ⟨.boolean, rfl, by decide⟩
  · refine sb_if_lt_f 16 cz1 (by decide) ?_
    refine sb_in [(4, .iload_n 1, 1), (5, .aload_n 0, 1), (6, .getfield 129, 3), (9, .if_icmp .ge 7, 3)] 12 (by decide +kernel) ?_
    refine sb_iload_n rfl ?_
    refine sb_aload_n rfl ?_
    refine ss_getI g12_129 h217 ?_
    rcases ife h with ⟨cz2, h⟩ | ⟨cz2, h⟩
    · refine sb_icmp_ge_t 16 cz2 (by decide) ?_
      refine sb_in [(16, .iconst 0, 1)] 17 (by decide +kernel) ?_
      refine sb_iconst cI0 ?_
      refine sb_end ?_
      refine sb_in [(17, .ireturn, 1)] 18 (by decide +kernel) ?_
      subst h
      subst hr
      refine sb_ireturn ?_
      exact ⟨.boolean, rfl, by decide⟩
    · refine sb_icmp_ge_f 16 cz2 (by decide) ?_
      refine sb_in [(12, .iconst 1, 1), (13, .goto 4, 3)] 16 (by decide +kernel) ?_
      refine sb_iconst cI1 ?_
      refine sb_goto 17 (by decide) ?_
      refine sb_in [(17, .ireturn, 1)] 18 (by decide +kernel) ?_
      subst h
      subst hr
      refine sb_ireturn ?_
      exact ⟨.boolean, rfl, by decide⟩
theorem tfM_isDoor {P : Px} {x1 : Int32} {M : Mm} : EX P 1 kX12_isDoor [.ref 217, .int x1] (S M) (some (.int (fM_isDoor x1 M)), S M) := ex_of oX12_isDoor (Nat.le_of_ble_eq_true rfl) (nfM_isDoor  rfl rfl)
set_option maxRecDepth 20000 in
theorem nfM_health {P : Px} {M : Mm} {rr : Int32} (h : fM_health M = rr) {r : Option Value × Sg} (hr : r = (some (.int rr), S M)) : RN P 1 kX12_health 0 [(0, .ref 217)] [] (S M) r := by
  unfold fM_health at h
  refine sb_in [(0, .bipush 99, 2), (2, .aload_n 0, 1), (3, .getfield 7, 3), (6, .iconst 4, 1), (7, .iaload, 1), (8, .isub, 1), (9, .ireturn, 1)] 10 (by decide +kernel) ?_
  refine sb_bipush cB99 ?_
  refine sb_aload_n rfl ?_
  refine ss_getR g12_7 h217 r217_1 ?_
  refine sb_iconst cI4 ?_
  refine ss_ialdL 4 h218 iL4 rfl ?_
  refine sb_isub ?_
  subst h
  subst hr
  refine sb_ireturn ?_
  exact ⟨.int, rfl, rfl⟩
theorem tfM_health {P : Px} {M : Mm} : EX P 1 kX12_health [.ref 217] (S M) (some (.int (fM_health M)), S M) := ex_of oX12_health (Nat.le_of_ble_eq_true rfl) (nfM_health  rfl rfl)
set_option maxRecDepth 20000 in
theorem nfM_hasHealth {P : Px} {x1 : Int32} {M : Mm} {rr : Mm} (h : fM_hasHealth x1 M = rr) {r : Option Value × Sg} (hr : r = (none, S rr)) : RN P 2 kX12_hasHealth 0 [(0, .ref 217), (1, .int x1)] [] (S M) r := by
  unfold fM_hasHealth at h
  refine sb_in [(0, .aload_n 0, 1), (1, .getfield 7, 3), (4, .iconst 4, 1), (5, .bipush 99, 2), (7, .aload_n 0, 1), (8, .iload_n 1, 1), (9, .iconst 0, 1), (10, .bipush 99, 2), (12, .invokevirtual 132, 3), (15, .isub, 1), (16, .iastore, 1), (17, .return_, 1)] 18 (by decide +kernel) ?_
  refine sb_aload_n rfl ?_
  refine ss_getR g12_7 h217 r217_1 ?_
  refine sb_iconst cI4 ?_
  refine sb_bipush cB99 ?_
  refine sb_aload_n rfl ?_
  refine sb_iload_n rfl ?_
  refine sb_iconst cI0 ?_
  refine sb_bipush cB99 ?_
  refine sb_callVi 3 rfl oX12_held ln12_132 vX12_held (rc_own h217.1 (S_lt h217.2) (by decide)) (rnCk_of (by decide +kernel) rfl) (tfM_held) ?_
  refine sb_isub ?_
  refine ss_iastL 4 h218 (by decide) iL4 rfl ?_
  subst h
  subst hr
  refine sb_return ?_
  exact rfl
theorem tfM_hasHealth {P : Px} {x1 : Int32} {M : Mm} : EX P 2 kX12_hasHealth [.ref 217, .int x1] (S M) (none, S (fM_hasHealth x1 M)) := ex_of oX12_hasHealth (Nat.le_of_ble_eq_true rfl) (nfM_hasHealth  rfl rfl)
set_option maxRecDepth 20000 in
theorem nfM_letterAt {P : Px} {x1 : Int32} {M : Mm} {rr : Int32} (h : fM_letterAt x1 = rr) {r : Option Value × Sg} (hr : r = (some (.int rr), S M)) : RN P 1 kX12_letterAt 0 [(0, .ref 217), (1, .int x1)] [] (S M) r := by
  unfold fM_letterAt at h
  refine sb_in [(0, .bipush 54, 2), (2, .iconst 5, 1), (3, .iload_n 1, 1), (4, .imul, 1), (5, .iadd, 1), (6, .ireturn, 1)] 7 (by decide +kernel) ?_
  refine sb_bipush cB54 ?_
  refine sb_iconst cI5 ?_
  refine sb_iload_n rfl ?_
  refine sb_imul ?_
  refine sb_iadd ?_
  subst h
  subst hr
  refine sb_ireturn ?_
  exact ⟨.int, rfl, rfl⟩
theorem tfM_letterAt {P : Px} {x1 : Int32} {M : Mm} : EX P 1 kX12_letterAt [.ref 217, .int x1] (S M) (some (.int (fM_letterAt x1)), S M) := ex_of oX12_letterAt (Nat.le_of_ble_eq_true rfl) (nfM_letterAt  rfl rfl)
set_option maxRecDepth 20000 in
theorem nfM_doorOf {P : Px} {x1 : Int32} {M : Mm} {rr : Int32} (h : fM_doorOf x1 M = some rr) {r : Option Value × Sg} (hr : r = (some (.int rr), S M)) : RN P 2 kX12_doorOf 0 [(0, .ref 217), (1, .int x1)] [] (S M) r := by
  unfold fM_doorOf at h
  refine sb_in [(0, .aload_n 0, 1), (1, .getfield 7, 3), (4, .aload_n 0, 1), (5, .iload_n 1, 1), (6, .invokevirtual 136, 3), (9, .iconst 1, 1), (10, .iadd, 1), (11, .iaload, 1), (12, .ireturn, 1)] 13 (by decide +kernel) ?_
  refine sb_aload_n rfl ?_
  refine ss_getR g12_7 h217 r217_1 ?_
  refine sb_aload_n rfl ?_
  refine sb_iload_n rfl ?_
  refine sb_callVi 1 rfl oX12_letterAt ln12_136 vX12_letterAt (rc_own h217.1 (S_lt h217.2) (by decide)) (rnCk_of (by decide +kernel) rfl) (tfM_letterAt) ?_
  refine sb_iconst cI1 ?_
  refine sb_iadd ?_
  obtain ⟨hgz2, h⟩ := gd h
  refine ss_iald h218 hgz2 ?_
  cases h
  subst hr
  refine sb_ireturn ?_
  exact ⟨.int, rfl, rfl⟩
theorem tfM_doorOf {P : Px} {x1 : Int32} {M : Mm} {rr : Int32} (h : fM_doorOf x1 M = some rr) : EX P 2 kX12_doorOf [.ref 217, .int x1] (S M) (some (.int rr), S M) := ex_of oX12_doorOf (Nat.le_of_ble_eq_true rfl) (nfM_doorOf  h rfl)
set_option maxRecDepth 20000 in
theorem nfM_lettersFor {P : Px} {x1 : Int32} {M : Mm} {rr : Int32} (h : fM_lettersFor x1 M = some rr) {r : Option Value × Sg} (hr : r = (some (.int rr), S M)) : RN P 3 kX12_lettersFor 0 [(0, .ref 217), (1, .int x1)] [] (S M) r := by
  unfold fM_lettersFor at h
  refine sb_in [(0, .iconst 0, 1), (1, .istore_n 2, 1), (2, .iconst 0, 1), (3, .istore_n 3, 1)] 4 (by decide +kernel) ?_
  refine sb_iconst cI0 ?_
  refine sb_istore_n (by decide) rfl ?_
  refine sb_iconst cI0 ?_
  refine sb_istore_n (by decide) rfl ?_
  refine sb_end ?_
  obtain ⟨e4, hl4, h⟩ := bd h
  refine rn_sub [0, 1, 2, 3] rfl ?_
  refine lp_ind (P := fun s => RN P 3 kX12_lettersFor 4 [(0, .ref 217), (1, .int x1), (2, .int s.1), (3, .int s.2)] [] (S M) r) (E := fun p => RN P 3 kX12_lettersFor 34 [(2, .int p)] [] (S M) r) ?_ _ _ _ hl4 ?_
  · intro s qx h hc
    obtain ⟨x2, x3⟩ := s
    replace h : fM_lettersFor_b4 x1 M x2 x3 = some qx := h
    show RN P 3 kX12_lettersFor 4 [(0, .ref 217), (1, .int x1), (2, .int x2), (3, .int x3)] [] (S M) r
    unfold fM_lettersFor_b4 at h
    refine sb_in [(4, .iload_n 3, 1), (5, .aload_n 0, 1), (6, .getfield 7, 3), (9, .bipush 10, 2), (11, .iaload, 1), (12, .if_icmp .ge 22, 3)] 15 (by decide +kernel) ?_
    refine sb_iload_n rfl ?_
    refine sb_aload_n rfl ?_
    refine ss_getR g12_7 h217 r217_1 ?_
    refine sb_bipush cB10 ?_
    refine ss_ialdL 10 h218 iL10 rfl ?_
    rcases ife h with ⟨cz6, h⟩ | ⟨cz6, h⟩
    · refine sb_icmp_ge_t 34 cz6 (by decide) ?_
      cases h
      exact rn_sub [2] rfl hc
    · refine sb_icmp_ge_f 34 cz6 (by decide) ?_
      refine sb_in [(15, .aload_n 0, 1), (16, .iload_n 3, 1), (17, .invokevirtual 140, 3), (20, .iload_n 1, 1), (21, .if_icmp .ne 7, 3)] 24 (by decide +kernel) ?_
      refine sb_aload_n rfl ?_
      refine sb_iload_n rfl ?_
      obtain ⟨qz2, hez1, h⟩ := bd h
      refine sb_callVi 1 rfl oX12_doorOf ln12_140 vX12_doorOf (rc_own h217.1 (S_lt h217.2) (by decide)) (rnCk_of (by decide +kernel) rfl) (tfM_doorOf hez1) ?_
      refine sb_iload_n rfl ?_
      obtain ⟨yz4, hj28, h⟩ := bd h
      have hJ28 : RN P 3 kX12_lettersFor 28 [(0, .ref 217), (1, .int x1), (2, .int yz4), (3, .int x3)] [] (S M) r := by
        refine sb_in [(28, .iinc 3 1, 3), (31, .goto (-27), 3)] 34 (by decide +kernel) ?_
        refine ss_iinc cI1 rfl (by decide) rfl ?_
        refine sb_goto 4 (by decide) ?_
        cases h
        exact rn_sub [0, 1, 2, 3] rfl hc
      clear h
      have h := hj28
      clear hj28
      rcases ife h with ⟨cz7, h⟩ | ⟨cz7, h⟩
      · refine sb_icmp_ne_f 28 cz7 (by decide) ?_
        refine sb_in [(24, .iload_n 2, 1), (25, .iconst 1, 1), (26, .iadd, 1), (27, .istore_n 2, 1)] 28 (by decide +kernel) ?_
        refine sb_iload_n rfl ?_
        refine sb_iconst cI1 ?_
        refine sb_iadd ?_
        refine sb_istore_n (by decide) rfl ?_
        refine sb_end ?_
        cases h
        exact rn_sub [0, 1, 2, 3] rfl hJ28
      · refine sb_icmp_ne_t 28 cz7 (by decide) ?_
        cases h
        exact rn_sub [0, 1, 2, 3] rfl hJ28
  · clear hl4
    obtain ⟨yz5, hey⟩ : ∃ z, z = e4 := ⟨_, rfl⟩
    subst hey
    show RN P 3 kX12_lettersFor 34 [(2, .int yz5)] [] (S M) r
    refine sb_in [(34, .iload_n 2, 1), (35, .ireturn, 1)] 36 (by decide +kernel) ?_
    refine sb_iload_n rfl ?_
    cases h
    subst hr
    refine sb_ireturn ?_
    exact ⟨.int, rfl, rfl⟩
theorem tfM_lettersFor {P : Px} {x1 : Int32} {M : Mm} {rr : Int32} (h : fM_lettersFor x1 M = some rr) : EX P 3 kX12_lettersFor [.ref 217, .int x1] (S M) (some (.int rr), S M) := ex_of oX12_lettersFor (Nat.le_of_ble_eq_true rfl) (nfM_lettersFor  h rfl)
set_option maxRecDepth 20000 in
theorem nfM_door {P : Px} {x1 : Int32} {x2 : Int32} {x3 : Int32} {M : Mm} {rr : (Int32 × Mm)} (h : fM_door x1 x2 x3 M = some rr) {r : Option Value × Sg} (hr : r = (some (.int rr.1), S rr.2)) : RN P 2 kX12_door 0 [(0, .ref 217), (1, .int x1), (2, .int x2), (3, .int x3)] [] (S M) r := by
  unfold fM_door at h
  refine sb_in [(0, .aload_n 0, 1), (1, .iconst 0, 1), (2, .putfield 116, 3), (5, .aload_n 0, 1), (6, .iload_n 1, 1), (7, .bipush (-9), 2), (9, .bipush 9, 2), (11, .invokevirtual 143, 3), (14, .ifCond .eq 35, 3)] 17 (by decide +kernel) ?_
  refine sb_aload_n rfl ?_
  refine sb_iconst cI0 ?_
  refine ss_putI p12_116 h217 (by decide) ?_
  refine sb_aload_n rfl ?_
  refine sb_iload_n rfl ?_
  refine sb_bipush cBm9 ?_
  refine sb_bipush cB9 ?_
  refine sb_callVi 3 rfl oX12_isIn ln12_143 vX12_isIn (rc_own h217.1 (S_lt h217.2) (by decide)) (rnCk_of (by decide +kernel) rfl) (tfM_isIn) ?_
  rcases ife h with ⟨cz15, h⟩ | ⟨cz15, h⟩
  · refine sb_if_eq_t 49 cz15 (by decide) ?_
    refine sb_in [(49, .iconst (-1), 1), (50, .ireturn, 1)] 51 (by decide +kernel) ?_
    refine sb_iconst cIm1 ?_
    cases h
    subst hr
    refine sb_ireturn ?_
    exact ⟨.int, rfl, rfl⟩
  · refine sb_if_eq_f 49 cz15 (by decide) ?_
    refine sb_in [(17, .aload_n 0, 1), (18, .iload_n 2, 1), (19, .iconst 0, 1), (20, .bipush 9, 2), (22, .invokevirtual 143, 3), (25, .ifCond .eq 24, 3)] 28 (by decide +kernel) ?_
    refine sb_aload_n rfl ?_
    refine sb_iload_n rfl ?_
    refine sb_iconst cI0 ?_
    refine sb_bipush cB9 ?_
    refine sb_callVi 3 rfl oX12_isIn ln12_143 vX12_isIn (rc_own h217.1 (S_lt h217.2) (by decide)) (rnCk_of (by decide +kernel) rfl) (tfM_isIn) ?_
    rcases ife h with ⟨cz16, h⟩ | ⟨cz16, h⟩
    · refine sb_if_eq_t 49 cz16 (by decide) ?_
      refine sb_in [(49, .iconst (-1), 1), (50, .ireturn, 1)] 51 (by decide +kernel) ?_
      refine sb_iconst cIm1 ?_
      cases h
      subst hr
      refine sb_ireturn ?_
      exact ⟨.int, rfl, rfl⟩
    · refine sb_if_eq_f 49 cz16 (by decide) ?_
      refine sb_in [(28, .aload_n 0, 1), (29, .iload_n 3, 1), (30, .iconst 0, 1), (31, .sipush 999, 3), (34, .invokevirtual 143, 3), (37, .ifCond .eq 12, 3)] 40 (by decide +kernel) ?_
      refine sb_aload_n rfl ?_
      refine sb_iload_n rfl ?_
      refine sb_iconst cI0 ?_
      refine sb_sipush cS999 ?_
      refine sb_callVi 3 rfl oX12_isIn ln12_143 vX12_isIn (rc_own h217.1 (S_lt h217.2) (by decide)) (rnCk_of (by decide +kernel) rfl) (tfM_isIn) ?_
      rcases ife h with ⟨cz17, h⟩ | ⟨cz17, h⟩
      · refine sb_if_eq_t 49 cz17 (by decide) ?_
        refine sb_in [(49, .iconst (-1), 1), (50, .ireturn, 1)] 51 (by decide +kernel) ?_
        refine sb_iconst cIm1 ?_
        cases h
        subst hr
        refine sb_ireturn ?_
        exact ⟨.int, rfl, rfl⟩
      · refine sb_if_eq_f 49 cz17 (by decide) ?_
        refine sb_in [(40, .aload_n 0, 1), (41, .getfield 129, 3), (44, .bipush 12, 2), (46, .if_icmp .ne 5, 3)] 49 (by decide +kernel) ?_
        refine sb_aload_n rfl ?_
        refine ss_getI g12_129 h217 ?_
        refine sb_bipush cB12 ?_
        rcases ife h with ⟨cz18, h⟩ | ⟨cz18, h⟩
        · refine sb_icmp_ne_f 51 cz18 (by decide) ?_
          refine sb_in [(49, .iconst (-1), 1), (50, .ireturn, 1)] 51 (by decide +kernel) ?_
          refine sb_iconst cIm1 ?_
          cases h
          subst hr
          refine sb_ireturn ?_
          exact ⟨.int, rfl, rfl⟩
        · refine sb_icmp_ne_t 51 cz18 (by decide) ?_
          refine sb_in [(51, .aload_n 0, 1), (52, .getfield 7, 3), (55, .bipush 18, 2), (57, .aload_n 0, 1), (58, .getfield 129, 3), (61, .iadd, 1), (62, .iload_n 1, 1), (63, .iastore, 1), (64, .aload_n 0, 1), (65, .getfield 7, 3), (68, .bipush 30, 2), (70, .aload_n 0, 1), (71, .getfield 129, 3), (74, .iadd, 1), (75, .iload_n 3, 1), (76, .iastore, 1), (77, .aload_n 0, 1), (78, .getfield 7, 3), (81, .bipush 42, 2), (83, .aload_n 0, 1), (84, .getfield 129, 3), (87, .iadd, 1), (88, .iconst 0, 1), (89, .iastore, 1), (90, .aload_n 0, 1), (91, .getfield 19, 3), (94, .aload_n 0, 1), (95, .getfield 129, 3), (98, .iload_n 2, 1), (99, .iastore, 1), (100, .aload_n 0, 1), (101, .aload_n 0, 1), (102, .getfield 129, 3), (105, .iconst 1, 1), (106, .iadd, 1), (107, .putfield 129, 3), (110, .aload_n 0, 1), (111, .iconst 0, 1), (112, .putfield 120, 3), (115, .aload_n 0, 1), (116, .getfield 129, 3), (119, .iconst 1, 1), (120, .isub, 1), (121, .ireturn, 1)] 122 (by decide +kernel) ?_
          refine sb_aload_n rfl ?_
          refine ss_getR g12_7 h217 r217_1 ?_
          refine sb_bipush cB18 ?_
          refine sb_aload_n rfl ?_
          refine ss_getI g12_129 h217 ?_
          refine sb_iadd ?_
          refine sb_iload_n rfl ?_
          obtain ⟨hgz6, h⟩ := gd h
          refine ss_iast h218 (by decide) hgz6 ?_
          refine sb_aload_n rfl ?_
          refine ss_getR g12_7 h217 r217_1 ?_
          refine sb_bipush cB30 ?_
          refine sb_aload_n rfl ?_
          refine ss_getI g12_129 h217 ?_
          refine sb_iadd ?_
          refine sb_iload_n rfl ?_
          obtain ⟨hgz8, h⟩ := gd h
          refine ss_iast h218 (by decide) hgz8 ?_
          refine sb_aload_n rfl ?_
          refine ss_getR g12_7 h217 r217_1 ?_
          refine sb_bipush cB42 ?_
          refine sb_aload_n rfl ?_
          refine ss_getI g12_129 h217 ?_
          refine sb_iadd ?_
          refine sb_iconst cI0 ?_
          obtain ⟨hgz10, h⟩ := gd h
          refine ss_iast h218 (by decide) hgz10 ?_
          refine sb_aload_n rfl ?_
          refine ss_getR g12_19 h217 r217_7 ?_
          refine sb_aload_n rfl ?_
          refine ss_getI g12_129 h217 ?_
          refine sb_iload_n rfl ?_
          obtain ⟨hgz12, h⟩ := gd h
          refine ss_iast h221 (by decide) hgz12 ?_
          refine sb_aload_n rfl ?_
          refine sb_aload_n rfl ?_
          refine ss_getI g12_129 h217 ?_
          refine sb_iconst cI1 ?_
          refine sb_iadd ?_
          refine ss_putI p12_129 h217 (by decide) ?_
          refine sb_aload_n rfl ?_
          refine sb_iconst cI0 ?_
          refine ss_putI p12_120 h217 (by decide) ?_
          refine sb_aload_n rfl ?_
          refine ss_getI g12_129 h217 ?_
          refine sb_iconst cI1 ?_
          refine sb_isub ?_
          cases h
          subst hr
          refine sb_ireturn ?_
          exact ⟨.int, rfl, rfl⟩
theorem tfM_door {P : Px} {x1 : Int32} {x2 : Int32} {x3 : Int32} {M : Mm} {rr : (Int32 × Mm)} (h : fM_door x1 x2 x3 M = some rr) : EX P 2 kX12_door [.ref 217, .int x1, .int x2, .int x3] (S M) (some (.int rr.1), S rr.2) := ex_of oX12_door (Nat.le_of_ble_eq_true rfl) (nfM_door  h rfl)
set_option maxRecDepth 20000 in
theorem nfM_canSet {P : Px} {x1 : Int32} {x2 : Int32} {x3 : Int32} {M : Mm} {rr : Int32} (h : fM_canSet x1 x2 x3 M = some rr) {r : Option Value × Sg} (hr : r = (some (.int rr), S M)) : RN P 2 kX12_canSet 0 [(0, .ref 217), (1, .int x1), (2, .int x2), (3, .int x3)] [] (S M) r := by
  unfold fM_canSet at h
  refine sb_in [(0, .iload_n 1, 1), (1, .ifCond .ne 29, 3)] 4 (by decide +kernel) ?_
  refine sb_iload_n rfl ?_
  rcases ife h with ⟨cz6, h⟩ | ⟨cz6, h⟩
  · refine sb_if_ne_f 30 cz6 (by decide) ?_
    refine sb_in [(4, .aload_n 0, 1), (5, .iload_n 2, 1), (6, .invokevirtual 147, 3), (9, .ifCond .eq 19, 3)] 12 (by decide +kernel) ?_
    refine sb_aload_n rfl ?_
    refine sb_iload_n rfl ?_
    refine sb_callVi 1 rfl oX12_isDoor ln12_147 vX12_isDoor (rc_own h217.1 (S_lt h217.2) (by decide)) (rnCk_of (by decide +kernel) rfl) (tfM_isDoor) ?_
    rcases ife h with ⟨cz7, h⟩ | ⟨cz7, h⟩
    · refine sb_if_eq_t 28 cz7 (by decide) ?_
      refine sb_in [(28, .iconst 0, 1)] 29 (by decide +kernel) ?_
      refine sb_iconst cI0 ?_
      refine sb_end ?_
      refine sb_in [(29, .ireturn, 1)] 30 (by decide +kernel) ?_
      cases h
      subst hr
      refine sb_ireturn ?_
      exact ⟨.boolean, rfl, by decide⟩
    · refine sb_if_eq_f 28 cz7 (by decide) ?_
      refine sb_in [(12, .aload_n 0, 1), (13, .iload_n 3, 1), (14, .bipush (-9), 2), (16, .bipush 9, 2), (18, .invokevirtual 143, 3), (21, .ifCond .eq 7, 3)] 24 (by decide +kernel) ?_
      refine sb_aload_n rfl ?_
      refine sb_iload_n rfl ?_
      refine sb_bipush cBm9 ?_
      refine sb_bipush cB9 ?_
      refine sb_callVi 3 rfl oX12_isIn ln12_143 vX12_isIn (rc_own h217.1 (S_lt h217.2) (by decide)) (rnCk_of (by decide +kernel) rfl) (tfM_isIn) ?_
      rcases ife h with ⟨cz8, h⟩ | ⟨cz8, h⟩
      · refine sb_if_eq_t 28 cz8 (by decide) ?_
        refine sb_in [(28, .iconst 0, 1)] 29 (by decide +kernel) ?_
        refine sb_iconst cI0 ?_
        refine sb_end ?_
        refine sb_in [(29, .ireturn, 1)] 30 (by decide +kernel) ?_
        cases h
        subst hr
        refine sb_ireturn ?_
        exact ⟨.boolean, rfl, by decide⟩
      · refine sb_if_eq_f 28 cz8 (by decide) ?_
        refine sb_in [(24, .iconst 1, 1), (25, .goto 4, 3)] 28 (by decide +kernel) ?_
        refine sb_iconst cI1 ?_
        refine sb_goto 29 (by decide) ?_
        refine sb_in [(29, .ireturn, 1)] 30 (by decide +kernel) ?_
        cases h
        subst hr
        refine sb_ireturn ?_
        exact ⟨.boolean, rfl, by decide⟩
  · refine sb_if_ne_t 30 cz6 (by decide) ?_
    refine sb_in [(30, .iload_n 1, 1), (31, .iconst 1, 1), (32, .if_icmp .eq 8, 3)] 35 (by decide +kernel) ?_
    refine sb_iload_n rfl ?_
    refine sb_iconst cI1 ?_
    have hJ40 : ∀ (z1 : Int32) (z2 : Int32) (z3 : Int32), fM_canSet_j40 z1 z2 z3 M = some rr → RN P 2 kX12_canSet 40 [(0, .ref 217), (1, .int z1), (2, .int z2), (3, .int z3)] [] (S M) r := by
      intro z1 z2 z3 h
      unfold fM_canSet_j40 at h
      refine sb_in [(40, .aload_n 0, 1), (41, .iload_n 2, 1), (42, .invokevirtual 147, 3), (45, .ifCond .eq 29, 3)] 48 (by decide +kernel) ?_
      refine sb_aload_n rfl ?_
      refine sb_iload_n rfl ?_
      refine sb_callVi 1 rfl oX12_isDoor ln12_147 vX12_isDoor (rc_own h217.1 (S_lt h217.2) (by decide)) (rnCk_of (by decide +kernel) rfl) (tfM_isDoor) ?_
      rcases ife h with ⟨cz9, h⟩ | ⟨cz9, h⟩
      · refine sb_if_eq_t 74 cz9 (by decide) ?_
        refine sb_in [(74, .iconst 0, 1)] 75 (by decide +kernel) ?_
        refine sb_iconst cI0 ?_
        refine sb_end ?_
        refine sb_in [(75, .ireturn, 1)] 76 (by decide +kernel) ?_
        cases h
        subst hr
        refine sb_ireturn ?_
        exact ⟨.boolean, rfl, by decide⟩
      · refine sb_if_eq_f 74 cz9 (by decide) ?_
        refine sb_in [(48, .aload_n 0, 1), (49, .iload_n 3, 1), (50, .iconst 0, 1), (51, .iload_n 1, 1), (52, .iconst 1, 1), (53, .if_icmp .ne 8, 3)] 56 (by decide +kernel) ?_
        refine sb_aload_n rfl ?_
        refine sb_iload_n rfl ?_
        refine sb_iconst cI0 ?_
        refine sb_iload_n rfl ?_
        refine sb_iconst cI1 ?_
        have hJ64 : RN P 2 kX12_canSet 64 [] [.int (if z1 = 1 then (9 : Int32) else 999), .int 0, .int z3, .ref 217] (S M) r := by
          refine sb_in [(64, .invokevirtual 143, 3), (67, .ifCond .eq 7, 3)] 70 (by decide +kernel) ?_
          refine sb_callVi 3 rfl oX12_isIn ln12_143 vX12_isIn (rc_own h217.1 (S_lt h217.2) (by decide)) (rnCk_of (by decide +kernel) rfl) (tfM_isIn) ?_
          rcases ife h with ⟨cz10, h⟩ | ⟨cz10, h⟩
          · refine sb_if_eq_t 74 cz10 (by decide) ?_
            refine sb_in [(74, .iconst 0, 1)] 75 (by decide +kernel) ?_
            refine sb_iconst cI0 ?_
            refine sb_end ?_
            refine sb_in [(75, .ireturn, 1)] 76 (by decide +kernel) ?_
            cases h
            subst hr
            refine sb_ireturn ?_
            exact ⟨.boolean, rfl, by decide⟩
          · refine sb_if_eq_f 74 cz10 (by decide) ?_
            refine sb_in [(70, .iconst 1, 1), (71, .goto 4, 3)] 74 (by decide +kernel) ?_
            refine sb_iconst cI1 ?_
            refine sb_goto 75 (by decide) ?_
            refine sb_in [(75, .ireturn, 1)] 76 (by decide +kernel) ?_
            cases h
            subst hr
            refine sb_ireturn ?_
            exact ⟨.boolean, rfl, by decide⟩
        rcases Decidable.em (z1 = 1) with cz11 | cz11
        · refine sb_icmp_ne_f 61 cz11 (by decide) ?_
          refine sb_in [(56, .bipush 9, 2), (58, .goto 6, 3)] 61 (by decide +kernel) ?_
          refine sb_bipush cB9 ?_
          refine sb_goto 64 (by decide) ?_
          have hq := hJ64
          simp only [if_pos cz11] at hq
          exact rn_sub [] rfl hq
        · refine sb_icmp_ne_t 61 cz11 (by decide) ?_
          refine sb_in [(61, .sipush 999, 3)] 64 (by decide +kernel) ?_
          refine sb_sipush cS999 ?_
          refine sb_end ?_
          have hq := hJ64
          simp only [if_neg cz11] at hq
          exact rn_sub [] rfl hq
    rcases ife h with ⟨cz12, h⟩ | ⟨cz12, h⟩
    · refine sb_icmp_eq_t 40 cz12 (by decide) ?_
      exact rn_sub [0, 1, 2, 3] rfl (hJ40 _ _ _ h)
    · refine sb_icmp_eq_f 40 cz12 (by decide) ?_
      refine sb_in [(35, .iload_n 1, 1), (36, .iconst 2, 1), (37, .if_icmp .ne 39, 3)] 40 (by decide +kernel) ?_
      refine sb_iload_n rfl ?_
      refine sb_iconst cI2 ?_
      rcases ife h with ⟨cz13, h⟩ | ⟨cz13, h⟩
      · refine sb_icmp_ne_f 76 cz13 (by decide) ?_
        exact rn_sub [0, 1, 2, 3] rfl (hJ40 _ _ _ h)
      · refine sb_icmp_ne_t 76 cz13 (by decide) ?_
        refine sb_in [(76, .iload_n 1, 1), (77, .iconst 3, 1), (78, .if_icmp .eq 8, 3)] 81 (by decide +kernel) ?_
        refine sb_iload_n rfl ?_
        refine sb_iconst cI3 ?_
        have hJ86 : ∀ (z3 : Int32), fM_canSet_j86 z3 M = some rr → RN P 2 kX12_canSet 86 [(0, .ref 217), (3, .int z3)] [] (S M) r := by
          intro z3 h
          unfold fM_canSet_j86 at h
          refine sb_in [(86, .aload_n 0, 1), (87, .iload_n 3, 1), (88, .iconst 0, 1), (89, .bipush 99, 2), (91, .invokevirtual 143, 3), (94, .ifCond .eq 7, 3)] 97 (by decide +kernel) ?_
          refine sb_aload_n rfl ?_
          refine sb_iload_n rfl ?_
          refine sb_iconst cI0 ?_
          refine sb_bipush cB99 ?_
          refine sb_callVi 3 rfl oX12_isIn ln12_143 vX12_isIn (rc_own h217.1 (S_lt h217.2) (by decide)) (rnCk_of (by decide +kernel) rfl) (tfM_isIn) ?_
          rcases ife h with ⟨cz14, h⟩ | ⟨cz14, h⟩
          · refine sb_if_eq_t 101 cz14 (by decide) ?_
            refine sb_in [(101, .iconst 0, 1)] 102 (by decide +kernel) ?_
            refine sb_iconst cI0 ?_
            refine sb_end ?_
            refine sb_in [(102, .ireturn, 1)] 103 (by decide +kernel) ?_
            cases h
            subst hr
            refine sb_ireturn ?_
            exact ⟨.boolean, rfl, by decide⟩
          · refine sb_if_eq_f 101 cz14 (by decide) ?_
            refine sb_in [(97, .iconst 1, 1), (98, .goto 4, 3)] 101 (by decide +kernel) ?_
            refine sb_iconst cI1 ?_
            refine sb_goto 102 (by decide) ?_
            refine sb_in [(102, .ireturn, 1)] 103 (by decide +kernel) ?_
            cases h
            subst hr
            refine sb_ireturn ?_
            exact ⟨.boolean, rfl, by decide⟩
        rcases ife h with ⟨cz15, h⟩ | ⟨cz15, h⟩
        · refine sb_icmp_eq_t 86 cz15 (by decide) ?_
          exact rn_sub [0, 3] rfl (hJ86 _ h)
        · refine sb_icmp_eq_f 86 cz15 (by decide) ?_
          refine sb_in [(81, .iload_n 1, 1), (82, .iconst 4, 1), (83, .if_icmp .ne 18, 3)] 86 (by decide +kernel) ?_
          refine sb_iload_n rfl ?_
          refine sb_iconst cI4 ?_
          rcases ife h with ⟨cz16, h⟩ | ⟨cz16, h⟩
          · refine sb_icmp_ne_f 101 cz16 (by decide) ?_
            exact rn_sub [0, 3] rfl (hJ86 _ h)
          · refine sb_icmp_ne_t 101 cz16 (by decide) ?_
            refine sb_in [(101, .iconst 0, 1)] 102 (by decide +kernel) ?_
            refine sb_iconst cI0 ?_
            refine sb_end ?_
            refine sb_in [(102, .ireturn, 1)] 103 (by decide +kernel) ?_
            cases h
            subst hr
            refine sb_ireturn ?_
            exact ⟨.boolean, rfl, by decide⟩
theorem tfM_canSet {P : Px} {x1 : Int32} {x2 : Int32} {x3 : Int32} {M : Mm} {rr : Int32} (h : fM_canSet x1 x2 x3 M = some rr) : EX P 2 kX12_canSet [.ref 217, .int x1, .int x2, .int x3] (S M) (some (.int rr), S M) := ex_of oX12_canSet (Nat.le_of_ble_eq_true rfl) (nfM_canSet  h rfl)
end RnT
