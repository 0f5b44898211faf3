section RnT
set_option maxRecDepth 20000 in
theorem nfM_isIn {P : Px} {x1 : Int32} {x2 : Int32} {x3 : Int32} {M : Mm} {rr : Int32} (h : fM_isIn x1 x2 x3 = rr) {r : Option Value × Sg} (hr : r = (some (.int rr), S M)) : RN P 1 kX12_isIn 0 [(0, .ref 217), (1, .int x1), (2, .int x2), (3, .int x3)] [] (S M) r := by
  unfold fM_isIn at h
  refine sb_in [(0, .iload_n 1, 1), (1, .iload_n 2, 1), (2, .if_icmp .lt 12, 3)] 5 (by decide +kernel) ?_
  refine sb_iload_n rfl ?_
  refine sb_iload_n rfl ?_
  rcases ife h with ⟨cz1, h⟩ | ⟨cz1, h⟩
  · refine sb_icmp_lt_t 14 cz1 (by decide) ?_
    refine sb_in [(14, .iconst 0, 1)] 15 (by decide +kernel) ?_
    refine sb_iconst cI0 ?_
    refine sb_end ?_
    refine sb_in [(15, .ireturn, 1)] 16 (by decide +kernel) ?_
    subst h
    subst hr
    refine sb_ireturn ?_
    exact ⟨.boolean, rfl, by decide⟩
  · refine sb_icmp_lt_f 14 cz1 (by decide) ?_
    refine sb_in [(5, .iload_n 1, 1), (6, .iload_n 3, 1), (7, .if_icmp .gt 7, 3)] 10 (by decide +kernel) ?_
    refine sb_iload_n rfl ?_
    refine sb_iload_n rfl ?_
    rcases ife h with ⟨cz2, h⟩ | ⟨cz2, h⟩
    · refine sb_icmp_gt_t 14 cz2 (by decide) ?_
      refine sb_in [(14, .iconst 0, 1)] 15 (by decide +kernel) ?_
      refine sb_iconst cI0 ?_
      refine sb_end ?_
      refine sb_in [(15, .ireturn, 1)] 16 (by decide +kernel) ?_
      subst h
      subst hr
      refine sb_ireturn ?_
      exact ⟨.boolean, rfl, by decide⟩
    · refine sb_icmp_gt_f 14 cz2 (by decide) ?_
      refine sb_in [(10, .iconst 1, 1), (11, .goto 4, 3)] 14 (by decide +kernel) ?_
      refine sb_iconst cI1 ?_
      refine sb_goto 15 (by decide) ?_
      refine sb_in [(15, .ireturn, 1)] 16 (by decide +kernel) ?_
      subst h
      subst hr
      refine sb_ireturn ?_
      exact ⟨.boolean, rfl, by decide⟩
theorem tfM_isIn {P : Px} {x1 : Int32} {x2 : Int32} {x3 : Int32} {M : Mm} : EX P 1 kX12_isIn [.ref 217, .int x1, .int x2, .int x3] (S M) (some (.int (fM_isIn x1 x2 x3)), S M) := ex_of oX12_isIn (Nat.le_of_ble_eq_true rfl) (nfM_isIn  rfl rfl)
set_option maxRecDepth 20000 in
theorem nfM_held {P : Px} {x1 : Int32} {x2 : Int32} {x3 : Int32} {M : Mm} {rr : Int32} (h : fM_held x1 x2 x3 = rr) {r : Option Value × Sg} (hr : r = (some (.int rr), S M)) : RN P 1 kX12_held 0 [(0, .ref 217), (1, .int x1), (2, .int x2), (3, .int x3)] [] (S M) r := by
  unfold fM_held at h
  refine sb_in [(0, .iload_n 1, 1), (1, .iload_n 2, 1), (2, .if_icmp .ge 7, 3)] 5 (by decide +kernel) ?_
  refine sb_iload_n rfl ?_
  refine sb_iload_n rfl ?_
  rcases ife h with ⟨cz1, h⟩ | ⟨cz1, h⟩
  · refine sb_icmp_ge_t 9 cz1 (by decide) ?_
    refine sb_in [(9, .iload_n 1, 1), (10, .iload_n 3, 1), (11, .if_icmp .le 7, 3)] 14 (by decide +kernel) ?_
    refine sb_iload_n rfl ?_
    refine sb_iload_n rfl ?_
    rcases ife h with ⟨cz2, h⟩ | ⟨cz2, h⟩
    · refine sb_icmp_le_t 18 cz2 (by decide) ?_
      refine sb_in [(18, .iload_n 1, 1)] 19 (by decide +kernel) ?_
      refine sb_iload_n rfl ?_
      refine sb_end ?_
      refine sb_in [(19, .ireturn, 1)] 20 (by decide +kernel) ?_
      subst h
      subst hr
      refine sb_ireturn ?_
      exact ⟨.int, rfl, rfl⟩
    · refine sb_icmp_le_f 18 cz2 (by decide) ?_
      refine sb_in [(14, .iload_n 3, 1), (15, .goto 4, 3)] 18 (by decide +kernel) ?_
      refine sb_iload_n rfl ?_
      refine sb_goto 19 (by decide) ?_
      refine sb_in [(19, .ireturn, 1)] 20 (by decide +kernel) ?_
      subst h
      subst hr
      refine sb_ireturn ?_
      exact ⟨.int, rfl, rfl⟩
  · refine sb_icmp_ge_f 9 cz1 (by decide) ?_
    refine sb_in [(5, .iload_n 2, 1), (6, .goto 13, 3)] 9 (by decide +kernel) ?_
    refine sb_iload_n rfl ?_
    refine sb_goto 19 (by decide) ?_
    refine sb_in [(19, .ireturn, 1)] 20 (by decide +kernel) ?_
    subst h
    subst hr
    refine sb_ireturn ?_
    exact ⟨.int, rfl, rfl⟩
theorem tfM_held {P : Px} {x1 : Int32} {x2 : Int32} {x3 : Int32} {M : Mm} : EX P 1 kX12_held [.ref 217, .int x1, .int x2, .int x3] (S M) (some (.int (fM_held x1 x2 x3)), S M) := ex_of oX12_held (Nat.le_of_ble_eq_true rfl) (nfM_held  rfl rfl)
set_option maxRecDepth 20000 in
theorem nfM_greater {P : Px} {x1 : Int32} {x2 : Int32} {M : Mm} {rr : Int32} (h : fM_greater x1 x2 = rr) {r : Option Value × Sg} (hr : r = (some (.int rr), S M)) : RN P 1 kX12_greater 0 [(0, .ref 217), (1, .int x1), (2, .int x2)] [] (S M) r := by
  unfold fM_greater at h
  refine sb_in [(0, .iload_n 1, 1), (1, .iload_n 2, 1), (2, .if_icmp .le 7, 3)] 5 (by decide +kernel) ?_
  refine sb_iload_n rfl ?_
  refine sb_iload_n rfl ?_
  rcases ife h with ⟨cz1, h⟩ | ⟨cz1, h⟩
  · refine sb_icmp_le_t 9 cz1 (by decide) ?_
    refine sb_in [(9, .iload_n 2, 1)] 10 (by decide +kernel) ?_
    refine sb_iload_n rfl ?_
    refine sb_end ?_
    refine sb_in [(10, .ireturn, 1)] 11 (by decide +kernel) ?_
    subst h
    subst hr
    refine sb_ireturn ?_
    exact ⟨.int, rfl, rfl⟩
  · refine sb_icmp_le_f 9 cz1 (by decide) ?_
    refine sb_in [(5, .iload_n 1, 1), (6, .goto 4, 3)] 9 (by decide +kernel) ?_
    refine sb_iload_n rfl ?_
    refine sb_goto 10 (by decide) ?_
    refine sb_in [(10, .ireturn, 1)] 11 (by decide +kernel) ?_
    subst h
    subst hr
    refine sb_ireturn ?_
    exact ⟨.int, rfl, rfl⟩
theorem tfM_greater {P : Px} {x1 : Int32} {x2 : Int32} {M : Mm} : EX P 1 kX12_greater [.ref 217, .int x1, .int x2] (S M) (some (.int (fM_greater x1 x2)), S M) := ex_of oX12_greater (Nat.le_of_ble_eq_true rfl) (nfM_greater  rfl rfl)
set_option maxRecDepth 20000 in
theorem nfM_lesser {P : Px} {x1 : Int32} {x2 : Int32} {M : Mm} {rr : Int32} (h : fM_lesser x1 x2 = rr) {r : Option Value × Sg} (hr : r = (some (.int rr), S M)) : RN P 1 kX12_lesser 0 [(0, .ref 217), (1, .int x1), (2, .int x2)] [] (S M) r := by
  unfold fM_lesser at h
  refine sb_in [(0, .iload_n 1, 1), (1, .iload_n 2, 1), (2, .if_icmp .ge 7, 3)] 5 (by decide +kernel) ?_
  refine sb_iload_n rfl ?_
  refine sb_iload_n rfl ?_
  rcases ife h with ⟨cz1, h⟩ | ⟨cz1, h⟩
  · refine sb_icmp_ge_t 9 cz1 (by decide) ?_
    refine sb_in [(9, .iload_n 2, 1)] 10 (by decide +kernel) ?_
    refine sb_iload_n rfl ?_
    refine sb_end ?_
    refine sb_in [(10, .ireturn, 1)] 11 (by decide +kernel) ?_
    subst h
    subst hr
    refine sb_ireturn ?_
    exact ⟨.int, rfl, rfl⟩
  · refine sb_icmp_ge_f 9 cz1 (by decide) ?_
    refine sb_in [(5, .iload_n 1, 1), (6, .goto 4, 3)] 9 (by decide +kernel) ?_
    refine sb_iload_n rfl ?_
    refine sb_goto 10 (by decide) ?_
    refine sb_in [(10, .ireturn, 1)] 11 (by decide +kernel) ?_
    subst h
    subst hr
    refine sb_ireturn ?_
    exact ⟨.int, rfl, rfl⟩
theorem tfM_lesser {P : Px} {x1 : Int32} {x2 : Int32} {M : Mm} : EX P 1 kX12_lesser [.ref 217, .int x1, .int x2] (S M) (some (.int (fM_lesser x1 x2)), S M) := ex_of oX12_lesser (Nat.le_of_ble_eq_true rfl) (nfM_lesser  rfl rfl)
set_option maxRecDepth 20000 in
theorem nfM_lies {P : Px} {x1 : Int32} {x2 : Int32} {M : Mm} {rr : Int32} (h : fM_lies x1 x2 = rr) {r : Option Value × Sg} (hr : r = (some (.int rr), S M)) : RN P 1 kX12_lies 0 [(0, .ref 217), (1, .int x1), (2, .int x2)] [] (S M) r := by
  unfold fM_lies at h
  refine sb_in [(0, .iload_n 1, 1), (1, .iload_n 2, 1), (2, .ishr, 1), (3, .iconst 1, 1), (4, .iand, 1), (5, .iconst 1, 1), (6, .if_icmp .ne 7, 3)] 9 (by decide +kernel) ?_
  refine sb_iload_n rfl ?_
  refine sb_iload_n rfl ?_
  refine sb_ishr ?_
  refine sb_iconst cI1 ?_
  refine sb_iand ?_
  refine sb_iconst cI1 ?_
  rcases ife h with ⟨cz1, h⟩ | ⟨cz1, h⟩
  · refine sb_icmp_ne_f 13 cz1 (by decide) ?_
    refine sb_in [(9, .iconst 1, 1), (10, .goto 4, 3)] 13 (by decide +kernel) ?_
    refine sb_iconst cI1 ?_
    refine sb_goto 14 (by decide) ?_
    refine sb_in [(14, .ireturn, 1)] 15 (by decide +kernel) ?_
    subst h
    subst hr
    refine sb_ireturn ?_
    exact ⟨.boolean, rfl, by decide⟩
  · refine sb_icmp_ne_t 13 cz1 (by decide) ?_
    refine sb_in [(13, .iconst 0, 1)] 14 (by decide +kernel) ?_
    refine sb_iconst cI0 ?_
    refine sb_end ?_
    refine sb_in [(14, .ireturn, 1)] 15 (by decide +kernel) ?_
    subst h
    subst hr
    refine sb_ireturn ?_
    exact ⟨.boolean, rfl, by decide⟩
theorem tfM_lies {P : Px} {x1 : Int32} {x2 : Int32} {M : Mm} : EX P 1 kX12_lies [.ref 217, .int x1, .int x2] (S M) (some (.int (fM_lies x1 x2)), S M) := ex_of oX12_lies (Nat.le_of_ble_eq_true rfl) (nfM_lies  rfl rfl)
set_option maxRecDepth 20000 in
theorem nfM_keepsAhead {P : Px} {M : Mm} {rr : Mm} (h : fM_keepsAhead M = some rr) {r : Option Value × Sg} (hr : r = (none, S rr)) : RN P 1 kX12_keepsAhead 0 [(0, .ref 217)] [] (S M) r := by
  unfold fM_keepsAhead at h
  refine sb_in [(0, .aload_n 0, 1), (1, .getfield 120, 3), (4, .bipush 6, 2), (6, .if_icmp .ne 49, 3)] 9 (by decide +kernel) ?_
  refine sb_aload_n rfl ?_
  refine ss_getI g12_120 h217 ?_
  refine sb_bipush cB6 ?_
  obtain ⟨Mz6, hj55, h⟩ := bd h
  have hJ55 : RN P 1 kX12_keepsAhead 55 [(0, .ref 217)] [] (S Mz6) r := by
    refine sb_in [(55, .iconst 0, 1), (56, .istore_n 1, 1)] 57 (by decide +kernel) ?_
    refine sb_iconst cI0 ?_
    refine sb_istore_n (by decide) rfl ?_
    refine sb_end ?_
    obtain ⟨e57, hl57, h⟩ := bd h
    refine rn_sub [0, 1] rfl ?_
    refine lp_ind (P := fun s => RN P 1 kX12_keepsAhead 57 [(0, .ref 217), (1, .int s.1)] [] (S s.2) r) (E := fun p => RN P 1 kX12_keepsAhead 91 [(0, .ref 217)] [] (S p) r) ?_ _ _ _ hl57 ?_
    · intro s qx h hc
      obtain ⟨x1, M⟩ := s
      replace h : fM_keepsAhead_b57 x1 M = some qx := h
      show RN P 1 kX12_keepsAhead 57 [(0, .ref 217), (1, .int x1)] [] (S M) r
      unfold fM_keepsAhead_b57 at h
      refine sb_in [(57, .iload_n 1, 1), (58, .sipush 174, 3), (61, .if_icmp .ge 30, 3)] 64 (by decide +kernel) ?_
      refine sb_iload_n rfl ?_
      refine sb_sipush cS174 ?_
      rcases ife h with ⟨cz12, h⟩ | ⟨cz12, h⟩
      · refine sb_icmp_ge_t 91 cz12 (by decide) ?_
        cases h
        exact rn_sub [0] rfl hc
      · refine sb_icmp_ge_f 91 cz12 (by decide) ?_
        refine sb_in [(64, .aload_n 0, 1), (65, .getfield 13, 3), (68, .sipush 174, 3), (71, .aload_n 0, 1), (72, .getfield 120, 3), (75, .imul, 1), (76, .iload_n 1, 1), (77, .iadd, 1), (78, .aload_n 0, 1), (79, .getfield 7, 3), (82, .iload_n 1, 1), (83, .iaload, 1), (84, .iastore, 1), (85, .iinc 1 1, 3), (88, .goto (-31), 3)] 91 (by decide +kernel) ?_
        refine sb_aload_n rfl ?_
        refine ss_getR g12_13 h217 r217_2 ?_
        refine sb_sipush cS174 ?_
        refine sb_aload_n rfl ?_
        refine ss_getI g12_120 h217 ?_
        refine sb_imul ?_
        refine sb_iload_n rfl ?_
        refine sb_iadd ?_
        refine sb_aload_n rfl ?_
        refine ss_getR g12_7 h217 r217_1 ?_
        refine sb_iload_n rfl ?_
        obtain ⟨hgz7, h⟩ := gd h
        refine ss_iald h218 hgz7 ?_
        obtain ⟨hgz9, h⟩ := gd h
        refine ss_iast h219 (by decide) hgz9 ?_
        refine ss_iinc cI1 rfl (by decide) rfl ?_
        refine sb_goto 57 (by decide) ?_
        cases h
        exact rn_sub [0, 1] rfl hc
    · clear hl57
      obtain ⟨Mz10, hey⟩ : ∃ z, z = e57 := ⟨_, rfl⟩
      subst hey
      show RN P 1 kX12_keepsAhead 91 [(0, .ref 217)] [] (S Mz10) r
      refine sb_in [(91, .aload_n 0, 1), (92, .aload_n 0, 1), (93, .getfield 120, 3), (96, .iconst 1, 1), (97, .iadd, 1), (98, .putfield 120, 3), (101, .return_, 1)] 102 (by decide +kernel) ?_
      refine sb_aload_n rfl ?_
      refine sb_aload_n rfl ?_
      refine ss_getI g12_120 h217 ?_
      refine sb_iconst cI1 ?_
      refine sb_iadd ?_
      refine ss_putI p12_120 h217 (by decide) ?_
      cases h
      subst hr
      refine sb_return ?_
      exact rfl
  clear h
  have h := hj55
  rcases ife h with ⟨cz13, h⟩ | ⟨cz13, h⟩
  · refine sb_icmp_ne_f 55 cz13 (by decide) ?_
    refine sb_in [(9, .aload_n 0, 1), (10, .aload_n 0, 1), (11, .getfield 120, 3), (14, .iconst 1, 1), (15, .isub, 1), (16, .putfield 120, 3), (19, .iconst 0, 1), (20, .istore_n 1, 1)] 21 (by decide +kernel) ?_
    refine sb_aload_n rfl ?_
    refine sb_aload_n rfl ?_
    refine ss_getI g12_120 h217 ?_
    refine sb_iconst cI1 ?_
    refine sb_isub ?_
    refine ss_putI p12_120 h217 (by decide) ?_
    refine sb_iconst cI0 ?_
    refine sb_istore_n (by decide) rfl ?_
    refine sb_end ?_
    obtain ⟨e21, hl21, h⟩ := bd h
    refine rn_sub [0, 1] rfl ?_
    refine lp_ind (P := fun s => RN P 1 kX12_keepsAhead 21 [(0, .ref 217), (1, .int s.1)] [] (S s.2) r) (E := fun p => RN P 1 kX12_keepsAhead 55 [(0, .ref 217)] [] (S p) r) ?_ _ _ _ hl21 ?_
    · intro s qx h hc
      obtain ⟨x1, M⟩ := s
      replace h : fM_keepsAhead_b21 x1 M = some qx := h
      show RN P 1 kX12_keepsAhead 21 [(0, .ref 217), (1, .int x1)] [] (S M) r
      unfold fM_keepsAhead_b21 at h
      refine sb_in [(21, .iload_n 1, 1), (22, .sipush 174, 3), (25, .aload_n 0, 1), (26, .getfield 120, 3), (29, .imul, 1), (30, .if_icmp .ge 25, 3)] 33 (by decide +kernel) ?_
      refine sb_iload_n rfl ?_
      refine sb_sipush cS174 ?_
      refine sb_aload_n rfl ?_
      refine ss_getI g12_120 h217 ?_
      refine sb_imul ?_
      rcases ife h with ⟨cz14, h⟩ | ⟨cz14, h⟩
      · refine sb_icmp_ge_t 55 cz14 (by decide) ?_
        cases h
        exact rn_sub [0] rfl hc
      · refine sb_icmp_ge_f 55 cz14 (by decide) ?_
        refine sb_in [(33, .aload_n 0, 1), (34, .getfield 13, 3), (37, .iload_n 1, 1), (38, .aload_n 0, 1), (39, .getfield 13, 3), (42, .iload_n 1, 1), (43, .sipush 174, 3), (46, .iadd, 1), (47, .iaload, 1), (48, .iastore, 1), (49, .iinc 1 1, 3), (52, .goto (-31), 3)] 55 (by decide +kernel) ?_
        refine sb_aload_n rfl ?_
        refine ss_getR g12_13 h217 r217_2 ?_
        refine sb_iload_n rfl ?_
        refine sb_aload_n rfl ?_
        refine ss_getR g12_13 h217 r217_2 ?_
        refine sb_iload_n rfl ?_
        refine sb_sipush cS174 ?_
        refine sb_iadd ?_
        obtain ⟨hgz2, h⟩ := gd h
        refine ss_iald h219 hgz2 ?_
        obtain ⟨hgz4, h⟩ := gd h
        refine ss_iast h219 (by decide) hgz4 ?_
        refine ss_iinc cI1 rfl (by decide) rfl ?_
        refine sb_goto 21 (by decide) ?_
        cases h
        exact rn_sub [0, 1] rfl hc
    · clear hl21
      obtain ⟨Mz5, hey⟩ : ∃ z, z = e21 := ⟨_, rfl⟩
      subst hey
      show RN P 1 kX12_keepsAhead 55 [(0, .ref 217)] [] (S Mz5) r
      cases h
      exact rn_sub [0] rfl hJ55
  · refine sb_icmp_ne_t 55 cz13 (by decide) ?_
    cases h
    exact rn_sub [0] rfl hJ55
theorem tfM_keepsAhead {P : Px} {M : Mm} {rr : Mm} (h : fM_keepsAhead M = some rr) : EX P 1 kX12_keepsAhead [.ref 217] (S M) (none, S rr) := ex_of oX12_keepsAhead (Nat.le_of_ble_eq_true rfl) (nfM_keepsAhead  h rfl)
set_option maxRecDepth 20000 in
theorem nfM_undo {P : Px} {M : Mm} {rr : (Int32 × Mm)} (h : fM_undo M = some rr) {r : Option Value × Sg} (hr : r = (some (.int rr.1), S rr.2)) : RN P 1 kX12_undo 0 [(0, .ref 217)] [] (S M) r := by
  unfold fM_undo at h
  refine sb_in [(0, .aload_n 0, 1), (1, .iconst 0, 1), (2, .putfield 116, 3), (5, .aload_n 0, 1), (6, .getfield 120, 3), (9, .ifCond .ne 5, 3)] 12 (by decide +kernel) ?_
  refine sb_aload_n rfl ?_
  refine sb_iconst cI0 ?_
  refine ss_putI p12_116 h217 (by decide) ?_
  refine sb_aload_n rfl ?_
  refine ss_getI g12_120 h217 ?_
  rcases ife h with ⟨cz7, h⟩ | ⟨cz7, h⟩
  · refine sb_if_ne_f 14 cz7 (by decide) ?_
    refine sb_in [(12, .iconst 0, 1), (13, .ireturn, 1)] 14 (by decide +kernel) ?_
    refine sb_iconst cI0 ?_
    cases h
    subst hr
    refine sb_ireturn ?_
    exact ⟨.boolean, rfl, by decide⟩
  · refine sb_if_ne_t 14 cz7 (by decide) ?_
    refine sb_in [(14, .aload_n 0, 1), (15, .aload_n 0, 1), (16, .getfield 120, 3), (19, .iconst 1, 1), (20, .isub, 1), (21, .putfield 120, 3), (24, .iconst 0, 1), (25, .istore_n 1, 1)] 26 (by decide +kernel) ?_
    refine sb_aload_n rfl ?_
    refine sb_aload_n rfl ?_
    refine ss_getI g12_120 h217 ?_
    refine sb_iconst cI1 ?_
    refine sb_isub ?_
    refine ss_putI p12_120 h217 (by decide) ?_
    refine sb_iconst cI0 ?_
    refine sb_istore_n (by decide) rfl ?_
    refine sb_end ?_
    obtain ⟨e26, hl26, h⟩ := bd h
    refine rn_sub [0, 1] rfl ?_
    refine lp_ind (P := fun s => RN P 1 kX12_undo 26 [(0, .ref 217), (1, .int s.1)] [] (S s.2) r) (E := fun p => RN P 1 kX12_undo 60 [] [] (S p) r) ?_ _ _ _ hl26 ?_
    · intro s qx h hc
      obtain ⟨x1, M⟩ := s
      replace h : fM_undo_b26 x1 M = some qx := h
      show RN P 1 kX12_undo 26 [(0, .ref 217), (1, .int x1)] [] (S M) r
      unfold fM_undo_b26 at h
      refine sb_in [(26, .iload_n 1, 1), (27, .sipush 174, 3), (30, .if_icmp .ge 30, 3)] 33 (by decide +kernel) ?_
      refine sb_iload_n rfl ?_
      refine sb_sipush cS174 ?_
      rcases ife h with ⟨cz8, h⟩ | ⟨cz8, h⟩
      · refine sb_icmp_ge_t 60 cz8 (by decide) ?_
        cases h
        exact rn_sub [] rfl hc
      · refine sb_icmp_ge_f 60 cz8 (by decide) ?_
        refine sb_in [(33, .aload_n 0, 1), (34, .getfield 7, 3), (37, .iload_n 1, 1), (38, .aload_n 0, 1), (39, .getfield 13, 3), (42, .sipush 174, 3), (45, .aload_n 0, 1), (46, .getfield 120, 3), (49, .imul, 1), (50, .iload_n 1, 1), (51, .iadd, 1), (52, .iaload, 1), (53, .iastore, 1), (54, .iinc 1 1, 3), (57, .goto (-31), 3)] 60 (by decide +kernel) ?_
        refine sb_aload_n rfl ?_
        refine ss_getR g12_7 h217 r217_1 ?_
        refine sb_iload_n rfl ?_
        refine sb_aload_n rfl ?_
        refine ss_getR g12_13 h217 r217_2 ?_
        refine sb_sipush cS174 ?_
        refine sb_aload_n rfl ?_
        refine ss_getI g12_120 h217 ?_
        refine sb_imul ?_
        refine sb_iload_n rfl ?_
        refine sb_iadd ?_
        obtain ⟨hgz3, h⟩ := gd h
        refine ss_iald h219 hgz3 ?_
        obtain ⟨hgz5, h⟩ := gd h
        refine ss_iast h218 (by decide) hgz5 ?_
        refine ss_iinc cI1 rfl (by decide) rfl ?_
        refine sb_goto 26 (by decide) ?_
        cases h
        exact rn_sub [0, 1] rfl hc
    · clear hl26
      obtain ⟨Mz6, hey⟩ : ∃ z, z = e26 := ⟨_, rfl⟩
      subst hey
      show RN P 1 kX12_undo 60 [] [] (S Mz6) r
      refine sb_in [(60, .iconst 1, 1), (61, .ireturn, 1)] 62 (by decide +kernel) ?_
      refine sb_iconst cI1 ?_
      cases h
      subst hr
      refine sb_ireturn ?_
      exact ⟨.boolean, rfl, by decide⟩
theorem tfM_undo {P : Px} {M : Mm} {rr : (Int32 × Mm)} (h : fM_undo M = some rr) : EX P 1 kX12_undo [.ref 217] (S M) (some (.int rr.1), S rr.2) := ex_of oX12_undo (Nat.le_of_ble_eq_true rfl) (nfM_undo  h rfl)
set_option maxRecDepth 20000 in
theorem nfM_state {P : Px} {x1 : Int32} {M : Mm} {rr : (Int32 × Mm)} (h : fM_state x1 M = rr) {r : Option Value × Sg} (hr : r = (some (.int rr.1), S rr.2)) : RN P 1 kX12_state 0 [(0, .ref 217), (1, .int x1)] [] (S M) r := by
  unfold fM_state at h
  refine sb_in [(0, .aload_n 0, 1), (1, .iconst 0, 1), (2, .putfield 116, 3), (5, .aload_n 0, 1), (6, .getfield 7, 3), (9, .iconst 1, 1), (10, .iaload, 1), (11, .istore_n 2, 1), (12, .aload_n 0, 1), (13, .getfield 7, 3), (16, .iconst 1, 1), (17, .iload_n 1, 1), (18, .iastore, 1), (19, .aload_n 0, 1), (20, .iconst 0, 1), (21, .putfield 120, 3), (24, .iload_n 2, 1), (25, .ireturn, 1)] 26 (by decide +kernel) ?_
  refine sb_aload_n rfl ?_
  refine sb_iconst cI0 ?_
  refine ss_putI p12_116 h217 (by decide) ?_
  refine sb_aload_n rfl ?_
  refine ss_getR g12_7 h217 r217_1 ?_
  refine sb_iconst cI1 ?_
  refine ss_ialdL 1 h218 iL1 rfl ?_
  refine sb_istore_n (by decide) rfl ?_
  refine sb_aload_n rfl ?_
  refine ss_getR g12_7 h217 r217_1 ?_
  refine sb_iconst cI1 ?_
  refine sb_iload_n rfl ?_
  refine ss_iastL 1 h218 (by decide) iL1 rfl ?_
  refine sb_aload_n rfl ?_
  refine sb_iconst cI0 ?_
  refine ss_putI p12_120 h217 (by decide) ?_
  refine sb_iload_n rfl ?_
  subst h
  subst hr
  refine sb_ireturn ?_
  exact ⟨.int, rfl, rfl⟩
theorem tfM_state {P : Px} {x1 : Int32} {M : Mm} : EX P 1 kX12_state [.ref 217, .int x1] (S M) (some (.int (fM_state x1 M).1), S (fM_state x1 M).2) := ex_of oX12_state (Nat.le_of_ble_eq_true rfl) (nfM_state  rfl rfl)
set_option maxRecDepth 20000 in
theorem nfM_draw {P : Px} {x1 : Int32} {M : Mm} {rr : (Int32 × Mm)} (h : fM_draw x1 M = some rr) {r : Option Value × Sg} (hr : r = (some (.int rr.1), S rr.2)) : RN P 1 kX12_draw 0 [(0, .ref 217), (1, .int x1)] [] (S M) r := by
  unfold fM_draw at h
  refine sb_in [(0, .aload_n 0, 1), (1, .getfield 7, 3), (4, .iconst 1, 1), (5, .ldc 127, 2), (7, .aload_n 0, 1), (8, .getfield 7, 3), (11, .iconst 1, 1), (12, .iaload, 1), (13, .imul, 1), (14, .ldc 128, 2), (16, .iadd, 1), (17, .iastore, 1), (18, .aload_n 0, 1), (19, .getfield 7, 3), (22, .iconst 1, 1), (23, .iaload, 1), (24, .bipush 8, 2), (26, .iushr, 1), (27, .iload_n 1, 1), (28, .irem, 1), (29, .ireturn, 1)] 30 (by decide +kernel) ?_
  refine sb_aload_n rfl ?_
  refine ss_getR g12_7 h217 r217_1 ?_
  refine sb_iconst cI1 ?_
  refine sb_ldc (v := 1664525) rfl ?_
  refine sb_aload_n rfl ?_
  refine ss_getR g12_7 h217 r217_1 ?_
  refine sb_iconst cI1 ?_
  refine ss_ialdL 1 h218 iL1 rfl ?_
  refine sb_imul ?_
  refine sb_ldc (v := 1013904223) rfl ?_
  refine sb_iadd ?_
  refine ss_iastL 1 h218 (by decide) iL1 rfl ?_
  refine sb_aload_n rfl ?_
  refine ss_getR g12_7 h217 r217_1 ?_
  refine sb_iconst cI1 ?_
  refine ss_ialdL 1 h218 iL1 rfl ?_
  refine sb_bipush cB8 ?_
  refine sb_iushr ?_
  refine sb_iload_n rfl ?_
  obtain ⟨hgz2, h⟩ := gd h
  refine sb_irem hgz2 ?_
  cases h
  subst hr
  refine sb_ireturn ?_
  exact ⟨.int, rfl, rfl⟩
theorem tfM_draw {P : Px} {x1 : Int32} {M : Mm} {rr : (Int32 × Mm)} (h : fM_draw x1 M = some rr) : EX P 1 kX12_draw [.ref 217, .int x1] (S M) (some (.int rr.1), S rr.2) := ex_of oX12_draw (Nat.le_of_ble_eq_true rfl) (nfM_draw  h rfl)
set_option maxRecDepth 20000 in
theorem nfM_isDoor {P : Px} {x1 : Int32} {M : Mm} {rr : Int32} (h : fM_isDoor x1 M = rr) {r : Option Value × Sg} (hr : r = (some (.int rr), S M)) : RN P 1 kX12_isDoor 0 [(0, .ref 217), (1, .int x1)] [] (S M) r := by
  unfold fM_isDoor at h
  refine sb_in [(0, .iload_n 1, 1), (1, .ifCond .lt 15, 3)] 4 (by decide +kernel) ?_
  refine sb_iload_n rfl ?_
  rcases ife h with ⟨cz1, h⟩ | ⟨cz1, h⟩
  · refine sb_if_lt_t 16 cz1 (by decide) ?_
    refine sb_in [(16, .iconst 0, 1)] 17 (by decide +kernel) ?_
    refine sb_iconst cI0 ?_
    refine sb_end ?_
    refine sb_in [(17, .ireturn, 1)] 18 (by decide +kernel) ?_
    subst h
    subst hr
    refine sb_ireturn ?_
    exact ⟨.boolean, rfl, by decide⟩
  · refine sb_if_lt_f 16 cz1 (by decide) ?_
    refine sb_in [(4, .iload_n 1, 1), (5, .aload_n 0, 1), (6, .getfield 129, 3), (9, .if_icmp .ge 7, 3)] 12 (by decide +kernel) ?_
    refine sb_iload_n rfl ?_
    refine sb_aload_n rfl ?_
    refine ss_getI g12_129 h217 ?_
    rcases ife h with ⟨cz2, h⟩ | ⟨cz2, h⟩
    · refine sb_icmp_ge_t 16 cz2 (by decide) ?_
      refine sb_in [(16, .iconst 0, 1)] 17 (by decide +kernel) ?_
      refine sb_iconst cI0 ?_
      refine sb_end ?_
      refine sb_in [(17, .ireturn, 1)] 18 (by decide +kernel) ?_
      subst h
      subst hr
      refine sb_ireturn ?_
      exact ⟨.boolean, rfl, by decide⟩
    · refine sb_icmp_ge_f 16 cz2 (by decide) ?_
      refine sb_in [(12, .iconst 1, 1), (13, .goto 4, 3)] 16 (by decide +kernel) ?_
      refine sb_iconst cI1 ?_
      refine sb_goto 17 (by decide) ?_
      refine sb_in [(17, .ireturn, 1)] 18 (by decide +kernel) ?_
      subst h
      subst hr
      refine sb_ireturn ?_
      exact ⟨.boolean, rfl, by decide⟩
theorem tfM_isDoor {P : Px} {x1 : Int32} {M : Mm} : EX P 1 kX12_isDoor [.ref 217, .int x1] (S M) (some (.int (fM_isDoor x1 M)), S M) := ex_of oX12_isDoor (Nat.le_of_ble_eq_true rfl) (nfM_isDoor  rfl rfl)
set_option maxRecDepth 20000 in
theorem nfM_health {P : Px} {M : Mm} {rr : Int32} (h : fM_health M = rr) {r : Option Value × Sg} (hr : r = (some (.int rr), S M)) : RN P 1 kX12_health 0 [(0, .ref 217)] [] (S M) r := by
  unfold fM_health at h
  refine sb_in [(0, .bipush 99, 2), (2, .aload_n 0, 1), (3, .getfield 7, 3), (6, .iconst 4, 1), (7, .iaload, 1), (8, .isub, 1), (9, .ireturn, 1)] 10 (by decide +kernel) ?_
  refine sb_bipush cB99 ?_
  refine sb_aload_n rfl ?_
  refine ss_getR g12_7 h217 r217_1 ?_
  refine sb_iconst cI4 ?_
  refine ss_ialdL 4 h218 iL4 rfl ?_
  refine sb_isub ?_
  subst h
  subst hr
  refine sb_ireturn ?_
  exact ⟨.int, rfl, rfl⟩
theorem tfM_health {P : Px} {M : Mm} : EX P 1 kX12_health [.ref 217] (S M) (some (.int (fM_health M)), S M) := ex_of oX12_health (Nat.le_of_ble_eq_true rfl) (nfM_health  rfl rfl)
set_option maxRecDepth 20000 in
theorem nfM_hasHealth {P : Px} {x1 : Int32} {M : Mm} {rr : Mm} (h : fM_hasHealth x1 M = rr) {r : Option Value × Sg} (hr : r = (none, S rr)) : RN P 2 kX12_hasHealth 0 [(0, .ref 217), (1, .int x1)] [] (S M) r := by
  unfold fM_hasHealth at h
  refine sb_in [(0, .aload_n 0, 1), (1, .getfield 7, 3), (4, .iconst 4, 1), (5, .bipush 99, 2), (7, .aload_n 0, 1), (8, .iload_n 1, 1), (9, .iconst 0, 1), (10, .bipush 99, 2), (12, .invokevirtual 132, 3), (15, .isub, 1), (16, .iastore, 1), (17, .return_, 1)] 18 (by decide +kernel) ?_
  refine sb_aload_n rfl ?_
  refine ss_getR g12_7 h217 r217_1 ?_
  refine sb_iconst cI4 ?_
  refine sb_bipush cB99 ?_
  refine sb_aload_n rfl ?_
  refine sb_iload_n rfl ?_
  refine sb_iconst cI0 ?_
  refine sb_bipush cB99 ?_
  refine sb_callVi 3 rfl oX12_held ln12_132 vX12_held (rc_own h217.1 (S_lt h217.2) (by decide)) (rnCk_of (by decide +kernel) rfl) (tfM_held) ?_
  refine sb_isub ?_
  refine ss_iastL 4 h218 (by decide) iL4 rfl ?_
  subst h
  subst hr
  refine sb_return ?_
  exact rfl
theorem tfM_hasHealth {P : Px} {x1 : Int32} {M : Mm} : EX P 2 kX12_hasHealth [.ref 217, .int x1] (S M) (none, S (fM_hasHealth x1 M)) := ex_of oX12_hasHealth (Nat.le_of_ble_eq_true rfl) (nfM_hasHealth  rfl rfl)
set_option maxRecDepth 20000 in
theorem nfM_letterAt {P : Px} {x1 : Int32} {M : Mm} {rr : Int32} (h : fM_letterAt x1 = rr) {r : Option Value × Sg} (hr : r = (some (.int rr), S M)) : RN P 1 kX12_letterAt 0 [(0, .ref 217), (1, .int x1)] [] (S M) r := by
  unfold fM_letterAt at h
  refine sb_in [(0, .bipush 54, 2), (2, .iconst 5, 1), (3, .iload_n 1, 1), (4, .imul, 1), (5, .iadd, 1), (6, .ireturn, 1)] 7 (by decide +kernel) ?_
  refine sb_bipush cB54 ?_
  refine sb_iconst cI5 ?_
  refine sb_iload_n rfl ?_
  refine sb_imul ?_
  refine sb_iadd ?_
  subst h
  subst hr
  refine sb_ireturn ?_
  exact ⟨.int, rfl, rfl⟩
theorem tfM_letterAt {P : Px} {x1 : Int32} {M : Mm} : EX P 1 kX12_letterAt [.ref 217, .int x1] (S M) (some (.int (fM_letterAt x1)), S M) := ex_of oX12_letterAt (Nat.le_of_ble_eq_true rfl) (nfM_letterAt  rfl rfl)
set_option maxRecDepth 20000 in
theorem nfM_doorOf {P : Px} {x1 : Int32} {M : Mm} {rr : Int32} (h : fM_doorOf x1 M = some rr) {r : Option Value × Sg} (hr : r = (some (.int rr), S M)) : RN P 2 kX12_doorOf 0 [(0, .ref 217), (1, .int x1)] [] (S M) r := by
  unfold fM_doorOf at h
  refine sb_in [(0, .aload_n 0, 1), (1, .getfield 7, 3), (4, .aload_n 0, 1), (5, .iload_n 1, 1), (6, .invokevirtual 136, 3), (9, .iconst 1, 1), (10, .iadd, 1), (11, .iaload, 1), (12, .ireturn, 1)] 13 (by decide +kernel) ?_
  refine sb_aload_n rfl ?_
  refine ss_getR g12_7 h217 r217_1 ?_
  refine sb_aload_n rfl ?_
  refine sb_iload_n rfl ?_
  refine sb_callVi 1 rfl oX12_letterAt ln12_136 vX12_letterAt (rc_own h217.1 (S_lt h217.2) (by decide)) (rnCk_of (by decide +kernel) rfl) (tfM_letterAt) ?_
  refine sb_iconst cI1 ?_
  refine sb_iadd ?_
  obtain ⟨hgz2, h⟩ := gd h
  refine ss_iald h218 hgz2 ?_
  cases h
  subst hr
  refine sb_ireturn ?_
  exact ⟨.int, rfl, rfl⟩
theorem tfM_doorOf {P : Px} {x1 : Int32} {M : Mm} {rr : Int32} (h : fM_doorOf x1 M = some rr) : EX P 2 kX12_doorOf [.ref 217, .int x1] (S M) (some (.int rr), S M) := ex_of oX12_doorOf (Nat.le_of_ble_eq_true rfl) (nfM_doorOf  h rfl)
set_option maxRecDepth 20000 in
theorem nfM_lettersFor {P : Px} {x1 : Int32} {M : Mm} {rr : Int32} (h : fM_lettersFor x1 M = some rr) {r : Option Value × Sg} (hr : r = (some (.int rr), S M)) : RN P 3 kX12_lettersFor 0 [(0, .ref 217), (1, .int x1)] [] (S M) r := by
  unfold fM_lettersFor at h
  refine sb_in [(0, .iconst 0, 1), (1, .istore_n 2, 1), (2, .iconst 0, 1), (3, .istore_n 3, 1)] 4 (by decide +kernel) ?_
  refine sb_iconst cI0 ?_
  refine sb_istore_n (by decide) rfl ?_
  refine sb_iconst cI0 ?_
  refine sb_istore_n (by decide) rfl ?_
  refine sb_end ?_
  obtain ⟨e4, hl4, h⟩ := bd h
  refine rn_sub [0, 1, 2, 3] rfl ?_
  refine lp_ind (P := fun s => RN P 3 kX12_lettersFor 4 [(0, .ref 217), (1, .int x1), (2, .int s.1), (3, .int s.2)] [] (S M) r) (E := fun p => RN P 3 kX12_lettersFor 34 [(2, .int p)] [] (S M) r) ?_ _ _ _ hl4 ?_
  · intro s qx h hc
    obtain ⟨x2, x3⟩ := s
    replace h : fM_lettersFor_b4 x1 M x2 x3 = some qx := h
    show RN P 3 kX12_lettersFor 4 [(0, .ref 217), (1, .int x1), (2, .int x2), (3, .int x3)] [] (S M) r
    unfold fM_lettersFor_b4 at h
    refine sb_in [(4, .iload_n 3, 1), (5, .aload_n 0, 1), (6, .getfield 7, 3), (9, .bipush 10, 2), (11, .iaload, 1), (12, .if_icmp .ge 22, 3)] 15 (by decide +kernel) ?_
    refine sb_iload_n rfl ?_
    refine sb_aload_n rfl ?_
    refine ss_getR g12_7 h217 r217_1 ?_
    refine sb_bipush cB10 ?_
    refine ss_ialdL 10 h218 iL10 rfl ?_
    rcases ife h with ⟨cz6, h⟩ | ⟨cz6, h⟩
    · refine sb_icmp_ge_t 34 cz6 (by decide) ?_
      cases h
      exact rn_sub [2] rfl hc
    · refine sb_icmp_ge_f 34 cz6 (by decide) ?_
      refine sb_in [(15, .aload_n 0, 1), (16, .iload_n 3, 1), (17, .invokevirtual 140, 3), (20, .iload_n 1, 1), (21, .if_icmp .ne 7, 3)] 24 (by decide +kernel) ?_
      refine sb_aload_n rfl ?_
      refine sb_iload_n rfl ?_
      obtain ⟨qz2, hez1, h⟩ := bd h
      refine sb_callVi 1 rfl oX12_doorOf ln12_140 vX12_doorOf (rc_own h217.1 (S_lt h217.2) (by decide)) (rnCk_of (by decide +kernel) rfl) (tfM_doorOf hez1) ?_
      refine sb_iload_n rfl ?_
      obtain ⟨yz4, hj28, h⟩ := bd h
      have hJ28 : RN P 3 kX12_lettersFor 28 [(0, .ref 217), (1, .int x1), (2, .int yz4), (3, .int x3)] [] (S M) r := by
        refine sb_in [(28, .iinc 3 1, 3), (31, .goto (-27), 3)] 34 (by decide +kernel) ?_
        refine ss_iinc cI1 rfl (by decide) rfl ?_
        refine sb_goto 4 (by decide) ?_
        cases h
        exact rn_sub [0, 1, 2, 3] rfl hc
      clear h
      have h := hj28
      rcases ife h with ⟨cz7, h⟩ | ⟨cz7, h⟩
      · refine sb_icmp_ne_f 28 cz7 (by decide) ?_
        refine sb_in [(24, .iload_n 2, 1), (25, .iconst 1, 1), (26, .iadd, 1), (27, .istore_n 2, 1)] 28 (by decide +kernel) ?_
        refine sb_iload_n rfl ?_
        refine sb_iconst cI1 ?_
        refine sb_iadd ?_
        refine sb_istore_n (by decide) rfl ?_
        refine sb_end ?_
        cases h
        exact rn_sub [0, 1, 2, 3] rfl hJ28
      · refine sb_icmp_ne_t 28 cz7 (by decide) ?_
        cases h
        exact rn_sub [0, 1, 2, 3] rfl hJ28
  · clear hl4
    obtain ⟨yz5, hey⟩ : ∃ z, z = e4 := ⟨_, rfl⟩
    subst hey
    show RN P 3 kX12_lettersFor 34 [(2, .int yz5)] [] (S M) r
    refine sb_in [(34, .iload_n 2, 1), (35, .ireturn, 1)] 36 (by decide +kernel) ?_
    refine sb_iload_n rfl ?_
    cases h
    subst hr
    refine sb_ireturn ?_
    exact ⟨.int, rfl, rfl⟩
theorem tfM_lettersFor {P : Px} {x1 : Int32} {M : Mm} {rr : Int32} (h : fM_lettersFor x1 M = some rr) : EX P 3 kX12_lettersFor [.ref 217, .int x1] (S M) (some (.int rr), S M) := ex_of oX12_lettersFor (Nat.le_of_ble_eq_true rfl) (nfM_lettersFor  h rfl)
set_option maxRecDepth 20000 in
theorem nfM_door {P : Px} {x1 : Int32} {x2 : Int32} {x3 : Int32} {M : Mm} {rr : (Int32 × Mm)} (h : fM_door x1 x2 x3 M = some rr) {r : Option Value × Sg} (hr : r = (some (.int rr.1), S rr.2)) : RN P 2 kX12_door 0 [(0, .ref 217), (1, .int x1), (2, .int x2), (3, .int x3)] [] (S M) r := by
  unfold fM_door at h
  refine sb_in [(0, .aload_n 0, 1), (1, .iconst 0, 1), (2, .putfield 116, 3), (5, .aload_n 0, 1), (6, .iload_n 1, 1), (7, .bipush (-9), 2), (9, .bipush 9, 2), (11, .invokevirtual 143, 3), (14, .ifCond .eq 35, 3)] 17 (by decide +kernel) ?_
  refine sb_aload_n rfl ?_
  refine sb_iconst cI0 ?_
  refine ss_putI p12_116 h217 (by decide) ?_
  refine sb_aload_n rfl ?_
  refine sb_iload_n rfl ?_
  refine sb_bipush cBm9 ?_
  refine sb_bipush cB9 ?_
  refine sb_callVi 3 rfl oX12_isIn ln12_143 vX12_isIn (rc_own h217.1 (S_lt h217.2) (by decide)) (rnCk_of (by decide +kernel) rfl) (tfM_isIn) ?_
  rcases ife h with ⟨cz15, h⟩ | ⟨cz15, h⟩
  · refine sb_if_eq_t 49 cz15 (by decide) ?_
    refine sb_in [(49, .iconst (-1), 1), (50, .ireturn, 1)] 51 (by decide +kernel) ?_
    refine sb_iconst cIm1 ?_
    cases h
    subst hr
    refine sb_ireturn ?_
    exact ⟨.int, rfl, rfl⟩
  · refine sb_if_eq_f 49 cz15 (by decide) ?_
    refine sb_in [(17, .aload_n 0, 1), (18, .iload_n 2, 1), (19, .iconst 0, 1), (20, .bipush 9, 2), (22, .invokevirtual 143, 3), (25, .ifCond .eq 24, 3)] 28 (by decide +kernel) ?_
    refine sb_aload_n rfl ?_
    refine sb_iload_n rfl ?_
    refine sb_iconst cI0 ?_
    refine sb_bipush cB9 ?_
    refine sb_callVi 3 rfl oX12_isIn ln12_143 vX12_isIn (rc_own h217.1 (S_lt h217.2) (by decide)) (rnCk_of (by decide +kernel) rfl) (tfM_isIn) ?_
    rcases ife h with ⟨cz16, h⟩ | ⟨cz16, h⟩
    · refine sb_if_eq_t 49 cz16 (by decide) ?_
      refine sb_in [(49, .iconst (-1), 1), (50, .ireturn, 1)] 51 (by decide +kernel) ?_
      refine sb_iconst cIm1 ?_
      cases h
      subst hr
      refine sb_ireturn ?_
      exact ⟨.int, rfl, rfl⟩
    · refine sb_if_eq_f 49 cz16 (by decide) ?_
      refine sb_in [(28, .aload_n 0, 1), (29, .iload_n 3, 1), (30, .iconst 0, 1), (31, .sipush 999, 3), (34, .invokevirtual 143, 3), (37, .ifCond .eq 12, 3)] 40 (by decide +kernel) ?_
      refine sb_aload_n rfl ?_
      refine sb_iload_n rfl ?_
      refine sb_iconst cI0 ?_
      refine sb_sipush cS999 ?_
      refine sb_callVi 3 rfl oX12_isIn ln12_143 vX12_isIn (rc_own h217.1 (S_lt h217.2) (by decide)) (rnCk_of (by decide +kernel) rfl) (tfM_isIn) ?_
      rcases ife h with ⟨cz17, h⟩ | ⟨cz17, h⟩
      · refine sb_if_eq_t 49 cz17 (by decide) ?_
        refine sb_in [(49, .iconst (-1), 1), (50, .ireturn, 1)] 51 (by decide +kernel) ?_
        refine sb_iconst cIm1 ?_
        cases h
        subst hr
        refine sb_ireturn ?_
        exact ⟨.int, rfl, rfl⟩
      · refine sb_if_eq_f 49 cz17 (by decide) ?_
        refine sb_in [(40, .aload_n 0, 1), (41, .getfield 129, 3), (44, .bipush 12, 2), (46, .if_icmp .ne 5, 3)] 49 (by decide +kernel) ?_
        refine sb_aload_n rfl ?_
        refine ss_getI g12_129 h217 ?_
        refine sb_bipush cB12 ?_
        rcases ife h with ⟨cz18, h⟩ | ⟨cz18, h⟩
        · refine sb_icmp_ne_f 51 cz18 (by decide) ?_
          refine sb_in [(49, .iconst (-1), 1), (50, .ireturn, 1)] 51 (by decide +kernel) ?_
          refine sb_iconst cIm1 ?_
          cases h
          subst hr
          refine sb_ireturn ?_
          exact ⟨.int, rfl, rfl⟩
        · refine sb_icmp_ne_t 51 cz18 (by decide) ?_
          refine sb_in [(51, .aload_n 0, 1), (52, .getfield 7, 3), (55, .bipush 18, 2), (57, .aload_n 0, 1), (58, .getfield 129, 3), (61, .iadd, 1), (62, .iload_n 1, 1), (63, .iastore, 1), (64, .aload_n 0, 1), (65, .getfield 7, 3), (68, .bipush 30, 2), (70, .aload_n 0, 1), (71, .getfield 129, 3), (74, .iadd, 1), (75, .iload_n 3, 1), (76, .iastore, 1), (77, .aload_n 0, 1), (78, .getfield 7, 3), (81, .bipush 42, 2), (83, .aload_n 0, 1), (84, .getfield 129, 3), (87, .iadd, 1), (88, .iconst 0, 1), (89, .iastore, 1), (90, .aload_n 0, 1), (91, .getfield 19, 3), (94, .aload_n 0, 1), (95, .getfield 129, 3), (98, .iload_n 2, 1), (99, .iastore, 1), (100, .aload_n 0, 1), (101, .aload_n 0, 1), (102, .getfield 129, 3), (105, .iconst 1, 1), (106, .iadd, 1), (107, .putfield 129, 3), (110, .aload_n 0, 1), (111, .iconst 0, 1), (112, .putfield 120, 3), (115, .aload_n 0, 1), (116, .getfield 129, 3), (119, .iconst 1, 1), (120, .isub, 1), (121, .ireturn, 1)] 122 (by decide +kernel) ?_
          refine sb_aload_n rfl ?_
          refine ss_getR g12_7 h217 r217_1 ?_
          refine sb_bipush cB18 ?_
          refine sb_aload_n rfl ?_
          refine ss_getI g12_129 h217 ?_
          refine sb_iadd ?_
          refine sb_iload_n rfl ?_
          obtain ⟨hgz6, h⟩ := gd h
          refine ss_iast h218 (by decide) hgz6 ?_
          refine sb_aload_n rfl ?_
          refine ss_getR g12_7 h217 r217_1 ?_
          refine sb_bipush cB30 ?_
          refine sb_aload_n rfl ?_
          refine ss_getI g12_129 h217 ?_
          refine sb_iadd ?_
          refine sb_iload_n rfl ?_
          obtain ⟨hgz8, h⟩ := gd h
          refine ss_iast h218 (by decide) hgz8 ?_
          refine sb_aload_n rfl ?_
          refine ss_getR g12_7 h217 r217_1 ?_
          refine sb_bipush cB42 ?_
          refine sb_aload_n rfl ?_
          refine ss_getI g12_129 h217 ?_
          refine sb_iadd ?_
          refine sb_iconst cI0 ?_
          obtain ⟨hgz10, h⟩ := gd h
          refine ss_iast h218 (by decide) hgz10 ?_
          refine sb_aload_n rfl ?_
          refine ss_getR g12_19 h217 r217_7 ?_
          refine sb_aload_n rfl ?_
          refine ss_getI g12_129 h217 ?_
          refine sb_iload_n rfl ?_
          obtain ⟨hgz12, h⟩ := gd h
          refine ss_iast h221 (by decide) hgz12 ?_
          refine sb_aload_n rfl ?_
          refine sb_aload_n rfl ?_
          refine ss_getI g12_129 h217 ?_
          refine sb_iconst cI1 ?_
          refine sb_iadd ?_
          refine ss_putI p12_129 h217 (by decide) ?_
          refine sb_aload_n rfl ?_
          refine sb_iconst cI0 ?_
          refine ss_putI p12_120 h217 (by decide) ?_
          refine sb_aload_n rfl ?_
          refine ss_getI g12_129 h217 ?_
          refine sb_iconst cI1 ?_
          refine sb_isub ?_
          cases h
          subst hr
          refine sb_ireturn ?_
          exact ⟨.int, rfl, rfl⟩
theorem tfM_door {P : Px} {x1 : Int32} {x2 : Int32} {x3 : Int32} {M : Mm} {rr : (Int32 × Mm)} (h : fM_door x1 x2 x3 M = some rr) : EX P 2 kX12_door [.ref 217, .int x1, .int x2, .int x3] (S M) (some (.int rr.1), S rr.2) := ex_of oX12_door (Nat.le_of_ble_eq_true rfl) (nfM_door  h rfl)
set_option maxRecDepth 20000 in
theorem nfM_canSet {P : Px} {x1 : Int32} {x2 : Int32} {x3 : Int32} {M : Mm} {rr : Int32} (h : fM_canSet x1 x2 x3 M = some rr) {r : Option Value × Sg} (hr : r = (some (.int rr), S M)) : RN P 2 kX12_canSet 0 [(0, .ref 217), (1, .int x1), (2, .int x2), (3, .int x3)] [] (S M) r := by
  unfold fM_canSet at h
  refine sb_in [(0, .iload_n 1, 1), (1, .ifCond .ne 29, 3)] 4 (by decide +kernel) ?_
  refine sb_iload_n rfl ?_
  rcases ife h with ⟨cz6, h⟩ | ⟨cz6, h⟩
  · refine sb_if_ne_f 30 cz6 (by decide) ?_
    refine sb_in [(4, .aload_n 0, 1), (5, .iload_n 2, 1), (6, .invokevirtual 147, 3), (9, .ifCond .eq 19, 3)] 12 (by decide +kernel) ?_
    refine sb_aload_n rfl ?_
    refine sb_iload_n rfl ?_
    refine sb_callVi 1 rfl oX12_isDoor ln12_147 vX12_isDoor (rc_own h217.1 (S_lt h217.2) (by decide)) (rnCk_of (by decide +kernel) rfl) (tfM_isDoor) ?_
    rcases ife h with ⟨cz7, h⟩ | ⟨cz7, h⟩
    · refine sb_if_eq_t 28 cz7 (by decide) ?_
      refine sb_in [(28, .iconst 0, 1)] 29 (by decide +kernel) ?_
      refine sb_iconst cI0 ?_
      refine sb_end ?_
      refine sb_in [(29, .ireturn, 1)] 30 (by decide +kernel) ?_
      cases h
      subst hr
      refine sb_ireturn ?_
      exact ⟨.boolean, rfl, by decide⟩
    · refine sb_if_eq_f 28 cz7 (by decide) ?_
      refine sb_in [(12, .aload_n 0, 1), (13, .iload_n 3, 1), (14, .bipush (-9), 2), (16, .bipush 9, 2), (18, .invokevirtual 143, 3), (21, .ifCond .eq 7, 3)] 24 (by decide +kernel) ?_
      refine sb_aload_n rfl ?_
      refine sb_iload_n rfl ?_
      refine sb_bipush cBm9 ?_
      refine sb_bipush cB9 ?_
      refine sb_callVi 3 rfl oX12_isIn ln12_143 vX12_isIn (rc_own h217.1 (S_lt h217.2) (by decide)) (rnCk_of (by decide +kernel) rfl) (tfM_isIn) ?_
      rcases ife h with ⟨cz8, h⟩ | ⟨cz8, h⟩
      · refine sb_if_eq_t 28 cz8 (by decide) ?_
        refine sb_in [(28, .iconst 0, 1)] 29 (by decide +kernel) ?_
        refine sb_iconst cI0 ?_
        refine sb_end ?_
        refine sb_in [(29, .ireturn, 1)] 30 (by decide +kernel) ?_
        cases h
        subst hr
        refine sb_ireturn ?_
        exact ⟨.boolean, rfl, by decide⟩
      · refine sb_if_eq_f 28 cz8 (by decide) ?_
        refine sb_in [(24, .iconst 1, 1), (25, .goto 4, 3)] 28 (by decide +kernel) ?_
        refine sb_iconst cI1 ?_
        refine sb_goto 29 (by decide) ?_
        refine sb_in [(29, .ireturn, 1)] 30 (by decide +kernel) ?_
        cases h
        subst hr
        refine sb_ireturn ?_
        exact ⟨.boolean, rfl, by decide⟩
  · refine sb_if_ne_t 30 cz6 (by decide) ?_
    refine sb_in [(30, .iload_n 1, 1), (31, .iconst 1, 1), (32, .if_icmp .eq 8, 3)] 35 (by decide +kernel) ?_
    refine sb_iload_n rfl ?_
    refine sb_iconst cI1 ?_
    have hJ40 : ∀ (z1 : Int32) (z2 : Int32) (z3 : Int32), fM_canSet_j40 z1 z2 z3 M = some rr → RN P 2 kX12_canSet 40 [(0, .ref 217), (1, .int z1), (2, .int z2), (3, .int z3)] [] (S M) r := by
      intro z1 z2 z3 h
      unfold fM_canSet_j40 at h
      refine sb_in [(40, .aload_n 0, 1), (41, .iload_n 2, 1), (42, .invokevirtual 147, 3), (45, .ifCond .eq 29, 3)] 48 (by decide +kernel) ?_
      refine sb_aload_n rfl ?_
      refine sb_iload_n rfl ?_
      refine sb_callVi 1 rfl oX12_isDoor ln12_147 vX12_isDoor (rc_own h217.1 (S_lt h217.2) (by decide)) (rnCk_of (by decide +kernel) rfl) (tfM_isDoor) ?_
      rcases ife h with ⟨cz9, h⟩ | ⟨cz9, h⟩
      · refine sb_if_eq_t 74 cz9 (by decide) ?_
        refine sb_in [(74, .iconst 0, 1)] 75 (by decide +kernel) ?_
        refine sb_iconst cI0 ?_
        refine sb_end ?_
        refine sb_in [(75, .ireturn, 1)] 76 (by decide +kernel) ?_
        cases h
        subst hr
        refine sb_ireturn ?_
        exact ⟨.boolean, rfl, by decide⟩
      · refine sb_if_eq_f 74 cz9 (by decide) ?_
        refine sb_in [(48, .aload_n 0, 1), (49, .iload_n 3, 1), (50, .iconst 0, 1), (51, .iload_n 1, 1), (52, .iconst 1, 1), (53, .if_icmp .ne 8, 3)] 56 (by decide +kernel) ?_
        refine sb_aload_n rfl ?_
        refine sb_iload_n rfl ?_
        refine sb_iconst cI0 ?_
        refine sb_iload_n rfl ?_
        refine sb_iconst cI1 ?_
        have hJ64 : RN P 2 kX12_canSet 64 [] [.int (if z1 = 1 then 9 else 999), .int 0, .int z3, .ref 217] (S M) r := by
          refine sb_in [(64, .invokevirtual 143, 3), (67, .ifCond .eq 7, 3)] 70 (by decide +kernel) ?_
          refine sb_callVi 3 rfl oX12_isIn ln12_143 vX12_isIn (rc_own h217.1 (S_lt h217.2) (by decide)) (rnCk_of (by decide +kernel) rfl) (tfM_isIn) ?_
          rcases ife h with ⟨cz10, h⟩ | ⟨cz10, h⟩
          · refine sb_if_eq_t 74 cz10 (by decide) ?_
            refine sb_in [(74, .iconst 0, 1)] 75 (by decide +kernel) ?_
            refine sb_iconst cI0 ?_
            refine sb_end ?_
            refine sb_in [(75, .ireturn, 1)] 76 (by decide +kernel) ?_
            cases h
            subst hr
            refine sb_ireturn ?_
            exact ⟨.boolean, rfl, by decide⟩
          · refine sb_if_eq_f 74 cz10 (by decide) ?_
            refine sb_in [(70, .iconst 1, 1), (71, .goto 4, 3)] 74 (by decide +kernel) ?_
            refine sb_iconst cI1 ?_
            refine sb_goto 75 (by decide) ?_
            refine sb_in [(75, .ireturn, 1)] 76 (by decide +kernel) ?_
            cases h
            subst hr
            refine sb_ireturn ?_
            exact ⟨.boolean, rfl, by decide⟩
        rcases Decidable.em (z1 = 1) with cz11 | cz11
        · refine sb_icmp_ne_f 61 cz11 (by decide) ?_
          refine sb_in [(56, .bipush 9, 2), (58, .goto 6, 3)] 61 (by decide +kernel) ?_
          refine sb_bipush cB9 ?_
          refine sb_goto 64 (by decide) ?_
          have hq := hJ64
          simp only [if_pos cz11] at hq
          exact rn_sub [] rfl hq
        · refine sb_icmp_ne_t 61 cz11 (by decide) ?_
          refine sb_in [(61, .sipush 999, 3)] 64 (by decide +kernel) ?_
          refine sb_sipush cS999 ?_
          refine sb_end ?_
          have hq := hJ64
          simp only [if_neg cz11] at hq
          exact rn_sub [] rfl hq
    rcases ife h with ⟨cz12, h⟩ | ⟨cz12, h⟩
    · refine sb_icmp_eq_t 40 cz12 (by decide) ?_
      exact rn_sub [0, 1, 2, 3] rfl (hJ40 _ _ _ h)
    · refine sb_icmp_eq_f 40 cz12 (by decide) ?_
      refine sb_in [(35, .iload_n 1, 1), (36, .iconst 2, 1), (37, .if_icmp .ne 39, 3)] 40 (by decide +kernel) ?_
      refine sb_iload_n rfl ?_
      refine sb_iconst cI2 ?_
      rcases ife h with ⟨cz13, h⟩ | ⟨cz13, h⟩
      · refine sb_icmp_ne_f 76 cz13 (by decide) ?_
        exact rn_sub [0, 1, 2, 3] rfl (hJ40 _ _ _ h)
      · refine sb_icmp_ne_t 76 cz13 (by decide) ?_
        refine sb_in [(76, .iload_n 1, 1), (77, .iconst 3, 1), (78, .if_icmp .eq 8, 3)] 81 (by decide +kernel) ?_
        refine sb_iload_n rfl ?_
        refine sb_iconst cI3 ?_
        have hJ86 : ∀ (z3 : Int32), fM_canSet_j86 z3 M = some rr → RN P 2 kX12_canSet 86 [(0, .ref 217), (3, .int z3)] [] (S M) r := by
          intro z3 h
          unfold fM_canSet_j86 at h
          refine sb_in [(86, .aload_n 0, 1), (87, .iload_n 3, 1), (88, .iconst 0, 1), (89, .bipush 99, 2), (91, .invokevirtual 143, 3), (94, .ifCond .eq 7, 3)] 97 (by decide +kernel) ?_
          refine sb_aload_n rfl ?_
          refine sb_iload_n rfl ?_
          refine sb_iconst cI0 ?_
          refine sb_bipush cB99 ?_
          refine sb_callVi 3 rfl oX12_isIn ln12_143 vX12_isIn (rc_own h217.1 (S_lt h217.2) (by decide)) (rnCk_of (by decide +kernel) rfl) (tfM_isIn) ?_
          rcases ife h with ⟨cz14, h⟩ | ⟨cz14, h⟩
          · refine sb_if_eq_t 101 cz14 (by decide) ?_
            refine sb_in [(101, .iconst 0, 1)] 102 (by decide +kernel) ?_
            refine sb_iconst cI0 ?_
            refine sb_end ?_
            refine sb_in [(102, .ireturn, 1)] 103 (by decide +kernel) ?_
            cases h
            subst hr
            refine sb_ireturn ?_
            exact ⟨.boolean, rfl, by decide⟩
          · refine sb_if_eq_f 101 cz14 (by decide) ?_
            refine sb_in [(97, .iconst 1, 1), (98, .goto 4, 3)] 101 (by decide +kernel) ?_
            refine sb_iconst cI1 ?_
            refine sb_goto 102 (by decide) ?_
            refine sb_in [(102, .ireturn, 1)] 103 (by decide +kernel) ?_
            cases h
            subst hr
            refine sb_ireturn ?_
            exact ⟨.boolean, rfl, by decide⟩
        rcases ife h with ⟨cz15, h⟩ | ⟨cz15, h⟩
        · refine sb_icmp_eq_t 86 cz15 (by decide) ?_
          exact rn_sub [0, 3] rfl (hJ86 _ h)
        · refine sb_icmp_eq_f 86 cz15 (by decide) ?_
          refine sb_in [(81, .iload_n 1, 1), (82, .iconst 4, 1), (83, .if_icmp .ne 18, 3)] 86 (by decide +kernel) ?_
          refine sb_iload_n rfl ?_
          refine sb_iconst cI4 ?_
          rcases ife h with ⟨cz16, h⟩ | ⟨cz16, h⟩
          · refine sb_icmp_ne_f 101 cz16 (by decide) ?_
            exact rn_sub [0, 3] rfl (hJ86 _ h)
          · refine sb_icmp_ne_t 101 cz16 (by decide) ?_
            refine sb_in [(101, .iconst 0, 1)] 102 (by decide +kernel) ?_
            refine sb_iconst cI0 ?_
            refine sb_end ?_
            refine sb_in [(102, .ireturn, 1)] 103 (by decide +kernel) ?_
            cases h
            subst hr
            refine sb_ireturn ?_
            exact ⟨.boolean, rfl, by decide⟩
theorem tfM_canSet {P : Px} {x1 : Int32} {x2 : Int32} {x3 : Int32} {M : Mm} {rr : Int32} (h : fM_canSet x1 x2 x3 M = some rr) : EX P 2 kX12_canSet [.ref 217, .int x1, .int x2, .int x3] (S M) (some (.int rr), S M) := ex_of oX12_canSet (Nat.le_of_ble_eq_true rfl) (nfM_canSet  h rfl)
set_option maxRecDepth 20000 in
theorem nfM_set {P : Px} {x1 : Int32} {x2 : Int32} {x3 : Int32} {M : Mm} {rr : (Int32 × Mm)} (h : fM_set x1 x2 x3 M = some rr) {r : Option Value × Sg} (hr : r = (some (.int rr.1), S rr.2)) : RN P 3 kX12_set 0 [(0, .ref 217), (1, .int x1), (2, .int x2), (3, .int x3)] [] (S M) r := by
  unfold fM_set at h
  refine sb_in [(0, .aload_n 0, 1), (1, .iconst 0, 1), (2, .putfield 116, 3), (5, .aload_n 0, 1), (6, .iload_n 1, 1), (7, .iload_n 2, 1), (8, .iload_n 3, 1), (9, .invokevirtual 151, 3), (12, .ifCond .ne 5, 3)] 15 (by decide +kernel) ?_
  refine sb_aload_n rfl ?_
  refine sb_iconst cI0 ?_
  refine ss_putI p12_116 h217 (by decide) ?_
  refine sb_aload_n rfl ?_
  refine sb_iload_n rfl ?_
  refine sb_iload_n rfl ?_
  refine sb_iload_n rfl ?_
  obtain ⟨qz3, hez2, h⟩ := bd h
  refine sb_callVi 3 rfl oX12_canSet ln12_151 vX12_canSet (rc_own h217.1 (S_lt h217.2) (by decide)) (rnCk_of (by decide +kernel) rfl) (tfM_canSet hez2) ?_
  rcases ife h with ⟨cz18, h⟩ | ⟨cz18, h⟩
  · refine sb_if_ne_f 17 cz18 (by decide) ?_
    refine sb_in [(15, .iconst 0, 1), (16, .ireturn, 1)] 17 (by decide +kernel) ?_
    refine sb_iconst cI0 ?_
    cases h
    subst hr
    refine sb_ireturn ?_
    exact ⟨.boolean, rfl, by decide⟩
  · refine sb_if_ne_t 17 cz18 (by decide) ?_
    refine sb_in [(17, .iload_n 1, 1), (18, .ifCond .ne 13, 3)] 21 (by decide +kernel) ?_
    refine sb_iload_n rfl ?_
    obtain ⟨Mz6, hj31, h⟩ := bd h
    have hJ31 : RN P 3 kX12_set 31 [(0, .ref 217), (1, .int x1), (2, .int x2), (3, .int x3)] [] (S Mz6) r := by
      refine sb_in [(31, .iload_n 1, 1), (32, .iconst 1, 1), (33, .if_icmp .ne 10, 3)] 36 (by decide +kernel) ?_
      refine sb_iload_n rfl ?_
      refine sb_iconst cI1 ?_
      obtain ⟨Mz9, hj43, h⟩ := bd h
      have hJ43 : RN P 3 kX12_set 43 [(0, .ref 217), (1, .int x1), (2, .int x2), (3, .int x3)] [] (S Mz9) r := by
        refine sb_in [(43, .iload_n 1, 1), (44, .iconst 2, 1), (45, .if_icmp .ne 13, 3)] 48 (by decide +kernel) ?_
        refine sb_iload_n rfl ?_
        refine sb_iconst cI2 ?_
        obtain ⟨Mz12, hj58, h⟩ := bd h
        have hJ58 : RN P 3 kX12_set 58 [(0, .ref 217), (1, .int x1), (3, .int x3)] [] (S Mz12) r := by
          refine sb_in [(58, .iload_n 1, 1), (59, .iconst 3, 1), (60, .if_icmp .ne 8, 3)] 63 (by decide +kernel) ?_
          refine sb_iload_n rfl ?_
          refine sb_iconst cI3 ?_
          obtain ⟨Mz14, hj68, h⟩ := bd h
          have hJ68 : RN P 3 kX12_set 68 [(0, .ref 217), (1, .int x1), (3, .int x3)] [] (S Mz14) r := by
            refine sb_in [(68, .iload_n 1, 1), (69, .iconst 4, 1), (70, .if_icmp .ne 10, 3)] 73 (by decide +kernel) ?_
            refine sb_iload_n rfl ?_
            refine sb_iconst cI4 ?_
            obtain ⟨Mz16, hj80, h⟩ := bd h
            have hJ80 : RN P 3 kX12_set 80 [(0, .ref 217)] [] (S Mz16) r := by
              refine sb_in [(80, .aload_n 0, 1), (81, .iconst 0, 1), (82, .putfield 120, 3), (85, .iconst 1, 1), (86, .ireturn, 1)] 87 (by decide +kernel) ?_
              refine sb_aload_n rfl ?_
              refine sb_iconst cI0 ?_
              refine ss_putI p12_120 h217 (by decide) ?_
              refine sb_iconst cI1 ?_
              cases h
              subst hr
              refine sb_ireturn ?_
              exact ⟨.boolean, rfl, by decide⟩
            clear h
            have h := hj80
            rcases ife h with ⟨cz19, h⟩ | ⟨cz19, h⟩
            · refine sb_icmp_ne_f 80 cz19 (by decide) ?_
              refine sb_in [(73, .aload_n 0, 1), (74, .getfield 7, 3), (77, .iconst 5, 1), (78, .iload_n 3, 1), (79, .iastore, 1)] 80 (by decide +kernel) ?_
              refine sb_aload_n rfl ?_
              refine ss_getR g12_7 h217 r217_1 ?_
              refine sb_iconst cI5 ?_
              refine sb_iload_n rfl ?_
              refine ss_iastL 5 h218 (by decide) iL5 rfl ?_
              refine sb_end ?_
              cases h
              exact rn_sub [0] rfl hJ80
            · refine sb_icmp_ne_t 80 cz19 (by decide) ?_
              cases h
              exact rn_sub [0] rfl hJ80
          clear h
          have h := hj68
          rcases ife h with ⟨cz20, h⟩ | ⟨cz20, h⟩
          · refine sb_icmp_ne_f 68 cz20 (by decide) ?_
            refine sb_in [(63, .aload_n 0, 1), (64, .iload_n 3, 1), (65, .invokevirtual 154, 3)] 68 (by decide +kernel) ?_
            refine sb_aload_n rfl ?_
            refine sb_iload_n rfl ?_
            refine sb_callVv 1 rfl oX12_hasHealth ln12_154 vX12_hasHealth (rc_own h217.1 (S_lt h217.2) (by decide)) (rnCk_of (by decide +kernel) rfl) (tfM_hasHealth) ?_
            refine sb_end ?_
            cases h
            exact rn_sub [0, 1, 3] rfl hJ68
          · refine sb_icmp_ne_t 68 cz20 (by decide) ?_
            cases h
            exact rn_sub [0, 1, 3] rfl hJ68
        clear h
        have h := hj58
        rcases ife h with ⟨cz21, h⟩ | ⟨cz21, h⟩
        · refine sb_icmp_ne_f 58 cz21 (by decide) ?_
          refine sb_in [(48, .aload_n 0, 1), (49, .getfield 7, 3), (52, .bipush 30, 2), (54, .iload_n 2, 1), (55, .iadd, 1), (56, .iload_n 3, 1), (57, .iastore, 1)] 58 (by decide +kernel) ?_
          refine sb_aload_n rfl ?_
          refine ss_getR g12_7 h217 r217_1 ?_
          refine sb_bipush cB30 ?_
          refine sb_iload_n rfl ?_
          refine sb_iadd ?_
          refine sb_iload_n rfl ?_
          obtain ⟨hgz11, h⟩ := gd h
          refine ss_iast h218 (by decide) hgz11 ?_
          refine sb_end ?_
          cases h
          exact rn_sub [0, 1, 3] rfl hJ58
        · refine sb_icmp_ne_t 58 cz21 (by decide) ?_
          cases h
          exact rn_sub [0, 1, 3] rfl hJ58
      clear h
      have h := hj43
      rcases ife h with ⟨cz22, h⟩ | ⟨cz22, h⟩
      · refine sb_icmp_ne_f 43 cz22 (by decide) ?_
        refine sb_in [(36, .aload_n 0, 1), (37, .getfield 19, 3), (40, .iload_n 2, 1), (41, .iload_n 3, 1), (42, .iastore, 1)] 43 (by decide +kernel) ?_
        refine sb_aload_n rfl ?_
        refine ss_getR g12_19 h217 r217_7 ?_
        refine sb_iload_n rfl ?_
        refine sb_iload_n rfl ?_
        obtain ⟨hgz8, h⟩ := gd h
        refine ss_iast h221 (by decide) hgz8 ?_
        refine sb_end ?_
        cases h
        exact rn_sub [0, 1, 2, 3] rfl hJ43
      · refine sb_icmp_ne_t 43 cz22 (by decide) ?_
        cases h
        exact rn_sub [0, 1, 2, 3] rfl hJ43
    clear h
    have h := hj31
    rcases ife h with ⟨cz23, h⟩ | ⟨cz23, h⟩
    · refine sb_if_ne_f 31 cz23 (by decide) ?_
      refine sb_in [(21, .aload_n 0, 1), (22, .getfield 7, 3), (25, .bipush 18, 2), (27, .iload_n 2, 1), (28, .iadd, 1), (29, .iload_n 3, 1), (30, .iastore, 1)] 31 (by decide +kernel) ?_
      refine sb_aload_n rfl ?_
      refine ss_getR g12_7 h217 r217_1 ?_
      refine sb_bipush cB18 ?_
      refine sb_iload_n rfl ?_
      refine sb_iadd ?_
      refine sb_iload_n rfl ?_
      obtain ⟨hgz5, h⟩ := gd h
      refine ss_iast h218 (by decide) hgz5 ?_
      refine sb_end ?_
      cases h
      exact rn_sub [0, 1, 2, 3] rfl hJ31
    · refine sb_if_ne_t 31 cz23 (by decide) ?_
      cases h
      exact rn_sub [0, 1, 2, 3] rfl hJ31
theorem tfM_set {P : Px} {x1 : Int32} {x2 : Int32} {x3 : Int32} {M : Mm} {rr : (Int32 × Mm)} (h : fM_set x1 x2 x3 M = some rr) : EX P 3 kX12_set [.ref 217, .int x1, .int x2, .int x3] (S M) (some (.int rr.1), S rr.2) := ex_of oX12_set (Nat.le_of_ble_eq_true rfl) (nfM_set  h rfl)
set_option maxRecDepth 20000 in
theorem nfM_types {P : Px} {x1 : Int32} {M : Mm} {rr : Mm} (h : fM_types x1 M = some rr) {r : Option Value × Sg} (hr : r = (none, S rr)) : RN P 1 kX12_types 0 [(0, .ref 217), (1, .int x1)] [] (S M) r := by
  unfold fM_types at h
  refine sb_in [(0, .bipush 24, 2), (2, .istore_n 2, 1)] 3 (by decide +kernel) ?_
  refine sb_bipush cB24 ?_
  refine sb_istore_n (by decide) rfl ?_
  refine sb_end ?_
  obtain ⟨e3, hl3, h⟩ := bd h
  refine rn_sub [0, 1, 2] rfl ?_
  refine lp_ind (P := fun s => RN P 1 kX12_types 3 [(0, .ref 217), (1, .int x1), (2, .int s.1)] [] (S s.2) r) (E := fun p => RN P 1 kX12_types 39 [] [] (S p) r) ?_ _ _ _ hl3 ?_
  · intro s qx h hc
    obtain ⟨x2, M⟩ := s
    replace h : fM_types_b3 x1 x2 M = some qx := h
    show RN P 1 kX12_types 3 [(0, .ref 217), (1, .int x1), (2, .int x2)] [] (S M) r
    unfold fM_types_b3 at h
    refine sb_in [(3, .iload_n 2, 1), (4, .ifCond .lt 35, 3)] 7 (by decide +kernel) ?_
    refine sb_iload_n rfl ?_
    rcases ife h with ⟨cz5, h⟩ | ⟨cz5, h⟩
    · refine sb_if_lt_t 39 cz5 (by decide) ?_
      cases h
      exact rn_sub [] rfl hc
    · refine sb_if_lt_f 39 cz5 (by decide) ?_
      refine sb_in [(7, .aload_n 0, 1), (8, .getfield 25, 3), (11, .aload_n 0, 1), (12, .getfield 158, 3), (15, .iload_n 1, 1), (16, .iload_n 2, 1), (17, .ishr, 1), (18, .sipush 255, 3), (21, .iand, 1), (22, .iastore, 1), (23, .aload_n 0, 1), (24, .aload_n 0, 1), (25, .getfield 158, 3), (28, .iconst 1, 1), (29, .iadd, 1), (30, .putfield 158, 3), (33, .iinc 2 (-8), 3), (36, .goto (-33), 3)] 39 (by decide +kernel) ?_
      refine sb_aload_n rfl ?_
      refine ss_getR g12_25 h217 r217_9 ?_
      refine sb_aload_n rfl ?_
      refine ss_getI g12_158 h217 ?_
      refine sb_iload_n rfl ?_
      refine sb_iload_n rfl ?_
      refine sb_ishr ?_
      refine sb_sipush cS255 ?_
      refine sb_iand ?_
      obtain ⟨hgz2, h⟩ := gd h
      refine ss_iast h223 (by decide) hgz2 ?_
      refine sb_aload_n rfl ?_
      refine sb_aload_n rfl ?_
      refine ss_getI g12_158 h217 ?_
      refine sb_iconst cI1 ?_
      refine sb_iadd ?_
      refine ss_putI p12_158 h217 (by decide) ?_
      refine ss_iinc cIm8 rfl (by decide) rfl ?_
      refine sb_goto 3 (by decide) ?_
      cases h
      exact rn_sub [0, 1, 2] rfl hc
  · clear hl3
    obtain ⟨Mz4, hey⟩ : ∃ z, z = e3 := ⟨_, rfl⟩
    subst hey
    show RN P 1 kX12_types 39 [] [] (S Mz4) r
    refine sb_in [(39, .return_, 1)] 40 (by decide +kernel) ?_
    cases h
    subst hr
    refine sb_return ?_
    exact rfl
theorem tfM_types {P : Px} {x1 : Int32} {M : Mm} {rr : Mm} (h : fM_types x1 M = some rr) : EX P 1 kX12_types [.ref 217, .int x1] (S M) (none, S rr) := ex_of oX12_types (Nat.le_of_ble_eq_true rfl) (nfM_types  h rfl)
set_option maxRecDepth 20000 in
theorem nfM_feed {P : Px} {x1 : Int32} {x2 : Int32} {x3 : Int32} {x4 : Int32} {x5 : Int32} {M : Mm} {rr : (Int32 × Mm)} (h : fM_feed x1 x2 x3 x4 x5 M = some rr) {r : Option Value × Sg} (hr : r = (some (.int rr.1), S rr.2)) : RN P 2 kX12_feed 0 [(0, .ref 217), (1, .int x1), (2, .int x2), (3, .int x3), (4, .int x4), (5, .int x5)] [] (S M) r := by
  unfold fM_feed at h
  refine sb_in [(0, .aload_n 0, 1), (1, .iconst 0, 1), (2, .putfield 116, 3), (5, .aload_n 0, 1), (6, .getfield 158, 3), (9, .sipush 380, 3), (12, .if_icmp .le 5, 3)] 15 (by decide +kernel) ?_
  refine sb_aload_n rfl ?_
  refine sb_iconst cI0 ?_
  refine ss_putI p12_116 h217 (by decide) ?_
  refine sb_aload_n rfl ?_
  refine ss_getI g12_158 h217 ?_
  refine sb_sipush cS380 ?_
  rcases ife h with ⟨cz12, h⟩ | ⟨cz12, h⟩
  · refine sb_icmp_le_t 17 cz12 (by decide) ?_
    refine sb_in [(17, .aload_n 0, 1), (18, .iload_n 1, 1), (19, .invokevirtual 161, 3), (22, .aload_n 0, 1), (23, .iload_n 2, 1), (24, .invokevirtual 161, 3), (27, .aload_n 0, 1), (28, .iload_n 3, 1), (29, .invokevirtual 161, 3), (32, .aload_n 0, 1), (33, .iload 4, 2), (35, .invokevirtual 161, 3), (38, .aload_n 0, 1), (39, .iload 5, 2), (41, .invokevirtual 161, 3), (44, .aload_n 0, 1), (45, .getfield 158, 3), (48, .ireturn, 1)] 49 (by decide +kernel) ?_
    refine sb_aload_n rfl ?_
    refine sb_iload_n rfl ?_
    obtain ⟨Mz3, hez2, h⟩ := bd h
    refine sb_callVv 1 rfl oX12_types ln12_161 vX12_types (rc_own h217.1 (S_lt h217.2) (by decide)) (rnCk_of (by decide +kernel) rfl) (tfM_types hez2) ?_
    refine sb_aload_n rfl ?_
    refine sb_iload_n rfl ?_
    obtain ⟨Mz5, hez4, h⟩ := bd h
    refine sb_callVv 1 rfl oX12_types ln12_161 vX12_types (rc_own h217.1 (S_lt h217.2) (by decide)) (rnCk_of (by decide +kernel) rfl) (tfM_types hez4) ?_
    refine sb_aload_n rfl ?_
    refine sb_iload_n rfl ?_
    obtain ⟨Mz7, hez6, h⟩ := bd h
    refine sb_callVv 1 rfl oX12_types ln12_161 vX12_types (rc_own h217.1 (S_lt h217.2) (by decide)) (rnCk_of (by decide +kernel) rfl) (tfM_types hez6) ?_
    refine sb_aload_n rfl ?_
    refine sb_iload rfl ?_
    obtain ⟨Mz9, hez8, h⟩ := bd h
    refine sb_callVv 1 rfl oX12_types ln12_161 vX12_types (rc_own h217.1 (S_lt h217.2) (by decide)) (rnCk_of (by decide +kernel) rfl) (tfM_types hez8) ?_
    refine sb_aload_n rfl ?_
    refine sb_iload rfl ?_
    obtain ⟨Mz11, hez10, h⟩ := bd h
    refine sb_callVv 1 rfl oX12_types ln12_161 vX12_types (rc_own h217.1 (S_lt h217.2) (by decide)) (rnCk_of (by decide +kernel) rfl) (tfM_types hez10) ?_
    refine sb_aload_n rfl ?_
    refine ss_getI g12_158 h217 ?_
    cases h
    subst hr
    refine sb_ireturn ?_
    exact ⟨.int, rfl, rfl⟩
  · refine sb_icmp_le_f 17 cz12 (by decide) ?_
    refine sb_in [(15, .iconst (-1), 1), (16, .ireturn, 1)] 17 (by decide +kernel) ?_
    refine sb_iconst cIm1 ?_
    cases h
    subst hr
    refine sb_ireturn ?_
    exact ⟨.int, rfl, rfl⟩
theorem tfM_feed {P : Px} {x1 : Int32} {x2 : Int32} {x3 : Int32} {x4 : Int32} {x5 : Int32} {M : Mm} {rr : (Int32 × Mm)} (h : fM_feed x1 x2 x3 x4 x5 M = some rr) : EX P 2 kX12_feed [.ref 217, .int x1, .int x2, .int x3, .int x4, .int x5] (S M) (some (.int rr.1), S rr.2) := ex_of oX12_feed (Nat.le_of_ble_eq_true rfl) (nfM_feed  h rfl)
set_option maxRecDepth 20000 in
theorem nfM_end {P : Px} {x1 : Int32} {M : Mm} {rr : (Int32 × Mm)} (h : fM_end x1 M = rr) {r : Option Value × Sg} (hr : r = (some (.int rr.1), S rr.2)) : RN P 2 kX12_end 0 [(0, .ref 217), (1, .int x1)] [] (S M) r := by
  unfold fM_end at h
  refine sb_in [(0, .aload_n 0, 1), (1, .iconst 0, 1), (2, .putfield 116, 3), (5, .aload_n 0, 1), (6, .iload_n 1, 1), (7, .iconst 0, 1), (8, .aload_n 0, 1), (9, .getfield 158, 3), (12, .invokevirtual 143, 3), (15, .ifCond .ne 5, 3)] 18 (by decide +kernel) ?_
  refine sb_aload_n rfl ?_
  refine sb_iconst cI0 ?_
  refine ss_putI p12_116 h217 (by decide) ?_
  refine sb_aload_n rfl ?_
  refine sb_iload_n rfl ?_
  refine sb_iconst cI0 ?_
  refine sb_aload_n rfl ?_
  refine ss_getI g12_158 h217 ?_
  refine sb_callVi 3 rfl oX12_isIn ln12_143 vX12_isIn (rc_own h217.1 (S_lt h217.2) (by decide)) (rnCk_of (by decide +kernel) rfl) (tfM_isIn) ?_
  rcases ife h with ⟨cz4, h⟩ | ⟨cz4, h⟩
  · refine sb_if_ne_f 20 cz4 (by decide) ?_
    refine sb_in [(18, .iconst 0, 1), (19, .ireturn, 1)] 20 (by decide +kernel) ?_
    refine sb_iconst cI0 ?_
    subst h
    subst hr
    refine sb_ireturn ?_
    exact ⟨.boolean, rfl, by decide⟩
  · refine sb_if_ne_t 20 cz4 (by decide) ?_
    refine sb_in [(20, .aload_n 0, 1), (21, .iload_n 1, 1), (22, .putfield 158, 3), (25, .iconst 1, 1), (26, .ireturn, 1)] 27 (by decide +kernel) ?_
    refine sb_aload_n rfl ?_
    refine sb_iload_n rfl ?_
    refine ss_putI p12_158 h217 (by decide) ?_
    refine sb_iconst cI1 ?_
    subst h
    subst hr
    refine sb_ireturn ?_
    exact ⟨.boolean, rfl, by decide⟩
theorem tfM_end {P : Px} {x1 : Int32} {M : Mm} : EX P 2 kX12_end [.ref 217, .int x1] (S M) (some (.int (fM_end x1 M).1), S (fM_end x1 M).2) := ex_of oX12_end (Nat.le_of_ble_eq_true rfl) (nfM_end  rfl rfl)
set_option maxRecDepth 20000 in
theorem nfM_raw {P : Px} {x1 : Int32} {M : Mm} {rr : Int32} (h : fM_raw x1 M = some rr) {r : Option Value × Sg} (hr : r = (some (.int rr), S M)) : RN P 1 kX12_raw 0 [(0, .ref 217), (1, .int x1)] [] (S M) r := by
  unfold fM_raw at h
  refine sb_in [(0, .iload_n 1, 1), (1, .aload_n 0, 1), (2, .getfield 158, 3), (5, .if_icmp .ge 12, 3)] 8 (by decide +kernel) ?_
  refine sb_iload_n rfl ?_
  refine sb_aload_n rfl ?_
  refine ss_getI g12_158 h217 ?_
  rcases ife h with ⟨cz2, h⟩ | ⟨cz2, h⟩
  · refine sb_icmp_ge_t 17 cz2 (by decide) ?_
    refine sb_in [(17, .iconst (-1), 1)] 18 (by decide +kernel) ?_
    refine sb_iconst cIm1 ?_
    refine sb_end ?_
    refine sb_in [(18, .ireturn, 1)] 19 (by decide +kernel) ?_
    cases h
    subst hr
    refine sb_ireturn ?_
    exact ⟨.int, rfl, rfl⟩
  · refine sb_icmp_ge_f 17 cz2 (by decide) ?_
    refine sb_in [(8, .aload_n 0, 1), (9, .getfield 25, 3), (12, .iload_n 1, 1), (13, .iaload, 1), (14, .goto 4, 3)] 17 (by decide +kernel) ?_
    refine sb_aload_n rfl ?_
    refine ss_getR g12_25 h217 r217_9 ?_
    refine sb_iload_n rfl ?_
    obtain ⟨hgz1, h⟩ := gd h
    refine ss_iald h223 hgz1 ?_
    refine sb_goto 18 (by decide) ?_
    refine sb_in [(18, .ireturn, 1)] 19 (by decide +kernel) ?_
    cases h
    subst hr
    refine sb_ireturn ?_
    exact ⟨.int, rfl, rfl⟩
theorem tfM_raw {P : Px} {x1 : Int32} {M : Mm} {rr : Int32} (h : fM_raw x1 M = some rr) : EX P 1 kX12_raw [.ref 217, .int x1] (S M) (some (.int rr), S M) := ex_of oX12_raw (Nat.le_of_ble_eq_true rfl) (nfM_raw  h rfl)
set_option maxRecDepth 20000 in
theorem nfM_isLetter {P : Px} {x1 : Int32} {M : Mm} {rr : Int32} (h : fM_isLetter x1 = rr) {r : Option Value × Sg} (hr : r = (some (.int rr), S M)) : RN P 2 kX12_isLetter 0 [(0, .ref 217), (1, .int x1)] [] (S M) r := by
  unfold fM_isLetter at h
  refine sb_in [(0, .aload_n 0, 1), (1, .iload_n 1, 1), (2, .bipush 97, 2), (4, .bipush 122, 2), (6, .invokevirtual 143, 3), (9, .ifCond .ne 15, 3)] 12 (by decide +kernel) ?_
  refine sb_aload_n rfl ?_
  refine sb_iload_n rfl ?_
  refine sb_bipush cB97 ?_
  refine sb_bipush cB122 ?_
  refine sb_callVi 3 rfl oX12_isIn ln12_143 vX12_isIn (rc_own h217.1 (S_lt h217.2) (by decide)) (rnCk_of (by decide +kernel) rfl) (tfM_isIn) ?_
  rcases ife h with ⟨cz3, h⟩ | ⟨cz3, h⟩
  · refine sb_if_ne_f 24 cz3 (by decide) ?_
    refine sb_in [(12, .aload_n 0, 1), (13, .iload_n 1, 1), (14, .bipush 65, 2), (16, .bipush 90, 2), (18, .invokevirtual 143, 3), (21, .ifCond .eq 7, 3)] 24 (by decide +kernel) ?_
    refine sb_aload_n rfl ?_
    refine sb_iload_n rfl ?_
    refine sb_bipush cB65 ?_
    refine sb_bipush cB90 ?_
    refine sb_callVi 3 rfl oX12_isIn ln12_143 vX12_isIn (rc_own h217.1 (S_lt h217.2) (by decide)) (rnCk_of (by decide +kernel) rfl) (tfM_isIn) ?_
    rcases ife h with ⟨cz4, h⟩ | ⟨cz4, h⟩
    · refine sb_if_eq_t 28 cz4 (by decide) ?_
      refine sb_in [(28, .iconst 0, 1)] 29 (by decide +kernel) ?_
      refine sb_iconst cI0 ?_
      refine sb_end ?_
      refine sb_in [(29, .ireturn, 1)] 30 (by decide +kernel) ?_
      subst h
      subst hr
      refine sb_ireturn ?_
      exact ⟨.boolean, rfl, by decide⟩
    · refine sb_if_eq_f 28 cz4 (by decide) ?_
      refine sb_in [(24, .iconst 1, 1), (25, .goto 4, 3)] 28 (by decide +kernel) ?_
      refine sb_iconst cI1 ?_
      refine sb_goto 29 (by decide) ?_
      refine sb_in [(29, .ireturn, 1)] 30 (by decide +kernel) ?_
      subst h
      subst hr
      refine sb_ireturn ?_
      exact ⟨.boolean, rfl, by decide⟩
  · refine sb_if_ne_t 24 cz3 (by decide) ?_
    refine sb_in [(24, .iconst 1, 1), (25, .goto 4, 3)] 28 (by decide +kernel) ?_
    refine sb_iconst cI1 ?_
    refine sb_goto 29 (by decide) ?_
    refine sb_in [(29, .ireturn, 1)] 30 (by decide +kernel) ?_
    subst h
    subst hr
    refine sb_ireturn ?_
    exact ⟨.boolean, rfl, by decide⟩
theorem tfM_isLetter {P : Px} {x1 : Int32} {M : Mm} : EX P 2 kX12_isLetter [.ref 217, .int x1] (S M) (some (.int (fM_isLetter x1)), S M) := ex_of oX12_isLetter (Nat.le_of_ble_eq_true rfl) (nfM_isLetter  rfl rfl)
set_option maxRecDepth 20000 in
theorem nfM_isDigit {P : Px} {x1 : Int32} {M : Mm} {rr : Int32} (h : fM_isDigit x1 = some rr) {r : Option Value × Sg} (hr : r = (some (.int rr), S M)) : RN P 2 kX12_isDigit 0 [(0, .ref 217), (1, .int x1)] [] (S M) r := by
  unfold fM_isDigit at h
  refine sb_in [(0, .aload_n 0, 1), (1, .iload_n 1, 1), (2, .bipush 48, 2), (4, .bipush 57, 2), (6, .invokevirtual 143, 3), (9, .ireturn, 1)] 10 (by decide +kernel) ?_
  refine sb_aload_n rfl ?_
  refine sb_iload_n rfl ?_
  refine sb_bipush cB48 ?_
  refine sb_bipush cB57 ?_
  refine sb_callVi 3 rfl oX12_isIn ln12_143 vX12_isIn (rc_own h217.1 (S_lt h217.2) (by decide)) (rnCk_of (by decide +kernel) rfl) (tfM_isIn) ?_
  obtain ⟨hgz2, h⟩ := gd h
  cases h
  subst hr
  refine sb_ireturn ?_
  exact ⟨.boolean, rfl, rn_nz hgz2⟩
theorem tfM_isDigit {P : Px} {x1 : Int32} {M : Mm} {rr : Int32} (h : fM_isDigit x1 = some rr) : EX P 2 kX12_isDigit [.ref 217, .int x1] (S M) (some (.int rr), S M) := ex_of oX12_isDigit (Nat.le_of_ble_eq_true rfl) (nfM_isDigit  h rfl)
set_option maxRecDepth 20000 in
theorem nfM_isMarkSign {P : Px} {x1 : Int32} {M : Mm} {rr : Int32} (h : fM_isMarkSign x1 = rr) {r : Option Value × Sg} (hr : r = (some (.int rr), S M)) : RN P 1 kX12_isMarkSign 0 [(0, .ref 217), (1, .int x1)] [] (S M) r := by
  unfold fM_isMarkSign at h
  refine sb_in [(0, .iload_n 1, 1), (1, .bipush 59, 2), (3, .if_icmp .eq 57, 3)] 6 (by decide +kernel) ?_
  refine sb_iload_n rfl ?_
  refine sb_bipush cB59 ?_
  rcases ife h with ⟨cz1, h⟩ | ⟨cz1, h⟩
  · refine sb_icmp_eq_t 60 cz1 (by decide) ?_
    refine sb_in [(60, .iconst 1, 1), (61, .goto 4, 3)] 64 (by decide +kernel) ?_
    refine sb_iconst cI1 ?_
    refine sb_goto 65 (by decide) ?_
    refine sb_in [(65, .ireturn, 1)] 66 (by decide +kernel) ?_
    subst h
    subst hr
    refine sb_ireturn ?_
    exact ⟨.boolean, rfl, by decide⟩
  · refine sb_icmp_eq_f 60 cz1 (by decide) ?_
    refine sb_in [(6, .iload_n 1, 1), (7, .bipush 43, 2), (9, .if_icmp .eq 51, 3)] 12 (by decide +kernel) ?_
    refine sb_iload_n rfl ?_
    refine sb_bipush cB43 ?_
    rcases ife h with ⟨cz2, h⟩ | ⟨cz2, h⟩
    · refine sb_icmp_eq_t 60 cz2 (by decide) ?_
      refine sb_in [(60, .iconst 1, 1), (61, .goto 4, 3)] 64 (by decide +kernel) ?_
      refine sb_iconst cI1 ?_
      refine sb_goto 65 (by decide) ?_
      refine sb_in [(65, .ireturn, 1)] 66 (by decide +kernel) ?_
      subst h
      subst hr
      refine sb_ireturn ?_
      exact ⟨.boolean, rfl, by decide⟩
    · refine sb_icmp_eq_f 60 cz2 (by decide) ?_
      refine sb_in [(12, .iload_n 1, 1), (13, .bipush 45, 2), (15, .if_icmp .eq 45, 3)] 18 (by decide +kernel) ?_
      refine sb_iload_n rfl ?_
      refine sb_bipush cB45 ?_
      rcases ife h with ⟨cz3, h⟩ | ⟨cz3, h⟩
      · refine sb_icmp_eq_t 60 cz3 (by decide) ?_
        refine sb_in [(60, .iconst 1, 1), (61, .goto 4, 3)] 64 (by decide +kernel) ?_
        refine sb_iconst cI1 ?_
        refine sb_goto 65 (by decide) ?_
        refine sb_in [(65, .ireturn, 1)] 66 (by decide +kernel) ?_
        subst h
        subst hr
        refine sb_ireturn ?_
        exact ⟨.boolean, rfl, by decide⟩
      · refine sb_icmp_eq_f 60 cz3 (by decide) ?_
        refine sb_in [(18, .iload_n 1, 1), (19, .bipush 42, 2), (21, .if_icmp .eq 39, 3)] 24 (by decide +kernel) ?_
        refine sb_iload_n rfl ?_
        refine sb_bipush cB42 ?_
        rcases ife h with ⟨cz4, h⟩ | ⟨cz4, h⟩
        · refine sb_icmp_eq_t 60 cz4 (by decide) ?_
          refine sb_in [(60, .iconst 1, 1), (61, .goto 4, 3)] 64 (by decide +kernel) ?_
          refine sb_iconst cI1 ?_
          refine sb_goto 65 (by decide) ?_
          refine sb_in [(65, .ireturn, 1)] 66 (by decide +kernel) ?_
          subst h
          subst hr
          refine sb_ireturn ?_
          exact ⟨.boolean, rfl, by decide⟩
        · refine sb_icmp_eq_f 60 cz4 (by decide) ?_
          refine sb_in [(24, .iload_n 1, 1), (25, .bipush 47, 2), (27, .if_icmp .eq 33, 3)] 30 (by decide +kernel) ?_
          refine sb_iload_n rfl ?_
          refine sb_bipush cB47 ?_
          rcases ife h with ⟨cz5, h⟩ | ⟨cz5, h⟩
          · refine sb_icmp_eq_t 60 cz5 (by decide) ?_
            refine sb_in [(60, .iconst 1, 1), (61, .goto 4, 3)] 64 (by decide +kernel) ?_
            refine sb_iconst cI1 ?_
            refine sb_goto 65 (by decide) ?_
            refine sb_in [(65, .ireturn, 1)] 66 (by decide +kernel) ?_
            subst h
            subst hr
            refine sb_ireturn ?_
            exact ⟨.boolean, rfl, by decide⟩
          · refine sb_icmp_eq_f 60 cz5 (by decide) ?_
            refine sb_in [(30, .iload_n 1, 1), (31, .bipush 40, 2), (33, .if_icmp .eq 27, 3)] 36 (by decide +kernel) ?_
            refine sb_iload_n rfl ?_
            refine sb_bipush cB40 ?_
            rcases ife h with ⟨cz6, h⟩ | ⟨cz6, h⟩
            · refine sb_icmp_eq_t 60 cz6 (by decide) ?_
              refine sb_in [(60, .iconst 1, 1), (61, .goto 4, 3)] 64 (by decide +kernel) ?_
              refine sb_iconst cI1 ?_
              refine sb_goto 65 (by decide) ?_
              refine sb_in [(65, .ireturn, 1)] 66 (by decide +kernel) ?_
              subst h
              subst hr
              refine sb_ireturn ?_
              exact ⟨.boolean, rfl, by decide⟩
            · refine sb_icmp_eq_f 60 cz6 (by decide) ?_
              refine sb_in [(36, .iload_n 1, 1), (37, .bipush 41, 2), (39, .if_icmp .eq 21, 3)] 42 (by decide +kernel) ?_
              refine sb_iload_n rfl ?_
              refine sb_bipush cB41 ?_
              rcases ife h with ⟨cz7, h⟩ | ⟨cz7, h⟩
              · refine sb_icmp_eq_t 60 cz7 (by decide) ?_
                refine sb_in [(60, .iconst 1, 1), (61, .goto 4, 3)] 64 (by decide +kernel) ?_
                refine sb_iconst cI1 ?_
                refine sb_goto 65 (by decide) ?_
                refine sb_in [(65, .ireturn, 1)] 66 (by decide +kernel) ?_
                subst h
                subst hr
                refine sb_ireturn ?_
                exact ⟨.boolean, rfl, by decide⟩
              · refine sb_icmp_eq_f 60 cz7 (by decide) ?_
                refine sb_in [(42, .iload_n 1, 1), (43, .bipush 60, 2), (45, .if_icmp .eq 15, 3)] 48 (by decide +kernel) ?_
                refine sb_iload_n rfl ?_
                refine sb_bipush cB60 ?_
                rcases ife h with ⟨cz8, h⟩ | ⟨cz8, h⟩
                · refine sb_icmp_eq_t 60 cz8 (by decide) ?_
                  refine sb_in [(60, .iconst 1, 1), (61, .goto 4, 3)] 64 (by decide +kernel) ?_
                  refine sb_iconst cI1 ?_
                  refine sb_goto 65 (by decide) ?_
                  refine sb_in [(65, .ireturn, 1)] 66 (by decide +kernel) ?_
                  subst h
                  subst hr
                  refine sb_ireturn ?_
                  exact ⟨.boolean, rfl, by decide⟩
                · refine sb_icmp_eq_f 60 cz8 (by decide) ?_
                  refine sb_in [(48, .iload_n 1, 1), (49, .bipush 61, 2), (51, .if_icmp .eq 9, 3)] 54 (by decide +kernel) ?_
                  refine sb_iload_n rfl ?_
                  refine sb_bipush cB61 ?_
                  rcases ife h with ⟨cz9, h⟩ | ⟨cz9, h⟩
                  · refine sb_icmp_eq_t 60 cz9 (by decide) ?_
                    refine sb_in [(60, .iconst 1, 1), (61, .goto 4, 3)] 64 (by decide +kernel) ?_
                    refine sb_iconst cI1 ?_
                    refine sb_goto 65 (by decide) ?_
                    refine sb_in [(65, .ireturn, 1)] 66 (by decide +kernel) ?_
                    subst h
                    subst hr
                    refine sb_ireturn ?_
                    exact ⟨.boolean, rfl, by decide⟩
                  · refine sb_icmp_eq_f 60 cz9 (by decide) ?_
                    refine sb_in [(54, .iload_n 1, 1), (55, .bipush 62, 2), (57, .if_icmp .ne 7, 3)] 60 (by decide +kernel) ?_
                    refine sb_iload_n rfl ?_
                    refine sb_bipush cB62 ?_
                    rcases ife h with ⟨cz10, h⟩ | ⟨cz10, h⟩
                    · refine sb_icmp_ne_f 64 cz10 (by decide) ?_
                      refine sb_in [(60, .iconst 1, 1), (61, .goto 4, 3)] 64 (by decide +kernel) ?_
                      refine sb_iconst cI1 ?_
                      refine sb_goto 65 (by decide) ?_
                      refine sb_in [(65, .ireturn, 1)] 66 (by decide +kernel) ?_
                      subst h
                      subst hr
                      refine sb_ireturn ?_
                      exact ⟨.boolean, rfl, by decide⟩
                    · refine sb_icmp_ne_t 64 cz10 (by decide) ?_
                      refine sb_in [(64, .iconst 0, 1)] 65 (by decide +kernel) ?_
                      refine sb_iconst cI0 ?_
                      refine sb_end ?_
                      refine sb_in [(65, .ireturn, 1)] 66 (by decide +kernel) ?_
                      subst h
                      subst hr
                      refine sb_ireturn ?_
                      exact ⟨.boolean, rfl, by decide⟩
theorem tfM_isMarkSign {P : Px} {x1 : Int32} {M : Mm} : EX P 1 kX12_isMarkSign [.ref 217, .int x1] (S M) (some (.int (fM_isMarkSign x1)), S M) := ex_of oX12_isMarkSign (Nat.le_of_ble_eq_true rfl) (nfM_isMarkSign  rfl rfl)
set_option maxRecDepth 20000 in
theorem nfM_wordAt {P : Px} {x1 : Int32} {x2 : Int32} {M : Mm} {rr : Int32} (h : fM_wordAt x1 x2 M = some rr) {r : Option Value × Sg} (hr : r = (some (.int rr), S M)) : RN P 1 kX12_wordAt 0 [(0, .ref 217), (1, .int x1), (2, .int x2)] [] (S M) r := by
  unfold fM_wordAt at h
  refine sb_in [(0, .iconst (-1), 1), (1, .istore_n 3, 1), (2, .iconst 0, 1), (3, .istore 4, 2)] 5 (by decide +kernel) ?_
  refine sb_iconst cIm1 ?_
  refine sb_istore_n (by decide) rfl ?_
  refine sb_iconst cI0 ?_
  refine sb_istore (by decide) rfl ?_
  refine sb_end ?_
  obtain ⟨e5, hl5, h⟩ := bd h
  refine rn_sub [0, 1, 2, 3, 4] rfl ?_
  refine lp_ind (P := fun s => RN P 1 kX12_wordAt 5 [(0, .ref 217), (1, .int x1), (2, .int x2), (3, .int s.1), (4, .int s.2)] [] (S M) r) (E := fun e => match e with | Sum.inl p => RN P 1 kX12_wordAt 86 [(3, .int p)] [] (S M) r | Sum.inr p => RN P 1 kX12_wordAt 118 [] [] (S M) r) ?_ _ _ _ hl5 ?_
  · intro s qx h hc
    obtain ⟨x3, x4⟩ := s
    replace h : fM_wordAt_b5 x1 x2 M x3 x4 = some qx := h
    show RN P 1 kX12_wordAt 5 [(0, .ref 217), (1, .int x1), (2, .int x2), (3, .int x3), (4, .int x4)] [] (S M) r
    unfold fM_wordAt_b5 at h
    refine sb_in [(5, .iload 4, 2), (7, .sipush 152, 3), (10, .if_icmp .ge 108, 3)] 13 (by decide +kernel) ?_
    refine sb_iload rfl ?_
    refine sb_sipush cS152 ?_
    rcases ife h with ⟨cz12, h⟩ | ⟨cz12, h⟩
    · refine sb_icmp_ge_t 118 cz12 (by decide) ?_
      cases h
      exact rn_sub [] rfl hc
    · refine sb_icmp_ge_f 118 cz12 (by decide) ?_
      refine sb_in [(13, .iconst 0, 1), (14, .istore 5, 2), (16, .iload_n 3, 1), (17, .iconst 1, 1), (18, .iadd, 1), (19, .istore_n 3, 1)] 20 (by decide +kernel) ?_
      refine sb_iconst cI0 ?_
      refine sb_istore (by decide) rfl ?_
      refine sb_iload_n rfl ?_
      refine sb_iconst cI1 ?_
      refine sb_iadd ?_
      refine sb_istore_n (by decide) rfl ?_
      refine sb_end ?_
      obtain ⟨e20, hl20, h⟩ := bd h
      refine rn_sub [0, 1, 2, 3, 4, 5] rfl ?_
      refine lp_ind (P := fun s => RN P 1 kX12_wordAt 20 [(0, .ref 217), (1, .int x1), (2, .int x2), (3, .int ((x3 + 1))), (4, .int x4), (5, .int s)] [] (S M) r) (E := fun p => RN P 1 kX12_wordAt 61 [(0, .ref 217), (1, .int x1), (2, .int x2), (3, .int ((x3 + 1))), (4, .int x4), (5, .int p)] [] (S M) r) ?_ _ _ _ hl20 ?_
      · intro x5 qx h hc
        replace h : fM_wordAt_b20 x1 x2 ((x3 + 1)) x4 M x5 = some qx := h
        show RN P 1 kX12_wordAt 20 [(0, .ref 217), (1, .int x1), (2, .int x2), (3, .int ((x3 + 1))), (4, .int x4), (5, .int x5)] [] (S M) r
        generalize ((x3 + 1)) = x3 at h hc ⊢
        unfold fM_wordAt_b20 at h
        refine sb_in [(20, .iload_n 1, 1), (21, .iload 5, 2), (23, .iadd, 1), (24, .iload_n 2, 1), (25, .if_icmp .ge 36, 3)] 28 (by decide +kernel) ?_
        refine sb_iload_n rfl ?_
        refine sb_iload rfl ?_
        refine sb_iadd ?_
        refine sb_iload_n rfl ?_
        rcases ife h with ⟨cz13, h⟩ | ⟨cz13, h⟩
        · refine sb_icmp_ge_t 61 cz13 (by decide) ?_
          cases h
          exact rn_sub [0, 1, 2, 3, 4, 5] rfl hc
        · refine sb_icmp_ge_f 61 cz13 (by decide) ?_
          refine sb_in [(28, .aload_n 0, 1), (29, .getfield 28, 3), (32, .iload 4, 2), (34, .iconst 1, 1), (35, .iadd, 1), (36, .iload 5, 2), (38, .iadd, 1), (39, .iaload, 1), (40, .aload_n 0, 1), (41, .getfield 25, 3), (44, .iload_n 1, 1), (45, .iload 5, 2), (47, .iadd, 1), (48, .iaload, 1), (49, .if_icmp .ne 12, 3)] 52 (by decide +kernel) ?_
          refine sb_aload_n rfl ?_
          refine ss_getR g12_28 h217 r217_15 ?_
          refine sb_iload rfl ?_
          refine sb_iconst cI1 ?_
          refine sb_iadd ?_
          refine sb_iload rfl ?_
          refine sb_iadd ?_
          obtain ⟨hgz2, h⟩ := gd h
          refine ss_iald h224 hgz2 ?_
          refine sb_aload_n rfl ?_
          refine ss_getR g12_25 h217 r217_9 ?_
          refine sb_iload_n rfl ?_
          refine sb_iload rfl ?_
          refine sb_iadd ?_
          obtain ⟨hgz3, h⟩ := gd h
          refine ss_iald h223 hgz3 ?_
          rcases ife h with ⟨cz14, h⟩ | ⟨cz14, h⟩
          · refine sb_icmp_ne_f 61 cz14 (by decide) ?_
            refine sb_in [(52, .iload 5, 2), (54, .iconst 1, 1), (55, .iadd, 1), (56, .istore 5, 2), (58, .goto (-38), 3)] 61 (by decide +kernel) ?_
            refine sb_iload rfl ?_
            refine sb_iconst cI1 ?_
            refine sb_iadd ?_
            refine sb_istore (by decide) rfl ?_
            refine sb_goto 20 (by decide) ?_
            cases h
            exact rn_sub [0, 1, 2, 3, 4, 5] rfl hc
          · refine sb_icmp_ne_t 61 cz14 (by decide) ?_
            cases h
            exact rn_sub [0, 1, 2, 3, 4, 5] rfl hc
      · clear hl20
        obtain ⟨yz5, hey⟩ : ∃ z, z = e20 := ⟨_, rfl⟩
        subst hey
        show RN P 1 kX12_wordAt 61 [(0, .ref 217), (1, .int x1), (2, .int x2), (3, .int ((x3 + 1))), (4, .int x4), (5, .int yz5)] [] (S M) r
        refine sb_in [(61, .iload_n 1, 1), (62, .iload 5, 2), (64, .iadd, 1), (65, .iload_n 2, 1), (66, .if_icmp .ne 22, 3)] 69 (by decide +kernel) ?_
        refine sb_iload_n rfl ?_
        refine sb_iload rfl ?_
        refine sb_iadd ?_
        refine sb_iload_n rfl ?_
        have hJ88 : ∀ (z1 : Int32) (z2 : Int32) (z3 : Int32) (z4 : Int32), fM_wordAt_j88 z1 z2 z3 z4 M = some qx → RN P 1 kX12_wordAt 88 [(0, .ref 217), (1, .int z1), (2, .int z2), (3, .int z3), (4, .int z4)] [] (S M) r := by
          intro z1 z2 z3 z4 h
          unfold fM_wordAt_j88 at h
          refine sb_in [(88, .iload 4, 2), (90, .iconst 1, 1), (91, .iadd, 1), (92, .istore 4, 2)] 94 (by decide +kernel) ?_
          refine sb_iload rfl ?_
          refine sb_iconst cI1 ?_
          refine sb_iadd ?_
          refine sb_istore (by decide) rfl ?_
          refine sb_end ?_
          obtain ⟨e94, hl94, h⟩ := bd h
          refine rn_sub [0, 1, 2, 3, 4] rfl ?_
          refine lp_ind (P := fun s => RN P 1 kX12_wordAt 94 [(0, .ref 217), (1, .int z1), (2, .int z2), (3, .int z3), (4, .int s)] [] (S M) r) (E := fun p => RN P 1 kX12_wordAt 115 [(0, .ref 217), (1, .int z1), (2, .int z2), (3, .int z3), (4, .int p)] [] (S M) r) ?_ _ _ _ hl94 ?_
          · intro x4 qx h hc
            replace h : fM_wordAt_b94 z1 z2 z3 M x4 = some qx := h
            show RN P 1 kX12_wordAt 94 [(0, .ref 217), (1, .int z1), (2, .int z2), (3, .int z3), (4, .int x4)] [] (S M) r
            generalize z1 = x1 at h hc ⊢
            generalize z2 = x2 at h hc ⊢
            generalize z3 = x3 at h hc ⊢
            unfold fM_wordAt_b94 at h
            refine sb_in [(94, .aload_n 0, 1), (95, .getfield 28, 3), (98, .iload 4, 2), (100, .iaload, 1), (101, .bipush 32, 2), (103, .if_icmp .eq 12, 3)] 106 (by decide +kernel) ?_
            refine sb_aload_n rfl ?_
            refine ss_getR g12_28 h217 r217_15 ?_
            refine sb_iload rfl ?_
            obtain ⟨hgz8, h⟩ := gd h
            refine ss_iald h224 hgz8 ?_
            refine sb_bipush cB32 ?_
            rcases ife h with ⟨cz15, h⟩ | ⟨cz15, h⟩
            · refine sb_icmp_eq_t 115 cz15 (by decide) ?_
              cases h
              exact rn_sub [0, 1, 2, 3, 4] rfl hc
            · refine sb_icmp_eq_f 115 cz15 (by decide) ?_
              refine sb_in [(106, .iload 4, 2), (108, .iconst 1, 1), (109, .iadd, 1), (110, .istore 4, 2), (112, .goto (-18), 3)] 115 (by decide +kernel) ?_
              refine sb_iload rfl ?_
              refine sb_iconst cI1 ?_
              refine sb_iadd ?_
              refine sb_istore (by decide) rfl ?_
              refine sb_goto 94 (by decide) ?_
              cases h
              exact rn_sub [0, 1, 2, 3, 4] rfl hc
          · clear hl94
            obtain ⟨yz10, hey⟩ : ∃ z, z = e94 := ⟨_, rfl⟩
            subst hey
            show RN P 1 kX12_wordAt 115 [(0, .ref 217), (1, .int z1), (2, .int z2), (3, .int z3), (4, .int yz10)] [] (S M) r
            refine sb_in [(115, .goto (-110), 3)] 118 (by decide +kernel) ?_
            refine sb_goto 5 (by decide) ?_
            cases h
            exact rn_sub [0, 1, 2, 3, 4] rfl hc
        rcases ife h with ⟨cz16, h⟩ | ⟨cz16, h⟩
        · refine sb_icmp_ne_f 88 cz16 (by decide) ?_
          refine sb_in [(69, .aload_n 0, 1), (70, .getfield 28, 3), (73, .iload 4, 2), (75, .iconst 1, 1), (76, .iadd, 1), (77, .iload 5, 2), (79, .iadd, 1), (80, .iaload, 1), (81, .bipush 32, 2), (83, .if_icmp .ne 5, 3)] 86 (by decide +kernel) ?_
          refine sb_aload_n rfl ?_
          refine ss_getR g12_28 h217 r217_15 ?_
          refine sb_iload rfl ?_
          refine sb_iconst cI1 ?_
          refine sb_iadd ?_
          refine sb_iload rfl ?_
          refine sb_iadd ?_
          obtain ⟨hgz6, h⟩ := gd h
          refine ss_iald h224 hgz6 ?_
          refine sb_bipush cB32 ?_
          rcases ife h with ⟨cz17, h⟩ | ⟨cz17, h⟩
          · refine sb_icmp_ne_f 88 cz17 (by decide) ?_
            cases h
            exact rn_sub [3] rfl hc
          · refine sb_icmp_ne_t 88 cz17 (by decide) ?_
            exact rn_sub [0, 1, 2, 3, 4] rfl (hJ88 _ _ _ _ h)
        · refine sb_icmp_ne_t 88 cz16 (by decide) ?_
          exact rn_sub [0, 1, 2, 3, 4] rfl (hJ88 _ _ _ _ h)
  · clear hl5
    rcases e5 with e5 | e5
    · skip
      obtain ⟨yz11, hey⟩ : ∃ z, z = e5 := ⟨_, rfl⟩
      subst hey
      show RN P 1 kX12_wordAt 86 [(3, .int yz11)] [] (S M) r
      refine sb_in [(86, .iload_n 3, 1), (87, .ireturn, 1)] 88 (by decide +kernel) ?_
      refine sb_iload_n rfl ?_
      cases h
      subst hr
      refine sb_ireturn ?_
      exact ⟨.int, rfl, rfl⟩
    · skip
      show RN P 1 kX12_wordAt 118 [] [] (S M) r
      refine sb_in [(118, .iconst (-1), 1), (119, .ireturn, 1)] 120 (by decide +kernel) ?_
      refine sb_iconst cIm1 ?_
      cases h
      subst hr
      refine sb_ireturn ?_
      exact ⟨.int, rfl, rfl⟩
theorem tfM_wordAt {P : Px} {x1 : Int32} {x2 : Int32} {M : Mm} {rr : Int32} (h : fM_wordAt x1 x2 M = some rr) : EX P 1 kX12_wordAt [.ref 217, .int x1, .int x2] (S M) (some (.int rr), S M) := ex_of oX12_wordAt (Nat.le_of_ble_eq_true rfl) (nfM_wordAt  h rfl)
set_option maxRecDepth 20000 in
theorem nfM_reads {P : Px} {M : Mm} {rr : Mm} (h : fM_reads M = some rr) {r : Option Value × Sg} (hr : r = (none, S rr)) : RN P 3 kX12_reads 0 [(0, .ref 217)] [] (S M) r := by
  unfold fM_reads at h
  obtain ⟨e0, hl0, h⟩ := bd h
  refine rn_sub [0] rfl ?_
  refine lp_ind (P := fun s => RN P 3 kX12_reads 0 [(0, .ref 217)] [] (S s) r) (E := fun p => RN P 3 kX12_reads 39 [(0, .ref 217)] [] (S p) r) ?_ _ _ _ hl0 ?_
  · intro M qx h hc
    replace h : fM_reads_b0 M = some qx := h
    show RN P 3 kX12_reads 0 [(0, .ref 217)] [] (S M) r
    unfold fM_reads_b0 at h
    refine sb_in [(0, .aload_n 0, 1), (1, .aload_n 0, 1), (2, .getfield 164, 3), (5, .invokevirtual 167, 3), (8, .bipush 32, 2), (10, .if_icmp .eq 16, 3)] 13 (by decide +kernel) ?_
    refine sb_aload_n rfl ?_
    refine sb_aload_n rfl ?_
    refine ss_getI g12_164 h217 ?_
    obtain ⟨qz2, hez1, h⟩ := bd h
    refine sb_callVi 1 rfl oX12_raw ln12_167 vX12_raw (rc_own h217.1 (S_lt h217.2) (by decide)) (rnCk_of (by decide +kernel) rfl) (tfM_raw hez1) ?_
    refine sb_bipush cB32 ?_
    have hJ26 : ∀ (M : Mm), fM_reads_j26 M = some qx → RN P 3 kX12_reads 26 [(0, .ref 217)] [] (S M) r := by
      intro M h
      unfold fM_reads_j26 at h
      refine sb_in [(26, .aload_n 0, 1), (27, .aload_n 0, 1), (28, .getfield 164, 3), (31, .iconst 1, 1), (32, .iadd, 1), (33, .putfield 164, 3), (36, .goto (-36), 3)] 39 (by decide +kernel) ?_
      refine sb_aload_n rfl ?_
      refine sb_aload_n rfl ?_
      refine ss_getI g12_164 h217 ?_
      refine sb_iconst cI1 ?_
      refine sb_iadd ?_
      refine ss_putI p12_164 h217 (by decide) ?_
      refine sb_goto 0 (by decide) ?_
      cases h
      exact rn_sub [0] rfl hc
    rcases ife h with ⟨cz40, h⟩ | ⟨cz40, h⟩
    · refine sb_icmp_eq_t 26 cz40 (by decide) ?_
      exact rn_sub [0] rfl (hJ26 _ h)
    · refine sb_icmp_eq_f 26 cz40 (by decide) ?_
      refine sb_in [(13, .aload_n 0, 1), (14, .aload_n 0, 1), (15, .getfield 164, 3), (18, .invokevirtual 167, 3), (21, .bipush 10, 2), (23, .if_icmp .ne 16, 3)] 26 (by decide +kernel) ?_
      refine sb_aload_n rfl ?_
      refine sb_aload_n rfl ?_
      refine ss_getI g12_164 h217 ?_
      obtain ⟨qz4, hez3, h⟩ := bd h
      refine sb_callVi 1 rfl oX12_raw ln12_167 vX12_raw (rc_own h217.1 (S_lt h217.2) (by decide)) (rnCk_of (by decide +kernel) rfl) (tfM_raw hez3) ?_
      refine sb_bipush cB10 ?_
      rcases ife h with ⟨cz41, h⟩ | ⟨cz41, h⟩
      · refine sb_icmp_ne_f 39 cz41 (by decide) ?_
        exact rn_sub [0] rfl (hJ26 _ h)
      · refine sb_icmp_ne_t 39 cz41 (by decide) ?_
        cases h
        exact rn_sub [0] rfl hc
  · clear hl0
    obtain ⟨Mz6, hey⟩ : ∃ z, z = e0 := ⟨_, rfl⟩
    subst hey
    show RN P 3 kX12_reads 39 [(0, .ref 217)] [] (S Mz6) r
    refine sb_in [(39, .aload_n 0, 1), (40, .aload_n 0, 1), (41, .getfield 164, 3), (44, .putfield 170, 3), (47, .aload_n 0, 1), (48, .iconst 1, 1), (49, .putfield 173, 3), (52, .aload_n 0, 1), (53, .aload_n 0, 1), (54, .getfield 164, 3), (57, .invokevirtual 167, 3), (60, .istore_n 1, 1), (61, .iload_n 1, 1), (62, .iconst (-1), 1), (63, .if_icmp .ne 9, 3)] 66 (by decide +kernel) ?_
    refine sb_aload_n rfl ?_
    refine sb_aload_n rfl ?_
    refine ss_getI g12_164 h217 ?_
    refine ss_putI p12_170 h217 (by decide) ?_
    refine sb_aload_n rfl ?_
    refine sb_iconst cI1 ?_
    refine ss_putI p12_173 h217 (by decide) ?_
    refine sb_aload_n rfl ?_
    refine sb_aload_n rfl ?_
    refine ss_getI g12_164 h217 ?_
    obtain ⟨qz10, hez9, h⟩ := bd h
    refine sb_callVi 1 rfl oX12_raw ln12_167 vX12_raw (rc_own h217.1 (S_lt h217.2) (by decide)) (rnCk_of (by decide +kernel) rfl) (tfM_raw hez9) ?_
    refine sb_istore_n (by decide) rfl ?_
    refine sb_iload_n rfl ?_
    refine sb_iconst cIm1 ?_
    rcases ife h with ⟨cz42, h⟩ | ⟨cz42, h⟩
    · refine sb_icmp_ne_f 72 cz42 (by decide) ?_
      refine sb_in [(66, .aload_n 0, 1), (67, .iconst 0, 1), (68, .putfield 173, 3), (71, .return_, 1)] 72 (by decide +kernel) ?_
      refine sb_aload_n rfl ?_
      refine sb_iconst cI0 ?_
      refine ss_putI p12_173 h217 (by decide) ?_
      cases h
      subst hr
      refine sb_return ?_
      exact rfl
    · refine sb_icmp_ne_t 72 cz42 (by decide) ?_
      refine sb_in [(72, .aload_n 0, 1), (73, .aload_n 0, 1), (74, .getfield 164, 3), (77, .iconst 1, 1), (78, .iadd, 1), (79, .putfield 164, 3), (82, .aload_n 0, 1), (83, .iload_n 1, 1), (84, .putfield 176, 3), (87, .aload_n 0, 1), (88, .iload_n 1, 1), (89, .invokevirtual 179, 3), (92, .ifCond .eq 63, 3)] 95 (by decide +kernel) ?_
      refine sb_aload_n rfl ?_
      refine sb_aload_n rfl ?_
      refine ss_getI g12_164 h217 ?_
      refine sb_iconst cI1 ?_
      refine sb_iadd ?_
      refine ss_putI p12_164 h217 (by decide) ?_
      refine sb_aload_n rfl ?_
      refine sb_iload_n rfl ?_
      refine ss_putI p12_176 h217 (by decide) ?_
      refine sb_aload_n rfl ?_
      refine sb_iload_n rfl ?_
      refine sb_callVi 1 rfl oX12_isLetter ln12_179 vX12_isLetter (rc_own h217.1 (S_lt h217.2) (by decide)) (rnCk_of (by decide +kernel) rfl) (tfM_isLetter) ?_
      rcases ife h with ⟨cz43, h⟩ | ⟨cz43, h⟩
      · refine sb_if_eq_t 155 cz43 (by decide) ?_
        refine sb_in [(155, .aload_n 0, 1), (156, .iload_n 1, 1), (157, .invokevirtual 186, 3), (160, .ifCond .eq 100, 3)] 163 (by decide +kernel) ?_
        refine sb_aload_n rfl ?_
        refine sb_iload_n rfl ?_
        obtain ⟨qz15, hez14, h⟩ := bd h
        refine sb_callVi 1 rfl oX12_isDigit ln12_186 vX12_isDigit (rc_own h217.1 (S_lt h217.2) (by decide)) (rnCk_of (by decide +kernel) rfl) (tfM_isDigit hez14) ?_
        rcases ife h with ⟨cz44, h⟩ | ⟨cz44, h⟩
        · refine sb_if_eq_t 260 cz44 (by decide) ?_
          refine sb_in [(260, .aload_n 0, 1), (261, .iload_n 1, 1), (262, .invokevirtual 189, 3), (265, .ifCond .eq 8, 3)] 268 (by decide +kernel) ?_
          refine sb_aload_n rfl ?_
          refine sb_iload_n rfl ?_
          refine sb_callVi 1 rfl oX12_isMarkSign ln12_189 vX12_isMarkSign (rc_own h217.1 (S_lt h217.2) (by decide)) (rnCk_of (by decide +kernel) rfl) (tfM_isMarkSign) ?_
          rcases ife h with ⟨cz45, h⟩ | ⟨cz45, h⟩
          · refine sb_if_eq_t 273 cz45 (by decide) ?_
            refine sb_in [(273, .return_, 1)] 274 (by decide +kernel) ?_
            cases h
            subst hr
            refine sb_return ?_
            exact rfl
          · refine sb_if_eq_f 273 cz45 (by decide) ?_
            refine sb_in [(268, .aload_n 0, 1), (269, .iconst 4, 1), (270, .putfield 173, 3)] 273 (by decide +kernel) ?_
            refine sb_aload_n rfl ?_
            refine sb_iconst cI4 ?_
            refine ss_putI p12_173 h217 (by decide) ?_
            refine sb_end ?_
            refine sb_in [(273, .return_, 1)] 274 (by decide +kernel) ?_
            cases h
            subst hr
            refine sb_return ?_
            exact rfl
        · refine sb_if_eq_f 260 cz44 (by decide) ?_
          refine sb_in [(163, .aload_n 0, 1), (164, .iload_n 1, 1), (165, .bipush 48, 2), (167, .isub, 1), (168, .putfield 176, 3)] 171 (by decide +kernel) ?_
          refine sb_aload_n rfl ?_
          refine sb_iload_n rfl ?_
          refine sb_bipush cB48 ?_
          refine sb_isub ?_
          refine ss_putI p12_176 h217 (by decide) ?_
          refine sb_end ?_
          obtain ⟨e171, hl171, h⟩ := bd h
          refine rn_sub [0] rfl ?_
          refine lp_ind (P := fun s => RN P 3 kX12_reads 171 [(0, .ref 217)] [] (S s) r) (E := fun p => RN P 3 kX12_reads 239 [(0, .ref 217)] [] (S p) r) ?_ _ _ _ hl171 ?_
          · intro M qx h hc
            replace h : fM_reads_b171 M = some qx := h
            show RN P 3 kX12_reads 171 [(0, .ref 217)] [] (S M) r
            unfold fM_reads_b171 at h
            refine sb_in [(171, .aload_n 0, 1), (172, .aload_n 0, 1), (173, .aload_n 0, 1), (174, .getfield 164, 3), (177, .invokevirtual 167, 3), (180, .invokevirtual 186, 3), (183, .ifCond .eq 56, 3)] 186 (by decide +kernel) ?_
            refine sb_aload_n rfl ?_
            refine sb_aload_n rfl ?_
            refine sb_aload_n rfl ?_
            refine ss_getI g12_164 h217 ?_
            obtain ⟨qz20, hez19, h⟩ := bd h
            refine sb_callVi 1 rfl oX12_raw ln12_167 vX12_raw (rc_own h217.1 (S_lt h217.2) (by decide)) (rnCk_of (by decide +kernel) rfl) (tfM_raw hez19) ?_
            obtain ⟨qz22, hez21, h⟩ := bd h
            refine sb_callVi 1 rfl oX12_isDigit ln12_186 vX12_isDigit (rc_own h217.1 (S_lt h217.2) (by decide)) (rnCk_of (by decide +kernel) rfl) (tfM_isDigit hez21) ?_
            rcases ife h with ⟨cz46, h⟩ | ⟨cz46, h⟩
            · refine sb_if_eq_t 239 cz46 (by decide) ?_
              cases h
              exact rn_sub [0] rfl hc
            · refine sb_if_eq_f 239 cz46 (by decide) ?_
              refine sb_in [(186, .aload_n 0, 1), (187, .aload_n 0, 1), (188, .getfield 176, 3), (191, .sipush 10000, 3), (194, .if_icmp .ge 25, 3)] 197 (by decide +kernel) ?_
              refine sb_aload_n rfl ?_
              refine sb_aload_n rfl ?_
              refine ss_getI g12_176 h217 ?_
              refine sb_sipush cS10000 ?_
              obtain ⟨yz25, hj223, h⟩ := bd h
              have hJ223 : RN P 3 kX12_reads 223 [(0, .ref 217)] [.int yz25, .ref 217] (S M) r := by
                refine sb_in [(223, .putfield 176, 3), (226, .aload_n 0, 1), (227, .aload_n 0, 1), (228, .getfield 164, 3), (231, .iconst 1, 1), (232, .iadd, 1), (233, .putfield 164, 3), (236, .goto (-65), 3)] 239 (by decide +kernel) ?_
                refine ss_putI p12_176 h217 (by decide) ?_
                refine sb_aload_n rfl ?_
                refine sb_aload_n rfl ?_
                refine ss_getI g12_164 h217 ?_
                refine sb_iconst cI1 ?_
                refine sb_iadd ?_
                refine ss_putI p12_164 h217 (by decide) ?_
                refine sb_goto 171 (by decide) ?_
                cases h
                exact rn_sub [0] rfl hc
              clear h
              have h := hj223
              rcases ife h with ⟨cz47, h⟩ | ⟨cz47, h⟩
              · refine sb_icmp_ge_t 219 cz47 (by decide) ?_
                refine sb_in [(219, .aload_n 0, 1), (220, .getfield 176, 3)] 223 (by decide +kernel) ?_
                refine sb_aload_n rfl ?_
                refine ss_getI g12_176 h217 ?_
                refine sb_end ?_
                cases h
                exact rn_sub [0] rfl hJ223
              · refine sb_icmp_ge_f 219 cz47 (by decide) ?_
                refine sb_in [(197, .bipush 10, 2), (199, .aload_n 0, 1), (200, .getfield 176, 3), (203, .imul, 1), (204, .aload_n 0, 1), (205, .aload_n 0, 1), (206, .getfield 164, 3), (209, .invokevirtual 167, 3), (212, .iadd, 1), (213, .bipush 48, 2), (215, .isub, 1), (216, .goto 7, 3)] 219 (by decide +kernel) ?_
                refine sb_bipush cB10 ?_
                refine sb_aload_n rfl ?_
                refine ss_getI g12_176 h217 ?_
                refine sb_imul ?_
                refine sb_aload_n rfl ?_
                refine sb_aload_n rfl ?_
                refine ss_getI g12_164 h217 ?_
                obtain ⟨qz24, hez23, h⟩ := bd h
                refine sb_callVi 1 rfl oX12_raw ln12_167 vX12_raw (rc_own h217.1 (S_lt h217.2) (by decide)) (rnCk_of (by decide +kernel) rfl) (tfM_raw hez23) ?_
                refine sb_iadd ?_
                refine sb_bipush cB48 ?_
                refine sb_isub ?_
                refine sb_goto 223 (by decide) ?_
                cases h
                exact rn_sub [0] rfl hJ223
          · clear hl171
            obtain ⟨Mz28, hey⟩ : ∃ z, z = e171 := ⟨_, rfl⟩
            subst hey
            show RN P 3 kX12_reads 239 [(0, .ref 217)] [] (S Mz28) r
            refine sb_in [(239, .aload_n 0, 1), (240, .getfield 164, 3), (243, .aload_n 0, 1), (244, .getfield 170, 3), (247, .isub, 1), (248, .iconst 5, 1), (249, .if_icmp .ge 24, 3)] 252 (by decide +kernel) ?_
            refine sb_aload_n rfl ?_
            refine ss_getI g12_164 h217 ?_
            refine sb_aload_n rfl ?_
            refine ss_getI g12_170 h217 ?_
            refine sb_isub ?_
            refine sb_iconst cI5 ?_
            rcases ife h with ⟨cz48, h⟩ | ⟨cz48, h⟩
            · refine sb_icmp_ge_t 273 cz48 (by decide) ?_
              refine sb_in [(273, .return_, 1)] 274 (by decide +kernel) ?_
              cases h
              subst hr
              refine sb_return ?_
              exact rfl
            · refine sb_icmp_ge_f 273 cz48 (by decide) ?_
              refine sb_in [(252, .aload_n 0, 1), (253, .iconst 3, 1), (254, .putfield 173, 3), (257, .goto 16, 3)] 260 (by decide +kernel) ?_
              refine sb_aload_n rfl ?_
              refine sb_iconst cI3 ?_
              refine ss_putI p12_173 h217 (by decide) ?_
              refine sb_goto 273 (by decide) ?_
              refine sb_in [(273, .return_, 1)] 274 (by decide +kernel) ?_
              cases h
              subst hr
              refine sb_return ?_
              exact rfl
      · refine sb_if_eq_f 155 cz43 (by decide) ?_
        obtain ⟨e95, hl95, h⟩ := bd h
        refine rn_sub [0] rfl ?_
        refine lp_ind (P := fun s => RN P 3 kX12_reads 95 [(0, .ref 217)] [] (S s) r) (E := fun p => RN P 3 kX12_reads 123 [(0, .ref 217)] [] (S p) r) ?_ _ _ _ hl95 ?_
        · intro M qx h hc
          replace h : fM_reads_b95 M = some qx := h
          show RN P 3 kX12_reads 95 [(0, .ref 217)] [] (S M) r
          unfold fM_reads_b95 at h
          refine sb_in [(95, .aload_n 0, 1), (96, .aload_n 0, 1), (97, .aload_n 0, 1), (98, .getfield 164, 3), (101, .invokevirtual 167, 3), (104, .invokevirtual 179, 3), (107, .ifCond .eq 16, 3)] 110 (by decide +kernel) ?_
          refine sb_aload_n rfl ?_
          refine sb_aload_n rfl ?_
          refine sb_aload_n rfl ?_
          refine ss_getI g12_164 h217 ?_
          obtain ⟨qz31, hez30, h⟩ := bd h
          refine sb_callVi 1 rfl oX12_raw ln12_167 vX12_raw (rc_own h217.1 (S_lt h217.2) (by decide)) (rnCk_of (by decide +kernel) rfl) (tfM_raw hez30) ?_
          refine sb_callVi 1 rfl oX12_isLetter ln12_179 vX12_isLetter (rc_own h217.1 (S_lt h217.2) (by decide)) (rnCk_of (by decide +kernel) rfl) (tfM_isLetter) ?_
          rcases ife h with ⟨cz49, h⟩ | ⟨cz49, h⟩
          · refine sb_if_eq_t 123 cz49 (by decide) ?_
            cases h
            exact rn_sub [0] rfl hc
          · refine sb_if_eq_f 123 cz49 (by decide) ?_
            refine sb_in [(110, .aload_n 0, 1), (111, .aload_n 0, 1), (112, .getfield 164, 3), (115, .iconst 1, 1), (116, .iadd, 1), (117, .putfield 164, 3), (120, .goto (-25), 3)] 123 (by decide +kernel) ?_
            refine sb_aload_n rfl ?_
            refine sb_aload_n rfl ?_
            refine ss_getI g12_164 h217 ?_
            refine sb_iconst cI1 ?_
            refine sb_iadd ?_
            refine ss_putI p12_164 h217 (by decide) ?_
            refine sb_goto 95 (by decide) ?_
            cases h
            exact rn_sub [0] rfl hc
        · clear hl95
          obtain ⟨Mz34, hey⟩ : ∃ z, z = e95 := ⟨_, rfl⟩
          subst hey
          show RN P 3 kX12_reads 123 [(0, .ref 217)] [] (S Mz34) r
          refine sb_in [(123, .aload_n 0, 1), (124, .aload_n 0, 1), (125, .aload_n 0, 1), (126, .getfield 170, 3), (129, .aload_n 0, 1), (130, .getfield 164, 3), (133, .invokevirtual 182, 3), (136, .putfield 176, 3), (139, .aload_n 0, 1), (140, .getfield 176, 3), (143, .iconst (-1), 1), (144, .if_icmp .eq 129, 3)] 147 (by decide +kernel) ?_
          refine sb_aload_n rfl ?_
          refine sb_aload_n rfl ?_
          refine sb_aload_n rfl ?_
          refine ss_getI g12_170 h217 ?_
          refine sb_aload_n rfl ?_
          refine ss_getI g12_164 h217 ?_
          obtain ⟨qz36, hez35, h⟩ := bd h
          refine sb_callVi 2 rfl oX12_wordAt ln12_182 vX12_wordAt (rc_own h217.1 (S_lt h217.2) (by decide)) (rnCk_of (by decide +kernel) rfl) (tfM_wordAt hez35) ?_
          refine ss_putI p12_176 h217 (by decide) ?_
          refine sb_aload_n rfl ?_
          refine ss_getI g12_176 h217 ?_
          refine sb_iconst cIm1 ?_
          rcases ife h with ⟨cz50, h⟩ | ⟨cz50, h⟩
          · refine sb_icmp_eq_t 273 cz50 (by decide) ?_
            refine sb_in [(273, .return_, 1)] 274 (by decide +kernel) ?_
            cases h
            subst hr
            refine sb_return ?_
            exact rfl
          · refine sb_icmp_eq_f 273 cz50 (by decide) ?_
            refine sb_in [(147, .aload_n 0, 1), (148, .iconst 2, 1), (149, .putfield 173, 3), (152, .goto 121, 3)] 155 (by decide +kernel) ?_
            refine sb_aload_n rfl ?_
            refine sb_iconst cI2 ?_
            refine ss_putI p12_173 h217 (by decide) ?_
            refine sb_goto 273 (by decide) ?_
            refine sb_in [(273, .return_, 1)] 274 (by decide +kernel) ?_
            cases h
            subst hr
            refine sb_return ?_
            exact rfl
theorem tfM_reads {P : Px} {M : Mm} {rr : Mm} (h : fM_reads M = some rr) : EX P 3 kX12_reads [.ref 217] (S M) (none, S rr) := ex_of oX12_reads (Nat.le_of_ble_eq_true rfl) (nfM_reads  h rfl)
end RnT
