section RnT
set_option maxRecDepth 20000 in
theorem nfY_shortestEnd {P : Px} {x1 : Int32} {x2 : Int32} {M : Mm} {rr : Int32} (h : fY_shortestEnd x1 x2 M = some rr) {r : Option Value × Sg} (hr : r = (some (.int rr), S M)) : RN P 1 kX9_shortestEnd 0 [(0, .ref 173), (1, .int x1), (2, .int x2), (3, .ref 252)] [] (S M) r := by
  unfold fY_shortestEnd at h
  refine sb_in [(0, .iconst 1, 1), (1, .iload_n 1, 1), (2, .ishl, 1), (3, .iconst 1, 1), (4, .isub, 1), (5, .istore 4, 2), (7, .ldc 55, 2), (9, .istore 5, 2), (11, .iconst (-1), 1), (12, .istore 6, 2), (14, .iconst 0, 1), (15, .istore 7, 2)] 17 (by decide +kernel) ?_
  refine sb_iconst cI1 ?_
  refine sb_iload_n rfl ?_
  refine sb_ishl ?_
  refine sb_iconst cI1 ?_
  refine sb_isub ?_
  refine sb_istore (by decide) rfl ?_
  refine sb_ldc (v := 1000000) rfl ?_
  refine sb_istore (by decide) rfl ?_
  refine sb_iconst cIm1 ?_
  refine sb_istore (by decide) rfl ?_
  refine sb_iconst cI0 ?_
  refine sb_istore (by decide) rfl ?_
  refine sb_end ?_
  obtain ⟨e17, hl17, h⟩ := bd h
  refine rn_sub [0, 1, 2, 3, 4, 5, 6, 7] rfl ?_
  refine lp_ind (P := fun s => RN P 1 kX9_shortestEnd 17 [(0, .ref 173), (1, .int x1), (2, .int x2), (3, .ref 252), (4, .int ((((1 : Int32) <<< (x1 &&& 31)) - 1))), (5, .int s.1), (6, .int s.2.1), (7, .int s.2.2)] [] (S M) r) (E := fun p => RN P 1 kX9_shortestEnd 65 [(2, .int x2), (5, .int p.1), (6, .int p.2)] [] (S M) r) ?_ _ _ _ hl17 ?_
  · intro s qx h hc
    obtain ⟨x5, x6, x7⟩ := s
    replace h : fY_shortestEnd_b17 x1 x2 ((((1 : Int32) <<< (x1 &&& 31)) - 1)) M x5 x6 x7 = some qx := h
    show RN P 1 kX9_shortestEnd 17 [(0, .ref 173), (1, .int x1), (2, .int x2), (3, .ref 252), (4, .int ((((1 : Int32) <<< (x1 &&& 31)) - 1))), (5, .int x5), (6, .int x6), (7, .int x7)] [] (S M) r
    generalize ((((1 : Int32) <<< (x1 &&& 31)) - 1)) = x4 at h hc ⊢
    unfold fY_shortestEnd_b17 at h
    refine sb_in [(17, .iload 7, 2), (19, .iload_n 1, 1), (20, .if_icmp .ge 45, 3)] 23 (by decide +kernel) ?_
    refine sb_iload rfl ?_
    refine sb_iload_n rfl ?_
    rcases ife h with ⟨cz11, h⟩ | ⟨cz11, h⟩
    · refine sb_icmp_ge_t 65 cz11 (by decide) ?_
      cases h
      exact rn_sub [2, 5, 6] rfl hc
    · refine sb_icmp_ge_f 65 cz11 (by decide) ?_
      refine sb_in [(23, .aload_n 3, 1), (24, .iload 4, 2), (26, .bipush 8, 2), (28, .imul, 1), (29, .iload 7, 2), (31, .iadd, 1), (32, .iaload, 1), (33, .iload 5, 2), (35, .if_icmp .ge 24, 3)] 38 (by decide +kernel) ?_
      refine sb_aload_n rfl ?_
      refine sb_iload rfl ?_
      refine sb_bipush cB8 ?_
      refine sb_imul ?_
      refine sb_iload rfl ?_
      refine sb_iadd ?_
      obtain ⟨hgz2, h⟩ := gd h
      refine ss_ialdD hgz2 ?_
      refine sb_iload rfl ?_
      obtain ⟨⟨yz7, yz8⟩, hj59, h⟩ := bd h
      have hJ59 : RN P 1 kX9_shortestEnd 59 [(0, .ref 173), (1, .int x1), (2, .int x2), (3, .ref 252), (4, .int x4), (5, .int yz7), (6, .int yz8), (7, .int x7)] [] (S M) r := by
        refine sb_in [(59, .iinc 7 1, 3), (62, .goto (-45), 3)] 65 (by decide +kernel) ?_
        refine ss_iinc cI1 rfl (by decide) rfl ?_
        refine sb_goto 17 (by decide) ?_
        cases h
        exact rn_sub [0, 1, 2, 3, 4, 5, 6, 7] rfl hc
      clear h
      have h := hj59
      clear hj59
      rcases ife h with ⟨cz12, h⟩ | ⟨cz12, h⟩
      · refine sb_icmp_ge_t 59 cz12 (by decide) ?_
        cases h
        exact rn_sub [0, 1, 2, 3, 4, 5, 6, 7] rfl hJ59
      · refine sb_icmp_ge_f 59 cz12 (by decide) ?_
        refine sb_in [(38, .aload_n 3, 1), (39, .iload 4, 2), (41, .bipush 8, 2), (43, .imul, 1), (44, .iload 7, 2), (46, .iadd, 1), (47, .iaload, 1), (48, .istore 5, 2), (50, .aload_n 0, 1), (51, .getfield 15, 3), (54, .iload 7, 2), (56, .iaload, 1), (57, .istore 6, 2)] 59 (by decide +kernel) ?_
        refine sb_aload_n rfl ?_
        refine sb_iload rfl ?_
        refine sb_bipush cB8 ?_
        refine sb_imul ?_
        refine sb_iload rfl ?_
        refine sb_iadd ?_
        obtain ⟨hgz3, h⟩ := gd h
        refine ss_ialdD hgz3 ?_
        refine sb_istore (by decide) rfl ?_
        refine sb_aload_n rfl ?_
        refine ss_getR g9_15 h173 r173_1 ?_
        refine sb_iload rfl ?_
        obtain ⟨hgz5, h⟩ := gd h
        refine ss_iald h175 hgz5 ?_
        refine sb_istore (by decide) rfl ?_
        refine sb_end ?_
        cases h
        exact rn_sub [0, 1, 2, 3, 4, 5, 6, 7] rfl hJ59
  · clear hl17
    obtain ⟨yz9, yz10⟩ := e17
    show RN P 1 kX9_shortestEnd 65 [(2, .int x2), (5, .int yz9), (6, .int yz10)] [] (S M) r
    refine sb_in [(65, .iload_n 2, 1), (66, .ifCond .ne 9, 3)] 69 (by decide +kernel) ?_
    refine sb_iload_n rfl ?_
    rcases ife h with ⟨cz13, h⟩ | ⟨cz13, h⟩
    · refine sb_if_ne_f 75 cz13 (by decide) ?_
      refine sb_in [(69, .iload 6, 2), (71, .iconst (-1), 1), (72, .if_icmp .ne 8, 3)] 75 (by decide +kernel) ?_
      refine sb_iload rfl ?_
      refine sb_iconst cIm1 ?_
      rcases ife h with ⟨cz14, h⟩ | ⟨cz14, h⟩
      · refine sb_icmp_ne_f 80 cz14 (by decide) ?_
        refine sb_in [(75, .iload 6, 2), (77, .goto 5, 3)] 80 (by decide +kernel) ?_
        refine sb_iload rfl ?_
        refine sb_goto 82 (by decide) ?_
        refine sb_in [(82, .ireturn, 1)] 83 (by decide +kernel) ?_
        cases h
        subst hr
        refine sb_ireturn ?_
        exact ⟨.int, rfl, rfl⟩
      · refine sb_icmp_ne_t 80 cz14 (by decide) ?_
        refine sb_in [(80, .iload 5, 2)] 82 (by decide +kernel) ?_
        refine sb_iload rfl ?_
        refine sb_end ?_
        refine sb_in [(82, .ireturn, 1)] 83 (by decide +kernel) ?_
        cases h
        subst hr
        refine sb_ireturn ?_
        exact ⟨.int, rfl, rfl⟩
    · refine sb_if_ne_t 75 cz13 (by decide) ?_
      refine sb_in [(75, .iload 6, 2), (77, .goto 5, 3)] 80 (by decide +kernel) ?_
      refine sb_iload rfl ?_
      refine sb_goto 82 (by decide) ?_
      refine sb_in [(82, .ireturn, 1)] 83 (by decide +kernel) ?_
      cases h
      subst hr
      refine sb_ireturn ?_
      exact ⟨.int, rfl, rfl⟩
theorem tfY_shortestEnd {P : Px} {x1 : Int32} {x2 : Int32} {M : Mm} {rr : Int32} (h : fY_shortestEnd x1 x2 M = some rr) : EX P 1 kX9_shortestEnd [.ref 173, .int x1, .int x2, .ref 252] (S M) (some (.int rr), S M) := ex_of oX9_shortestEnd (Nat.le_of_ble_eq_true rfl) (nfY_shortestEnd  h rfl)
set_option maxRecDepth 20000 in
theorem nfY_walkAll {P : Px} {x1 : Int32} {x2 : Int32} {M : Mm} {rr : (Int32 × Mm)} (h : fY_walkAll x1 x2 M = some rr) {r : Option Value × Sg} (hr : r = (some (.int rr.1), S rr.2)) : RN P 4 kX9_walkAll 0 [(0, .ref 173), (1, .int x1), (2, .int x2), (3, .ref 1), (4, .ref 123), (5, .ref 252)] [] (S M) r := by
  unfold fY_walkAll at h
  refine sb_in [(0, .iconst 0, 1), (1, .istore 6, 2), (3, .iconst 0, 1), (4, .istore 7, 2)] 6 (by decide +kernel) ?_
  refine sb_iconst cI0 ?_
  refine sb_istore (by decide) rfl ?_
  refine sb_iconst cI0 ?_
  refine sb_istore (by decide) rfl ?_
  refine sb_end ?_
  obtain ⟨e6, hl6, h⟩ := bd h
  refine rn_sub [0, 1, 2, 3, 4, 5, 6, 7] rfl ?_
  refine lp_ind (P := fun s => RN P 4 kX9_walkAll 6 [(0, .ref 173), (1, .int x1), (2, .int x2), (3, .ref 1), (4, .ref 123), (5, .ref 252), (6, .int s.1), (7, .int s.2.1)] [] (S s.2.2) r) (E := fun e => match e with | Sum.inl p => RN P 4 kX9_walkAll 43 [] [] (S p) r | Sum.inr p => RN P 4 kX9_walkAll 63 [(0, .ref 173), (1, .int x1), (2, .int x2), (3, .ref 1), (4, .ref 123), (5, .ref 252), (6, .int p.1)] [] (S p.2) r) ?_ _ _ _ hl6 ?_
  · intro s qx h hc
    obtain ⟨x6, x7, M⟩ := s
    replace h : fY_walkAll_b6 x1 x2 x6 x7 M = some qx := h
    show RN P 4 kX9_walkAll 6 [(0, .ref 173), (1, .int x1), (2, .int x2), (3, .ref 1), (4, .ref 123), (5, .ref 252), (6, .int x6), (7, .int x7)] [] (S M) r
    unfold fY_walkAll_b6 at h
    refine sb_in [(6, .iload 7, 2), (8, .aload_n 3, 1), (9, .getfield 21, 3), (12, .getfield 27, 3), (15, .if_icmp .ge 48, 3)] 18 (by decide +kernel) ?_
    refine sb_iload rfl ?_
    refine sb_aload_n rfl ?_
    refine ss_getR g9_21 h1 r1_0 ?_
    refine ss_getI g9_27 h2 ?_
    rcases ife h with ⟨cz14, h⟩ | ⟨cz14, h⟩
    · refine sb_icmp_ge_t 63 cz14 (by decide) ?_
      cases h
      exact rn_sub [0, 1, 2, 3, 4, 5, 6] rfl hc
    · refine sb_icmp_ge_f 63 cz14 (by decide) ?_
      refine sb_in [(18, .iload 7, 2), (20, .iload_n 1, 1), (21, .if_icmp .eq 36, 3)] 24 (by decide +kernel) ?_
      refine sb_iload rfl ?_
      refine sb_iload_n rfl ?_
      have hJ57 : ∀ (z6 : Int32) (z7 : Int32) (M : Mm), fY_walkAll_j57 x1 x2 z6 z7 M = some qx → RN P 4 kX9_walkAll 57 [(0, .ref 173), (1, .int x1), (2, .int x2), (3, .ref 1), (4, .ref 123), (5, .ref 252), (6, .int z6), (7, .int z7)] [] (S M) r := by
        intro z6 z7 M h
        unfold fY_walkAll_j57 at h
        refine sb_in [(57, .iinc 7 1, 3), (60, .goto (-54), 3)] 63 (by decide +kernel) ?_
        refine ss_iinc cI1 rfl (by decide) rfl ?_
        refine sb_goto 6 (by decide) ?_
        cases h
        exact rn_sub [0, 1, 2, 3, 4, 5, 6, 7] rfl hc
      rcases ife h with ⟨cz15, h⟩ | ⟨cz15, h⟩
      · refine sb_icmp_eq_t 57 cz15 (by decide) ?_
        exact rn_sub [0, 1, 2, 3, 4, 5, 6, 7] rfl (hJ57 _ _ _ h)
      · refine sb_icmp_eq_f 57 cz15 (by decide) ?_
        refine sb_in [(24, .aload_n 3, 1), (25, .getfield 33, 3), (28, .iload 7, 2), (30, .invokevirtual 37, 3), (33, .ifCond .le 24, 3)] 36 (by decide +kernel) ?_
        refine sb_aload_n rfl ?_
        refine ss_getR g9_33 h1 r1_1 ?_
        refine sb_iload rfl ?_
        obtain ⟨qz2, hez1, h⟩ := bd h
        refine sb_callVi 1 rfl oX0_countFor ln9_37 vX0_countFor (rc_own h8.1 (S_lt h8.2) (by decide)) (rnCk_of (by decide +kernel) rfl) (tfB_countFor lBg8 hez1) ?_
        rcases ife h with ⟨cz16, h⟩ | ⟨cz16, h⟩
        · refine sb_if_le_t 57 cz16 (by decide) ?_
          exact rn_sub [0, 1, 2, 3, 4, 5, 6, 7] rfl (hJ57 _ _ _ h)
        · refine sb_if_le_f 57 cz16 (by decide) ?_
          refine sb_in [(36, .iload 6, 2), (38, .bipush 8, 2), (40, .if_icmp .lt 5, 3)] 43 (by decide +kernel) ?_
          refine sb_iload rfl ?_
          refine sb_bipush cB8 ?_
          rcases ife h with ⟨cz17, h⟩ | ⟨cz17, h⟩
          · refine sb_icmp_lt_t 45 cz17 (by decide) ?_
            refine sb_in [(45, .aload_n 0, 1), (46, .getfield 15, 3), (49, .iload 6, 2), (51, .iload 7, 2), (53, .iastore, 1), (54, .iinc 6 1, 3)] 57 (by decide +kernel) ?_
            refine sb_aload_n rfl ?_
            refine ss_getR g9_15 h173 r173_1 ?_
            refine sb_iload rfl ?_
            refine sb_iload rfl ?_
            obtain ⟨hgz4, h⟩ := gd h
            refine ss_iast h175 (by decide) hgz4 ?_
            refine ss_iinc cI1 rfl (by decide) rfl ?_
            refine sb_end ?_
            exact rn_sub [0, 1, 2, 3, 4, 5, 6, 7] rfl (hJ57 _ _ _ h)
          · refine sb_icmp_lt_f 45 cz17 (by decide) ?_
            cases h
            exact rn_sub [] rfl hc
  · clear hl6
    rcases e6 with e6 | e6
    · skip
      obtain ⟨Mz5, hey⟩ : ∃ z, z = e6 := ⟨_, rfl⟩
      subst hey
      show RN P 4 kX9_walkAll 43 [] [] (S Mz5) r
      refine sb_in [(43, .iconst (-1), 1), (44, .ireturn, 1)] 45 (by decide +kernel) ?_
      refine sb_iconst cIm1 ?_
      cases h
      subst hr
      refine sb_ireturn ?_
      exact ⟨.int, rfl, rfl⟩
    · skip
      obtain ⟨yz6, Mz7⟩ := e6
      show RN P 4 kX9_walkAll 63 [(0, .ref 173), (1, .int x1), (2, .int x2), (3, .ref 1), (4, .ref 123), (5, .ref 252), (6, .int yz6)] [] (S Mz7) r
      refine sb_in [(63, .iload 6, 2), (65, .ifCond .ne 13, 3)] 68 (by decide +kernel) ?_
      refine sb_iload rfl ?_
      rcases ife h with ⟨cz18, h⟩ | ⟨cz18, h⟩
      · refine sb_if_ne_f 78 cz18 (by decide) ?_
        refine sb_in [(68, .iload_n 2, 1), (69, .ifCond .eq 7, 3)] 72 (by decide +kernel) ?_
        refine sb_iload_n rfl ?_
        rcases ife h with ⟨cz19, h⟩ | ⟨cz19, h⟩
        · refine sb_if_eq_t 76 cz19 (by decide) ?_
          refine sb_in [(76, .iconst 0, 1)] 77 (by decide +kernel) ?_
          refine sb_iconst cI0 ?_
          refine sb_end ?_
          refine sb_in [(77, .ireturn, 1)] 78 (by decide +kernel) ?_
          cases h
          subst hr
          refine sb_ireturn ?_
          exact ⟨.int, rfl, rfl⟩
        · refine sb_if_eq_f 76 cz19 (by decide) ?_
          refine sb_in [(72, .iload_n 1, 1), (73, .goto 4, 3)] 76 (by decide +kernel) ?_
          refine sb_iload_n rfl ?_
          refine sb_goto 77 (by decide) ?_
          refine sb_in [(77, .ireturn, 1)] 78 (by decide +kernel) ?_
          cases h
          subst hr
          refine sb_ireturn ?_
          exact ⟨.int, rfl, rfl⟩
      · refine sb_if_ne_t 78 cz18 (by decide) ?_
        refine sb_in [(78, .aload_n 0, 1), (79, .aload_n 3, 1), (80, .getfield 21, 3), (83, .getfield 27, 3), (86, .aload 4, 2), (88, .invokevirtual 43, 3), (91, .aload_n 0, 1), (92, .iload_n 1, 1), (93, .iload 6, 2), (95, .aload 5, 2), (97, .invokevirtual 47, 3), (100, .aload_n 0, 1), (101, .iload 6, 2), (103, .iload_n 2, 1), (104, .aload 5, 2), (106, .invokevirtual 51, 3), (109, .ireturn, 1)] 110 (by decide +kernel) ?_
        refine sb_aload_n rfl ?_
        refine sb_aload_n rfl ?_
        refine ss_getR g9_21 h1 r1_0 ?_
        refine ss_getI g9_27 h2 ?_
        refine sb_aload rfl ?_
        obtain ⟨Mz9, hez8, h⟩ := bd h
        refine sb_callVv 2 rfl oX9_measure ln9_43 vX9_measure (rc_own h173.1 (S_lt h173.2) (by decide)) (rnCk_of (by decide +kernel) rfl) (tfY_measure hez8) ?_
        refine sb_aload_n rfl ?_
        refine sb_iload_n rfl ?_
        refine sb_iload rfl ?_
        refine sb_aload rfl ?_
        obtain ⟨Mz11, hez10, h⟩ := bd h
        refine sb_callVv 3 rfl oX9_walkSets ln9_47 vX9_walkSets (rc_own h173.1 (S_lt h173.2) (by decide)) (rnCk_of (by decide +kernel) rfl) (tfY_walkSets hez10) ?_
        refine sb_aload_n rfl ?_
        refine sb_iload rfl ?_
        refine sb_iload_n rfl ?_
        refine sb_aload rfl ?_
        obtain ⟨qz13, hez12, h⟩ := bd h
        refine sb_callVi 3 rfl oX9_shortestEnd ln9_51 vX9_shortestEnd (rc_own h173.1 (S_lt h173.2) (by decide)) (rnCk_of (by decide +kernel) rfl) (tfY_shortestEnd hez12) ?_
        cases h
        subst hr
        refine sb_ireturn ?_
        exact ⟨.int, rfl, rfl⟩
theorem tfY_walkAll {P : Px} {x1 : Int32} {x2 : Int32} {M : Mm} {rr : (Int32 × Mm)} (h : fY_walkAll x1 x2 M = some rr) : EX P 4 kX9_walkAll [.ref 173, .int x1, .int x2, .ref 1, .ref 123, .ref 252] (S M) (some (.int rr.1), S rr.2) := ex_of oX9_walkAll (Nat.le_of_ble_eq_true rfl) (nfY_walkAll  h rfl)
set_option maxRecDepth 20000 in
theorem nfK_shortest {P : Px} {x1 : Int32} {x2 : Int32} {M : Mm} {rr : (Int32 × Mm)} (h : fK_shortest x1 x2 M = some rr) {r : Option Value × Sg} (hr : r = (some (.int rr.1), S rr.2)) : RN P 5 kX11_shortest 0 [(0, .ref 0), (1, .int x1), (2, .int x2)] [] (S M) r := by
  unfold fK_shortest at h
  refine sb_in [(0, .aload_n 0, 1), (1, .iload_n 1, 1), (2, .invokevirtual 115, 3), (5, .ifCond .eq 12, 3)] 8 (by decide +kernel) ?_
  refine sb_aload_n rfl ?_
  refine sb_iload_n rfl ?_
  obtain ⟨qz2, hez1, h⟩ := bd h
  refine sb_callVi 1 rfl oX11_isDoor ln11_115 vX11_isDoor (rc_own h0.1 (S_lt h0.2) (by decide)) (rnCk_of (by decide +kernel) rfl) (tfK_isDoor hez1) ?_
  rcases ife h with ⟨cz7, h⟩ | ⟨cz7, h⟩
  · refine sb_if_eq_t 17 cz7 (by decide) ?_
    refine sb_in [(17, .iconst (-1), 1), (18, .ireturn, 1)] 19 (by decide +kernel) ?_
    refine sb_iconst cIm1 ?_
    cases h
    subst hr
    refine sb_ireturn ?_
    exact ⟨.int, rfl, rfl⟩
  · refine sb_if_eq_f 17 cz7 (by decide) ?_
    refine sb_in [(8, .iload_n 2, 1), (9, .iconst 0, 1), (10, .iconst 1, 1), (11, .invokestatic 91, 3), (14, .ifCond .ne 5, 3)] 17 (by decide +kernel) ?_
    refine sb_iload_n rfl ?_
    refine sb_iconst cI0 ?_
    refine sb_iconst cI1 ?_
    refine sb_callSi 3 rfl oX11_isWithin ln11_91 vX11_isWithin (rnCk_of (by decide +kernel) rfl) (tfK_isWithin) ?_
    rcases ife h with ⟨cz8, h⟩ | ⟨cz8, h⟩
    · refine sb_if_ne_f 19 cz8 (by decide) ?_
      refine sb_in [(17, .iconst (-1), 1), (18, .ireturn, 1)] 19 (by decide +kernel) ?_
      refine sb_iconst cIm1 ?_
      cases h
      subst hr
      refine sb_ireturn ?_
      exact ⟨.int, rfl, rfl⟩
    · refine sb_if_ne_t 19 cz8 (by decide) ?_
      refine sb_in [(19, .aload_n 0, 1), (20, .getfield 59, 3), (23, .iload_n 1, 1), (24, .iload_n 2, 1), (25, .iconst 1, 1), (26, .if_icmp .ne 7, 3)] 29 (by decide +kernel) ?_
      refine sb_aload_n rfl ?_
      refine ss_getR g11_59 h0 r0_7 ?_
      refine sb_iload_n rfl ?_
      refine sb_iload_n rfl ?_
      refine sb_iconst cI1 ?_
      have hJ34 : RN P 5 kX11_shortest 34 [(0, .ref 0)] [.int (if x2 = 1 then (1 : Int32) else 0), .int x1, .ref 173] (S M) r := by
        refine sb_in [(34, .aload_n 0, 1), (35, .getfield 16, 3), (38, .aload_n 0, 1), (39, .getfield 33, 3), (42, .aload_n 0, 1), (43, .invokevirtual 250, 3), (46, .invokevirtual 254, 3), (49, .ireturn, 1)] 50 (by decide +kernel) ?_
        refine sb_aload_n rfl ?_
        refine ss_getR g11_16 h0 r0_0 ?_
        refine sb_aload_n rfl ?_
        refine ss_getR g11_33 h0 r0_3 ?_
        refine sb_aload_n rfl ?_
        refine sb_callVr 0 rfl oX11_theDesk ln11_250 vX11_theDesk (rc_own h0.1 (S_lt h0.2) (by decide)) (rnCk_of (by decide +kernel) rfl) tfK_theDesk ?_
        obtain ⟨qz6, hez5, h⟩ := bd h
        refine sb_callVi 5 rfl oX9_walkAll ln11_254 vX9_walkAll (rc_own h173.1 (S_lt h173.2) (by decide)) (rnCk_of (by decide +kernel) rfl) (tfY_walkAll hez5) ?_
        cases h
        subst hr
        refine sb_ireturn ?_
        exact ⟨.int, rfl, rfl⟩
      rcases Decidable.em (x2 = 1) with cz9 | cz9
      · refine sb_icmp_ne_f 33 cz9 (by decide) ?_
        refine sb_in [(29, .iconst 1, 1), (30, .goto 4, 3)] 33 (by decide +kernel) ?_
        refine sb_iconst cI1 ?_
        refine sb_goto 34 (by decide) ?_
        have hq := hJ34
        simp only [if_pos cz9] at hq
        exact rn_sub [0] rfl hq
      · refine sb_icmp_ne_t 33 cz9 (by decide) ?_
        refine sb_in [(33, .iconst 0, 1)] 34 (by decide +kernel) ?_
        refine sb_iconst cI0 ?_
        refine sb_end ?_
        have hq := hJ34
        simp only [if_neg cz9] at hq
        exact rn_sub [0] rfl hq
theorem tfK_shortest {P : Px} {x1 : Int32} {x2 : Int32} {M : Mm} {rr : (Int32 × Mm)} (h : fK_shortest x1 x2 M = some rr) : EX P 5 kX11_shortest [.ref 0, .int x1, .int x2] (S M) (some (.int rr.1), S rr.2) := ex_of oX11_shortest (Nat.le_of_ble_eq_true rfl) (nfK_shortest  h rfl)
set_option maxRecDepth 20000 in
theorem nfE_addBlow {P : Px} {x1 : Int32} {M : Mm} {rr : (Int32 × Mm)} (h : fE_addBlow x1 M = some rr) {r : Option Value × Sg} (hr : r = (some (.int rr.1), S rr.2)) : RN P 2 kX8_addBlow 0 [(0, .ref 138), (1, .int x1)] [] (S M) r := by
  unfold fE_addBlow at h
  refine sb_in [(0, .iload_n 1, 1), (1, .ifCond .ne 10, 3)] 4 (by decide +kernel) ?_
  refine sb_iload_n rfl ?_
  rcases ife h with ⟨cz6, h⟩ | ⟨cz6, h⟩
  · refine sb_if_ne_f 11 cz6 (by decide) ?_
    refine sb_in [(4, .aload_n 0, 1), (5, .iconst 0, 1), (6, .putfield 33, 3), (9, .iconst 0, 1), (10, .ireturn, 1)] 11 (by decide +kernel) ?_
    refine sb_aload_n rfl ?_
    refine sb_iconst cI0 ?_
    refine ss_putI p8_33 h138 (by decide) ?_
    refine sb_iconst cI0 ?_
    cases h
    subst hr
    refine sb_ireturn ?_
    exact ⟨.int, rfl, rfl⟩
  · refine sb_if_ne_t 11 cz6 (by decide) ?_
    refine sb_in [(11, .iload_n 1, 1), (12, .bipush (-50), 2), (14, .bipush 50, 2), (16, .invokestatic 37, 3), (19, .ifCond .eq 12, 3)] 22 (by decide +kernel) ?_
    refine sb_iload_n rfl ?_
    refine sb_bipush cBm50 ?_
    refine sb_bipush cB50 ?_
    refine sb_callSNi 3 rfl oX11_isWithin ln8_37 vX11_isWithin (rnCk_of (by decide +kernel) rfl) (tfK_isWithin) ?_
    rcases ife h with ⟨cz7, h⟩ | ⟨cz7, h⟩
    · refine sb_if_eq_t 31 cz7 (by decide) ?_
      refine sb_in [(31, .iconst (-1), 1), (32, .ireturn, 1)] 33 (by decide +kernel) ?_
      refine sb_iconst cIm1 ?_
      cases h
      subst hr
      refine sb_ireturn ?_
      exact ⟨.int, rfl, rfl⟩
    · refine sb_if_eq_f 31 cz7 (by decide) ?_
      refine sb_in [(22, .aload_n 0, 1), (23, .getfield 33, 3), (26, .bipush 8, 2), (28, .if_icmp .lt 5, 3)] 31 (by decide +kernel) ?_
      refine sb_aload_n rfl ?_
      refine ss_getI g8_33 h138 ?_
      refine sb_bipush cB8 ?_
      rcases ife h with ⟨cz8, h⟩ | ⟨cz8, h⟩
      · refine sb_icmp_lt_t 33 cz8 (by decide) ?_
        refine sb_in [(33, .aload_n 0, 1), (34, .getfield 11, 3), (37, .aload_n 0, 1), (38, .getfield 33, 3), (41, .iload_n 1, 1), (42, .iastore, 1), (43, .aload_n 0, 1), (44, .dup, 1), (45, .getfield 33, 3), (48, .iconst 1, 1), (49, .iadd, 1), (50, .putfield 33, 3), (53, .aload_n 0, 1), (54, .getfield 33, 3), (57, .ireturn, 1)] 58 (by decide +kernel) ?_
        refine sb_aload_n rfl ?_
        refine ss_getR g8_11 h138 r138_1 ?_
        refine sb_aload_n rfl ?_
        refine ss_getI g8_33 h138 ?_
        refine sb_iload_n rfl ?_
        obtain ⟨hgz3, h⟩ := gd h
        refine ss_iast h139 (by decide) hgz3 ?_
        refine sb_aload_n rfl ?_
        refine sb_dup rfl ?_
        refine ss_getI g8_33 h138 ?_
        refine sb_iconst cI1 ?_
        refine sb_iadd ?_
        refine ss_putI p8_33 h138 (by decide) ?_
        refine sb_aload_n rfl ?_
        refine ss_getI g8_33 h138 ?_
        cases h
        subst hr
        refine sb_ireturn ?_
        exact ⟨.int, rfl, rfl⟩
      · refine sb_icmp_lt_f 33 cz8 (by decide) ?_
        refine sb_in [(31, .iconst (-1), 1), (32, .ireturn, 1)] 33 (by decide +kernel) ?_
        refine sb_iconst cIm1 ?_
        cases h
        subst hr
        refine sb_ireturn ?_
        exact ⟨.int, rfl, rfl⟩
theorem tfE_addBlow {P : Px} {x1 : Int32} {M : Mm} {rr : (Int32 × Mm)} (h : fE_addBlow x1 M = some rr) : EX P 2 kX8_addBlow [.ref 138, .int x1] (S M) (some (.int rr.1), S rr.2) := ex_of oX8_addBlow (Nat.le_of_ble_eq_true rfl) (nfE_addBlow  h rfl)
set_option maxRecDepth 20000 in
theorem nfK_blow {P : Px} {x1 : Int32} {M : Mm} {rr : (Int32 × Mm)} (h : fK_blow x1 M = some rr) {r : Option Value × Sg} (hr : r = (some (.int rr.1), S rr.2)) : RN P 3 kX11_blow 0 [(0, .ref 0), (1, .int x1)] [] (S M) r := by
  unfold fK_blow at h
  refine sb_in [(0, .aload_n 0, 1), (1, .getfield 40, 3), (4, .iload_n 1, 1), (5, .invokevirtual 258, 3), (8, .ireturn, 1)] 9 (by decide +kernel) ?_
  refine sb_aload_n rfl ?_
  refine ss_getR g11_40 h0 r0_4 ?_
  refine sb_iload_n rfl ?_
  obtain ⟨qz2, hez1, h⟩ := bd h
  refine sb_callVi 1 rfl oX8_addBlow ln11_258 vX8_addBlow (rc_own h138.1 (S_lt h138.2) (by decide)) (rnCk_of (by decide +kernel) rfl) (tfE_addBlow hez1) ?_
  cases h
  subst hr
  refine sb_ireturn ?_
  exact ⟨.int, rfl, rfl⟩
theorem tfK_blow {P : Px} {x1 : Int32} {M : Mm} {rr : (Int32 × Mm)} (h : fK_blow x1 M = some rr) : EX P 3 kX11_blow [.ref 0, .int x1] (S M) (some (.int rr.1), S rr.2) := ex_of oX11_blow (Nat.le_of_ble_eq_true rfl) (nfK_blow  h rfl)
set_option maxRecDepth 20000 in
theorem nfI_leftBehindAll {P : Px} {x2 : Int32} {x3 : Int32} {M : Mm} {rr : (Int32 × Mm)} (h : fI_leftBehindAll x2 x3 M = some rr) {r : Option Value × Sg} (hr : r = (some (.int rr.1), S rr.2)) : RN P 2 kX3_leftBehindAll 0 [(0, .ref 168), (1, .ref 138), (2, .int x2), (3, .int x3)] [] (S M) r := by
  unfold fI_leftBehindAll at h
  refine sb_in [(0, .iconst 1, 1), (1, .aload_n 1, 1), (2, .getfield 27, 3), (5, .ishl, 1), (6, .iconst 1, 1), (7, .isub, 1), (8, .istore 4, 2), (10, .aload_n 0, 1), (11, .getfield 11, 3), (14, .iconst 0, 1), (15, .invokestatic 44, 3), (18, .aload_n 0, 1), (19, .getfield 11, 3), (22, .iload_n 2, 1), (23, .iload_n 3, 1), (24, .iastore, 1), (25, .iload_n 2, 1), (26, .istore 5, 2)] 28 (by decide +kernel) ?_
  refine sb_iconst cI1 ?_
  refine sb_aload_n rfl ?_
  refine ss_getI g3_27 h138 ?_
  refine sb_ishl ?_
  refine sb_iconst cI1 ?_
  refine sb_isub ?_
  refine sb_istore (by decide) rfl ?_
  refine sb_aload_n rfl ?_
  refine ss_getR g3_11 h168 r168_0 ?_
  refine sb_iconst cI0 ?_
  obtain ⟨Mz3, hez2, h⟩ := bd h
  refine sb_callSv 2 rfl oJ7_fill_53178 ln3_44 vJ7_fill_53178 (rnCk_of (by decide +kernel) rfl) (tfJ_fill_53178 h169 (by decide) hez2) ?_
  refine sb_aload_n rfl ?_
  refine ss_getR g3_11 h168 r168_0 ?_
  refine sb_iload_n rfl ?_
  refine sb_iload_n rfl ?_
  obtain ⟨hgz5, h⟩ := gd h
  refine ss_iast h169 (by decide) hgz5 ?_
  refine sb_iload_n rfl ?_
  refine sb_istore (by decide) rfl ?_
  refine sb_end ?_
  obtain ⟨e28, hl28, h⟩ := bd h
  refine rn_sub [0, 1, 4, 5] rfl ?_
  refine lp_ind (P := fun s => RN P 2 kX3_leftBehindAll 28 [(0, .ref 168), (1, .ref 138), (4, .int ((((1 : Int32) <<< ((M 138 0) &&& 31)) - 1))), (5, .int s.1)] [] (S s.2) r) (E := fun p => RN P 2 kX3_leftBehindAll 128 [(0, .ref 168), (4, .int ((((1 : Int32) <<< ((M 138 0) &&& 31)) - 1)))] [] (S p) r) ?_ _ _ _ hl28 ?_
  · intro s qx h hc
    replace h : fI_leftBehindAll_b28 ((((1 : Int32) <<< ((M 138 0) &&& 31)) - 1)) s.1 s.2 = some qx := h
    show RN P 2 kX3_leftBehindAll 28 [(0, .ref 168), (1, .ref 138), (4, .int ((((1 : Int32) <<< ((M 138 0) &&& 31)) - 1))), (5, .int s.1)] [] (S s.2) r
    generalize ((((1 : Int32) <<< ((M 138 0) &&& 31)) - 1)) = x4 at h hc ⊢
    obtain ⟨x5, M⟩ := s
    replace h : fI_leftBehindAll_b28 x4 x5 M = some qx := h
    show RN P 2 kX3_leftBehindAll 28 [(0, .ref 168), (1, .ref 138), (4, .int x4), (5, .int x5)] [] (S M) r
    unfold fI_leftBehindAll_b28 at h
    refine sb_in [(28, .iload 5, 2), (30, .iload 4, 2), (32, .if_icmp .ge 96, 3)] 35 (by decide +kernel) ?_
    refine sb_iload rfl ?_
    refine sb_iload rfl ?_
    rcases ife h with ⟨cz18, h⟩ | ⟨cz18, h⟩
    · refine sb_icmp_ge_t 128 cz18 (by decide) ?_
      cases h
      exact rn_sub [0, 4] rfl hc
    · refine sb_icmp_ge_f 128 cz18 (by decide) ?_
      refine sb_in [(35, .iconst 0, 1), (36, .istore 6, 2)] 38 (by decide +kernel) ?_
      refine sb_iconst cI0 ?_
      refine sb_istore (by decide) rfl ?_
      refine sb_end ?_
      obtain ⟨e38, hl38, h⟩ := bd h
      refine rn_sub [0, 1, 4, 5, 6] rfl ?_
      refine lp_ind (P := fun s => RN P 2 kX3_leftBehindAll 38 [(0, .ref 168), (1, .ref 138), (4, .int x4), (5, .int x5), (6, .int s.1)] [] (S s.2) r) (E := fun p => RN P 2 kX3_leftBehindAll 122 [(0, .ref 168), (1, .ref 138), (4, .int x4), (5, .int x5)] [] (S p) r) ?_ _ _ _ hl38 ?_
      · intro s qx h hc
        obtain ⟨x6, M⟩ := s
        replace h : fI_leftBehindAll_b38 x4 x5 x6 M = some qx := h
        show RN P 2 kX3_leftBehindAll 38 [(0, .ref 168), (1, .ref 138), (4, .int x4), (5, .int x5), (6, .int x6)] [] (S M) r
        unfold fI_leftBehindAll_b38 at h
        refine sb_in [(38, .iload 6, 2), (40, .aload_n 1, 1), (41, .getfield 27, 3), (44, .if_icmp .ge 78, 3)] 47 (by decide +kernel) ?_
        refine sb_iload rfl ?_
        refine sb_aload_n rfl ?_
        refine ss_getI g3_27 h138 ?_
        rcases ife h with ⟨cz19, h⟩ | ⟨cz19, h⟩
        · refine sb_icmp_ge_t 122 cz19 (by decide) ?_
          cases h
          exact rn_sub [0, 1, 4, 5] rfl hc
        · refine sb_icmp_ge_f 122 cz19 (by decide) ?_
          refine sb_in [(47, .aload_n 0, 1), (48, .getfield 11, 3), (51, .iload 5, 2), (53, .iaload, 1), (54, .ifCond .le 68, 3)] 57 (by decide +kernel) ?_
          refine sb_aload_n rfl ?_
          refine ss_getR g3_11 h168 r168_0 ?_
          refine sb_iload rfl ?_
          obtain ⟨hgz6, h⟩ := gd h
          refine ss_iald h169 hgz6 ?_
          rcases ife h with ⟨cz20, h⟩ | ⟨cz20, h⟩
          · refine sb_if_le_t 122 cz20 (by decide) ?_
            cases h
            exact rn_sub [0, 1, 4, 5] rfl hc
          · refine sb_if_le_f 122 cz20 (by decide) ?_
            refine sb_in [(57, .iload 5, 2), (59, .iconst 1, 1), (60, .iload 6, 2), (62, .ishl, 1), (63, .ior, 1), (64, .istore 7, 2), (66, .bipush 99, 2), (68, .aload_n 0, 1), (69, .getfield 11, 3), (72, .iload 5, 2), (74, .iaload, 1), (75, .aload_n 1, 1), (76, .getfield 31, 3), (79, .iload 6, 2), (81, .iaload, 1), (82, .iadd, 1), (83, .invokestatic 34, 3), (86, .istore 8, 2), (88, .iload 7, 2), (90, .iload 5, 2), (92, .if_icmp .eq 24, 3)] 95 (by decide +kernel) ?_
            refine sb_iload rfl ?_
            refine sb_iconst cI1 ?_
            refine sb_iload rfl ?_
            refine sb_ishl ?_
            refine sb_ior ?_
            refine sb_istore (by decide) rfl ?_
            refine sb_bipush cB99 ?_
            refine sb_aload_n rfl ?_
            refine ss_getR g3_11 h168 r168_0 ?_
            refine sb_iload rfl ?_
            obtain ⟨hgz8, h⟩ := gd h
            refine ss_iald h169 hgz8 ?_
            refine sb_aload_n rfl ?_
            refine ss_getR g3_31 h138 r138_1 ?_
            refine sb_iload rfl ?_
            obtain ⟨hgz9, h⟩ := gd h
            refine ss_iald h139 hgz9 ?_
            refine sb_iadd ?_
            refine sb_min lm3_34 minS maI minC (by decide) rfl ?_
            refine sb_istore (by decide) rfl ?_
            refine sb_iload rfl ?_
            refine sb_iload rfl ?_
            obtain ⟨Mz14, hj116, h⟩ := bd h
            have hJ116 : RN P 2 kX3_leftBehindAll 116 [(0, .ref 168), (1, .ref 138), (4, .int x4), (5, .int x5), (6, .int x6)] [] (S Mz14) r := by
              refine sb_in [(116, .iinc 6 1, 3), (119, .goto (-81), 3)] 122 (by decide +kernel) ?_
              refine ss_iinc cI1 rfl (by decide) rfl ?_
              refine sb_goto 38 (by decide) ?_
              cases h
              exact rn_sub [0, 1, 4, 5, 6] rfl hc
            clear h
            have h := hj116
            clear hj116
            rcases ife h with ⟨cz21, h⟩ | ⟨cz21, h⟩
            · refine sb_icmp_eq_t 116 cz21 (by decide) ?_
              cases h
              exact rn_sub [0, 1, 4, 5, 6] rfl hJ116
            · refine sb_icmp_eq_f 116 cz21 (by decide) ?_
              refine sb_in [(95, .iload 8, 2), (97, .aload_n 0, 1), (98, .getfield 11, 3), (101, .iload 7, 2), (103, .iaload, 1), (104, .if_icmp .le 12, 3)] 107 (by decide +kernel) ?_
              refine sb_iload rfl ?_
              refine sb_aload_n rfl ?_
              refine ss_getR g3_11 h168 r168_0 ?_
              refine sb_iload rfl ?_
              obtain ⟨hgz11, h⟩ := gd h
              refine ss_iald h169 hgz11 ?_
              rcases ife h with ⟨cz22, h⟩ | ⟨cz22, h⟩
              · refine sb_icmp_le_t 116 cz22 (by decide) ?_
                cases h
                exact rn_sub [0, 1, 4, 5, 6] rfl hJ116
              · refine sb_icmp_le_f 116 cz22 (by decide) ?_
                refine sb_in [(107, .aload_n 0, 1), (108, .getfield 11, 3), (111, .iload 7, 2), (113, .iload 8, 2), (115, .iastore, 1)] 116 (by decide +kernel) ?_
                refine sb_aload_n rfl ?_
                refine ss_getR g3_11 h168 r168_0 ?_
                refine sb_iload rfl ?_
                refine sb_iload rfl ?_
                obtain ⟨hgz13, h⟩ := gd h
                refine ss_iast h169 (by decide) hgz13 ?_
                refine sb_end ?_
                cases h
                exact rn_sub [0, 1, 4, 5, 6] rfl hJ116
      · clear hl38
        obtain ⟨Mz15, hey⟩ : ∃ z, z = e38 := ⟨_, rfl⟩
        subst hey
        show RN P 2 kX3_leftBehindAll 122 [(0, .ref 168), (1, .ref 138), (4, .int x4), (5, .int x5)] [] (S Mz15) r
        refine sb_in [(122, .iinc 5 1, 3), (125, .goto (-97), 3)] 128 (by decide +kernel) ?_
        refine ss_iinc cI1 rfl (by decide) rfl ?_
        refine sb_goto 28 (by decide) ?_
        cases h
        exact rn_sub [0, 1, 4, 5] rfl hc
  · clear hl28
    obtain ⟨Mz16, hey⟩ : ∃ z, z = e28 := ⟨_, rfl⟩
    subst hey
    show RN P 2 kX3_leftBehindAll 128 [(0, .ref 168), (4, .int ((((1 : Int32) <<< ((M 138 0) &&& 31)) - 1)))] [] (S Mz16) r
    refine sb_in [(128, .aload_n 0, 1), (129, .getfield 11, 3), (132, .iload 4, 2), (134, .iaload, 1), (135, .ireturn, 1)] 136 (by decide +kernel) ?_
    refine sb_aload_n rfl ?_
    refine ss_getR g3_11 h168 r168_0 ?_
    refine sb_iload rfl ?_
    obtain ⟨hgz17, h⟩ := gd h
    refine ss_iald h169 hgz17 ?_
    cases h
    subst hr
    refine sb_ireturn ?_
    exact ⟨.int, rfl, rfl⟩
theorem tfI_leftBehindAll {P : Px} {x2 : Int32} {x3 : Int32} {M : Mm} {rr : (Int32 × Mm)} (h : fI_leftBehindAll x2 x3 M = some rr) : EX P 2 kX3_leftBehindAll [.ref 168, .ref 138, .int x2, .int x3] (S M) (some (.int rr.1), S rr.2) := ex_of oX3_leftBehindAll (Nat.le_of_ble_eq_true rfl) (nfI_leftBehindAll  h rfl)
set_option maxRecDepth 20000 in
theorem nfI_healthLeft {P : Px} {x2 : Int32} {M : Mm} {rr : (Int32 × Mm)} (h : fI_healthLeft x2 M = some rr) {r : Option Value × Sg} (hr : r = (some (.int rr.1), S rr.2)) : RN P 3 kX3_healthLeft 0 [(0, .ref 168), (1, .ref 138), (2, .int x2)] [] (S M) r := by
  unfold fI_healthLeft at h
  refine sb_in [(0, .aload_n 0, 1), (1, .aload_n 1, 1), (2, .iconst 0, 1), (3, .iload_n 2, 1), (4, .invokevirtual 40, 3), (7, .istore_n 3, 1), (8, .iload_n 3, 1), (9, .ifCond .le 7, 3)] 12 (by decide +kernel) ?_
  refine sb_aload_n rfl ?_
  refine sb_aload_n rfl ?_
  refine sb_iconst cI0 ?_
  refine sb_iload_n rfl ?_
  obtain ⟨qz2, hez1, h⟩ := bd h
  refine sb_callVi 3 rfl oX3_leftBehindAll ln3_40 vX3_leftBehindAll (rc_own h168.1 (S_lt h168.2) (by decide)) (rnCk_of (by decide +kernel) rfl) (tfI_leftBehindAll hez1) ?_
  refine sb_istore_n (by decide) rfl ?_
  refine sb_iload_n rfl ?_
  rcases ife h with ⟨cz3, h⟩ | ⟨cz3, h⟩
  · refine sb_if_le_t 16 cz3 (by decide) ?_
    refine sb_in [(16, .iconst (-1), 1)] 17 (by decide +kernel) ?_
    refine sb_iconst cIm1 ?_
    refine sb_end ?_
    refine sb_in [(17, .ireturn, 1)] 18 (by decide +kernel) ?_
    cases h
    subst hr
    refine sb_ireturn ?_
    exact ⟨.int, rfl, rfl⟩
  · refine sb_if_le_f 16 cz3 (by decide) ?_
    refine sb_in [(12, .iload_n 3, 1), (13, .goto 4, 3)] 16 (by decide +kernel) ?_
    refine sb_iload_n rfl ?_
    refine sb_goto 17 (by decide) ?_
    refine sb_in [(17, .ireturn, 1)] 18 (by decide +kernel) ?_
    cases h
    subst hr
    refine sb_ireturn ?_
    exact ⟨.int, rfl, rfl⟩
theorem tfI_healthLeft {P : Px} {x2 : Int32} {M : Mm} {rr : (Int32 × Mm)} (h : fI_healthLeft x2 M = some rr) : EX P 3 kX3_healthLeft [.ref 168, .ref 138, .int x2] (S M) (some (.int rr.1), S rr.2) := ex_of oX3_healthLeft (Nat.le_of_ble_eq_true rfl) (nfI_healthLeft  h rfl)
set_option maxRecDepth 20000 in
theorem nfI_firstBlow {P : Px} {x2 : Int32} {M : Mm} {rr : (Int32 × Mm)} (h : fI_firstBlow x2 M = some rr) {r : Option Value × Sg} (hr : r = (some (.int rr.1), S rr.2)) : RN P 3 kX3_firstBlow 0 [(0, .ref 168), (1, .ref 138), (2, .int x2)] [] (S M) r := by
  unfold fI_firstBlow at h
  refine sb_in [(0, .iconst 0, 1), (1, .istore_n 3, 1)] 2 (by decide +kernel) ?_
  refine sb_iconst cI0 ?_
  refine sb_istore_n (by decide) rfl ?_
  refine sb_end ?_
  obtain ⟨e2, hl2, h⟩ := bd h
  refine rn_sub [0, 1, 2, 3] rfl ?_
  refine lp_ind (P := fun s => RN P 3 kX3_firstBlow 2 [(0, .ref 168), (1, .ref 138), (2, .int x2), (3, .int s.1)] [] (S s.2) r) (E := fun e => match e with | Sum.inl p => RN P 3 kX3_firstBlow 44 [(3, .int p.1)] [] (S p.2) r | Sum.inr p => RN P 3 kX3_firstBlow 52 [] [] (S p) r) ?_ _ _ _ hl2 ?_
  · intro s qx h hc
    obtain ⟨x3, M⟩ := s
    replace h : fI_firstBlow_b2 x2 x3 M = some qx := h
    show RN P 3 kX3_firstBlow 2 [(0, .ref 168), (1, .ref 138), (2, .int x2), (3, .int x3)] [] (S M) r
    unfold fI_firstBlow_b2 at h
    refine sb_in [(2, .iload_n 3, 1), (3, .aload_n 1, 1), (4, .getfield 27, 3), (7, .if_icmp .ge 45, 3)] 10 (by decide +kernel) ?_
    refine sb_iload_n rfl ?_
    refine sb_aload_n rfl ?_
    refine ss_getI g3_27 h138 ?_
    rcases ife h with ⟨cz8, h⟩ | ⟨cz8, h⟩
    · refine sb_icmp_ge_t 52 cz8 (by decide) ?_
      cases h
      exact rn_sub [] rfl hc
    · refine sb_icmp_ge_f 52 cz8 (by decide) ?_
      refine sb_in [(10, .bipush 99, 2), (12, .iload_n 2, 1), (13, .aload_n 1, 1), (14, .getfield 31, 3), (17, .iload_n 3, 1), (18, .iaload, 1), (19, .iadd, 1), (20, .invokestatic 34, 3), (23, .istore 4, 2), (25, .iload 4, 2), (27, .iconst 1, 1), (28, .if_icmp .lt 18, 3)] 31 (by decide +kernel) ?_
      refine sb_bipush cB99 ?_
      refine sb_iload_n rfl ?_
      refine sb_aload_n rfl ?_
      refine ss_getR g3_31 h138 r138_1 ?_
      refine sb_iload_n rfl ?_
      obtain ⟨hgz1, h⟩ := gd h
      refine ss_iald h139 hgz1 ?_
      refine sb_iadd ?_
      refine sb_min lm3_34 minS maI minC (by decide) rfl ?_
      refine sb_istore (by decide) rfl ?_
      refine sb_iload rfl ?_
      refine sb_iconst cI1 ?_
      have hJ46 : ∀ (z3 : Int32) (M : Mm), fI_firstBlow_j46 x2 z3 M = some qx → RN P 3 kX3_firstBlow 46 [(0, .ref 168), (1, .ref 138), (2, .int x2), (3, .int z3)] [] (S M) r := by
        intro z3 M h
        unfold fI_firstBlow_j46 at h
        refine sb_in [(46, .iinc 3 1, 3), (49, .goto (-47), 3)] 52 (by decide +kernel) ?_
        refine ss_iinc cI1 rfl (by decide) rfl ?_
        refine sb_goto 2 (by decide) ?_
        cases h
        exact rn_sub [0, 1, 2, 3] rfl hc
      rcases ife h with ⟨cz9, h⟩ | ⟨cz9, h⟩
      · refine sb_icmp_lt_t 46 cz9 (by decide) ?_
        exact rn_sub [0, 1, 2, 3] rfl (hJ46 _ _ h)
      · refine sb_icmp_lt_f 46 cz9 (by decide) ?_
        refine sb_in [(31, .aload_n 0, 1), (32, .aload_n 1, 1), (33, .iconst 1, 1), (34, .iload_n 3, 1), (35, .ishl, 1), (36, .iload 4, 2), (38, .invokevirtual 40, 3), (41, .ifCond .le 5, 3)] 44 (by decide +kernel) ?_
        refine sb_aload_n rfl ?_
        refine sb_aload_n rfl ?_
        refine sb_iconst cI1 ?_
        refine sb_iload_n rfl ?_
        refine sb_ishl ?_
        refine sb_iload rfl ?_
        obtain ⟨qz4, hez3, h⟩ := bd h
        refine sb_callVi 3 rfl oX3_leftBehindAll ln3_40 vX3_leftBehindAll (rc_own h168.1 (S_lt h168.2) (by decide)) (rnCk_of (by decide +kernel) rfl) (tfI_leftBehindAll hez3) ?_
        rcases ife h with ⟨cz10, h⟩ | ⟨cz10, h⟩
        · refine sb_if_le_t 46 cz10 (by decide) ?_
          exact rn_sub [0, 1, 2, 3] rfl (hJ46 _ _ h)
        · refine sb_if_le_f 46 cz10 (by decide) ?_
          cases h
          exact rn_sub [3] rfl hc
  · clear hl2
    rcases e2 with e2 | e2
    · skip
      obtain ⟨yz5, Mz6⟩ := e2
      show RN P 3 kX3_firstBlow 44 [(3, .int yz5)] [] (S Mz6) r
      refine sb_in [(44, .iload_n 3, 1), (45, .ireturn, 1)] 46 (by decide +kernel) ?_
      refine sb_iload_n rfl ?_
      cases h
      subst hr
      refine sb_ireturn ?_
      exact ⟨.int, rfl, rfl⟩
    · skip
      obtain ⟨Mz7, hey⟩ : ∃ z, z = e2 := ⟨_, rfl⟩
      subst hey
      show RN P 3 kX3_firstBlow 52 [] [] (S Mz7) r
      refine sb_in [(52, .iconst (-1), 1), (53, .ireturn, 1)] 54 (by decide +kernel) ?_
      refine sb_iconst cIm1 ?_
      cases h
      subst hr
      refine sb_ireturn ?_
      exact ⟨.int, rfl, rfl⟩
theorem tfI_firstBlow {P : Px} {x2 : Int32} {M : Mm} {rr : (Int32 × Mm)} (h : fI_firstBlow x2 M = some rr) : EX P 3 kX3_firstBlow [.ref 168, .ref 138, .int x2] (S M) (some (.int rr.1), S rr.2) := ex_of oX3_firstBlow (Nat.le_of_ble_eq_true rfl) (nfI_firstBlow  h rfl)
set_option maxRecDepth 20000 in
theorem nfK_bears {P : Px} {x1 : Int32} {x2 : Int32} {M : Mm} {rr : (Int32 × Mm)} (h : fK_bears x1 x2 M = some rr) {r : Option Value × Sg} (hr : r = (some (.int rr.1), S rr.2)) : RN P 4 kX11_bears 0 [(0, .ref 0), (1, .int x1), (2, .int x2)] [] (S M) r := by
  unfold fK_bears at h
  refine sb_in [(0, .iload_n 1, 1), (1, .iconst 1, 1), (2, .bipush 99, 2), (4, .invokestatic 91, 3), (7, .ifCond .eq 12, 3)] 10 (by decide +kernel) ?_
  refine sb_iload_n rfl ?_
  refine sb_iconst cI1 ?_
  refine sb_bipush cB99 ?_
  refine sb_callSi 3 rfl oX11_isWithin ln11_91 vX11_isWithin (rnCk_of (by decide +kernel) rfl) (tfK_isWithin) ?_
  rcases ife h with ⟨cz7, h⟩ | ⟨cz7, h⟩
  · refine sb_if_eq_t 19 cz7 (by decide) ?_
    refine sb_in [(19, .iconst (-1), 1), (20, .ireturn, 1)] 21 (by decide +kernel) ?_
    refine sb_iconst cIm1 ?_
    cases h
    subst hr
    refine sb_ireturn ?_
    exact ⟨.int, rfl, rfl⟩
  · refine sb_if_eq_f 19 cz7 (by decide) ?_
    refine sb_in [(10, .iload_n 2, 1), (11, .iconst 0, 1), (12, .iconst 1, 1), (13, .invokestatic 91, 3), (16, .ifCond .ne 5, 3)] 19 (by decide +kernel) ?_
    refine sb_iload_n rfl ?_
    refine sb_iconst cI0 ?_
    refine sb_iconst cI1 ?_
    refine sb_callSi 3 rfl oX11_isWithin ln11_91 vX11_isWithin (rnCk_of (by decide +kernel) rfl) (tfK_isWithin) ?_
    rcases ife h with ⟨cz8, h⟩ | ⟨cz8, h⟩
    · refine sb_if_ne_f 21 cz8 (by decide) ?_
      refine sb_in [(19, .iconst (-1), 1), (20, .ireturn, 1)] 21 (by decide +kernel) ?_
      refine sb_iconst cIm1 ?_
      cases h
      subst hr
      refine sb_ireturn ?_
      exact ⟨.int, rfl, rfl⟩
    · refine sb_if_ne_t 21 cz8 (by decide) ?_
      refine sb_in [(21, .iload_n 2, 1), (22, .ifCond .ne 18, 3)] 25 (by decide +kernel) ?_
      refine sb_iload_n rfl ?_
      rcases ife h with ⟨cz9, h⟩ | ⟨cz9, h⟩
      · refine sb_if_ne_f 40 cz9 (by decide) ?_
        refine sb_in [(25, .aload_n 0, 1), (26, .getfield 54, 3), (29, .aload_n 0, 1), (30, .getfield 40, 3), (33, .iload_n 1, 1), (34, .invokevirtual 261, 3), (37, .goto 15, 3)] 40 (by decide +kernel) ?_
        refine sb_aload_n rfl ?_
        refine ss_getR g11_54 h0 r0_6 ?_
        refine sb_aload_n rfl ?_
        refine ss_getR g11_40 h0 r0_4 ?_
        refine sb_iload_n rfl ?_
        obtain ⟨qz6, hez5, h⟩ := bd h
        refine sb_callVi 2 rfl oX3_firstBlow ln11_261 vX3_firstBlow (rc_own h168.1 (S_lt h168.2) (by decide)) (rnCk_of (by decide +kernel) rfl) (tfI_firstBlow hez5) ?_
        refine sb_goto 52 (by decide) ?_
        refine sb_in [(52, .ireturn, 1)] 53 (by decide +kernel) ?_
        cases h
        subst hr
        refine sb_ireturn ?_
        exact ⟨.int, rfl, rfl⟩
      · refine sb_if_ne_t 40 cz9 (by decide) ?_
        refine sb_in [(40, .aload_n 0, 1), (41, .getfield 54, 3), (44, .aload_n 0, 1), (45, .getfield 40, 3), (48, .iload_n 1, 1), (49, .invokevirtual 265, 3)] 52 (by decide +kernel) ?_
        refine sb_aload_n rfl ?_
        refine ss_getR g11_54 h0 r0_6 ?_
        refine sb_aload_n rfl ?_
        refine ss_getR g11_40 h0 r0_4 ?_
        refine sb_iload_n rfl ?_
        obtain ⟨qz4, hez3, h⟩ := bd h
        refine sb_callVi 2 rfl oX3_healthLeft ln11_265 vX3_healthLeft (rc_own h168.1 (S_lt h168.2) (by decide)) (rnCk_of (by decide +kernel) rfl) (tfI_healthLeft hez3) ?_
        refine sb_end ?_
        refine sb_in [(52, .ireturn, 1)] 53 (by decide +kernel) ?_
        cases h
        subst hr
        refine sb_ireturn ?_
        exact ⟨.int, rfl, rfl⟩
theorem tfK_bears {P : Px} {x1 : Int32} {x2 : Int32} {M : Mm} {rr : (Int32 × Mm)} (h : fK_bears x1 x2 M = some rr) : EX P 4 kX11_bears [.ref 0, .int x1, .int x2] (S M) (some (.int rr.1), S rr.2) := ex_of oX11_bears (Nat.le_of_ble_eq_true rfl) (nfK_bears  h rfl)
set_option maxRecDepth 20000 in
theorem nfY_addLoad {P : Px} {x1 : Int32} {x2 : Int32} {x3 : Int32} {M : Mm} {rr : Mm} (h : fY_addLoad x1 x2 x3 M = some rr) {r : Option Value × Sg} (hr : r = (none, S rr)) : RN P 1 kX9_addLoad 0 [(0, .ref 173), (1, .int x1), (2, .int x2), (3, .int x3), (4, .ref 252)] [] (S M) r := by
  unfold fY_addLoad at h
  refine sb_in [(0, .iload_n 1, 1), (1, .istore 5, 2)] 3 (by decide +kernel) ?_
  refine sb_iload_n rfl ?_
  refine sb_istore (by decide) rfl ?_
  refine sb_end ?_
  obtain ⟨e3, hl3, h⟩ := bd h
  refine rn_sub [2, 3, 4, 5] rfl ?_
  refine lp_ind (P := fun s => RN P 1 kX9_addLoad 3 [(2, .int x2), (3, .int x3), (4, .ref 252), (5, .int s.1)] [] (S s.2) r) (E := fun p => RN P 1 kX9_addLoad 61 [] [] (S p) r) ?_ _ _ _ hl3 ?_
  · intro s qx h hc
    obtain ⟨x5, M⟩ := s
    replace h : fY_addLoad_b3 x2 x3 x5 M = some qx := h
    show RN P 1 kX9_addLoad 3 [(2, .int x2), (3, .int x3), (4, .ref 252), (5, .int x5)] [] (S M) r
    unfold fY_addLoad_b3 at h
    refine sb_in [(3, .iload 5, 2), (5, .iconst 1, 1), (6, .if_icmp .lt 55, 3)] 9 (by decide +kernel) ?_
    refine sb_iload rfl ?_
    refine sb_iconst cI1 ?_
    rcases ife h with ⟨cz7, h⟩ | ⟨cz7, h⟩
    · refine sb_icmp_lt_t 61 cz7 (by decide) ?_
      cases h
      exact rn_sub [] rfl hc
    · refine sb_icmp_lt_f 61 cz7 (by decide) ?_
      refine sb_in [(9, .iload_n 2, 1), (10, .istore 6, 2)] 12 (by decide +kernel) ?_
      refine sb_iload_n rfl ?_
      refine sb_istore (by decide) rfl ?_
      refine sb_end ?_
      obtain ⟨e12, hl12, h⟩ := bd h
      refine rn_sub [2, 3, 4, 5, 6] rfl ?_
      refine lp_ind (P := fun s => RN P 1 kX9_addLoad 12 [(2, .int x2), (3, .int x3), (4, .ref 252), (5, .int x5), (6, .int s.1)] [] (S s.2) r) (E := fun p => RN P 1 kX9_addLoad 55 [(2, .int x2), (3, .int x3), (4, .ref 252), (5, .int x5)] [] (S p) r) ?_ _ _ _ hl12 ?_
      · intro s qx h hc
        obtain ⟨x6, M⟩ := s
        replace h : fY_addLoad_b12 x2 x3 x5 x6 M = some qx := h
        show RN P 1 kX9_addLoad 12 [(2, .int x2), (3, .int x3), (4, .ref 252), (5, .int x5), (6, .int x6)] [] (S M) r
        unfold fY_addLoad_b12 at h
        refine sb_in [(12, .iload 6, 2), (14, .iload_n 3, 1), (15, .if_icmp .gt 40, 3)] 18 (by decide +kernel) ?_
        refine sb_iload rfl ?_
        refine sb_iload_n rfl ?_
        rcases ife h with ⟨cz8, h⟩ | ⟨cz8, h⟩
        · refine sb_icmp_gt_t 55 cz8 (by decide) ?_
          cases h
          exact rn_sub [2, 3, 4, 5] rfl hc
        · refine sb_icmp_gt_f 55 cz8 (by decide) ?_
          refine sb_in [(18, .aload 4, 2), (20, .iload 5, 2), (22, .sipush 401, 3), (25, .imul, 1), (26, .iload 6, 2), (28, .iadd, 1), (29, .dup2, 1), (30, .iaload, 1), (31, .aload 4, 2), (33, .iload 5, 2), (35, .iconst 1, 1), (36, .isub, 1), (37, .sipush 401, 3), (40, .imul, 1), (41, .iload 6, 2), (43, .iadd, 1), (44, .iload_n 2, 1), (45, .isub, 1), (46, .iaload, 1), (47, .iadd, 1), (48, .iastore, 1), (49, .iinc 6 1, 3), (52, .goto (-40), 3)] 55 (by decide +kernel) ?_
          refine sb_aload rfl ?_
          refine sb_iload rfl ?_
          refine sb_sipush cS401 ?_
          refine sb_imul ?_
          refine sb_iload rfl ?_
          refine sb_iadd ?_
          refine sb_dup2 rfl rfl ?_
          obtain ⟨hgz1, h⟩ := gd h
          refine ss_ialdD hgz1 ?_
          refine sb_aload rfl ?_
          refine sb_iload rfl ?_
          refine sb_iconst cI1 ?_
          refine sb_isub ?_
          refine sb_sipush cS401 ?_
          refine sb_imul ?_
          refine sb_iload rfl ?_
          refine sb_iadd ?_
          refine sb_iload_n rfl ?_
          refine sb_isub ?_
          obtain ⟨hgz2, h⟩ := gd h
          refine ss_ialdD hgz2 ?_
          refine sb_iadd ?_
          obtain ⟨hgz4, h⟩ := gd h
          refine ss_iastD hgz4 ?_
          refine ss_iinc cI1 rfl (by decide) rfl ?_
          refine sb_goto 12 (by decide) ?_
          cases h
          exact rn_sub [2, 3, 4, 5, 6] rfl hc
      · clear hl12
        obtain ⟨Mz5, hey⟩ : ∃ z, z = e12 := ⟨_, rfl⟩
        subst hey
        show RN P 1 kX9_addLoad 55 [(2, .int x2), (3, .int x3), (4, .ref 252), (5, .int x5)] [] (S Mz5) r
        refine sb_in [(55, .iinc 5 (-1), 3), (58, .goto (-55), 3)] 61 (by decide +kernel) ?_
        refine ss_iinc cIm1 rfl (by decide) rfl ?_
        refine sb_goto 3 (by decide) ?_
        cases h
        exact rn_sub [2, 3, 4, 5] rfl hc
  · clear hl3
    obtain ⟨Mz6, hey⟩ : ∃ z, z = e3 := ⟨_, rfl⟩
    subst hey
    show RN P 1 kX9_addLoad 61 [] [] (S Mz6) r
    refine sb_in [(61, .return_, 1)] 62 (by decide +kernel) ?_
    cases h
    subst hr
    refine sb_return ?_
    exact rfl
theorem tfY_addLoad {P : Px} {x1 : Int32} {x2 : Int32} {x3 : Int32} {M : Mm} {rr : Mm} (h : fY_addLoad x1 x2 x3 M = some rr) : EX P 1 kX9_addLoad [.ref 173, .int x1, .int x2, .int x3, .ref 252] (S M) (none, S rr) := ex_of oX9_addLoad (Nat.le_of_ble_eq_true rfl) (nfY_addLoad  h rfl)
set_option maxRecDepth 20000 in
theorem nfY_loads {P : Px} {x1 : Int32} {x2 : Int32} {M : Mm} {rr : (Int32 × Mm)} (h : fY_loads x1 x2 M = some rr) {r : Option Value × Sg} (hr : r = (some (.int rr.1), S rr.2)) : RN P 3 kX9_loads 0 [(0, .ref 173), (1, .int x1), (2, .int x2), (3, .ref 8), (4, .ref 252)] [] (S M) r := by
  unfold fY_loads at h
  refine sb_in [(0, .aload 4, 2), (2, .iconst 0, 1), (3, .aload_n 3, 1), (4, .getfield 80, 3), (7, .iconst 1, 1), (8, .iadd, 1), (9, .sipush 401, 3), (12, .imul, 1), (13, .iconst 0, 1), (14, .invokestatic 56, 3), (17, .aload 4, 2), (19, .iconst 0, 1), (20, .iconst 1, 1), (21, .iastore, 1), (22, .iconst 0, 1), (23, .istore 5, 2)] 25 (by decide +kernel) ?_
  refine sb_aload rfl ?_
  refine sb_iconst cI0 ?_
  refine sb_aload_n rfl ?_
  refine ss_getI g9_80 h8 ?_
  refine sb_iconst cI1 ?_
  refine sb_iadd ?_
  refine sb_sipush cS401 ?_
  refine sb_imul ?_
  refine sb_iconst cI0 ?_
  obtain ⟨Mz2, hez1, h⟩ := bd h
  refine sb_callSv 4 rfl oJ7_fill_fda19 ln9_56 vJ7_fill_fda19 (rnCk_of (by decide +kernel) rfl) (tfJ_fill_fda19 hez1) ?_
  refine sb_aload rfl ?_
  refine sb_iconst cI0 ?_
  refine sb_iconst cI1 ?_
  obtain ⟨hgz4, h⟩ := gd h
  refine ss_iastD hgz4 ?_
  refine sb_iconst cI0 ?_
  refine sb_istore (by decide) rfl ?_
  refine sb_end ?_
  obtain ⟨e25, hl25, h⟩ := bd h
  refine rn_sub [0, 1, 2, 3, 4, 5] rfl ?_
  refine lp_ind (P := fun s => RN P 3 kX9_loads 25 [(0, .ref 173), (1, .int x1), (2, .int x2), (3, .ref 8), (4, .ref 252), (5, .int s.1)] [] (S s.2) r) (E := fun p => RN P 3 kX9_loads 58 [(1, .int x1), (2, .int x2), (3, .ref 8), (4, .ref 252)] [] (S p) r) ?_ _ _ _ hl25 ?_
  · intro s qx h hc
    obtain ⟨x5, M⟩ := s
    replace h : fY_loads_b25 x1 x2 x5 M = some qx := h
    show RN P 3 kX9_loads 25 [(0, .ref 173), (1, .int x1), (2, .int x2), (3, .ref 8), (4, .ref 252), (5, .int x5)] [] (S M) r
    unfold fY_loads_b25 at h
    refine sb_in [(25, .iload 5, 2), (27, .aload_n 3, 1), (28, .getfield 80, 3), (31, .if_icmp .ge 27, 3)] 34 (by decide +kernel) ?_
    refine sb_iload rfl ?_
    refine sb_aload_n rfl ?_
    refine ss_getI g9_80 h8 ?_
    rcases ife h with ⟨cz15, h⟩ | ⟨cz15, h⟩
    · refine sb_icmp_ge_t 58 cz15 (by decide) ?_
      cases h
      exact rn_sub [1, 2, 3, 4] rfl hc
    · refine sb_icmp_ge_f 58 cz15 (by decide) ?_
      refine sb_in [(34, .aload_n 0, 1), (35, .iload 5, 2), (37, .iconst 1, 1), (38, .iadd, 1), (39, .aload_n 3, 1), (40, .getfield 83, 3), (43, .iload 5, 2), (45, .iaload, 1), (46, .iload_n 1, 1), (47, .aload 4, 2), (49, .invokevirtual 86, 3), (52, .iinc 5 1, 3), (55, .goto (-30), 3)] 58 (by decide +kernel) ?_
      refine sb_aload_n rfl ?_
      refine sb_iload rfl ?_
      refine sb_iconst cI1 ?_
      refine sb_iadd ?_
      refine sb_aload_n rfl ?_
      refine ss_getR g9_83 h8 r8_5 ?_
      refine sb_iload rfl ?_
      obtain ⟨hgz5, h⟩ := gd h
      refine ss_iald h12 hgz5 ?_
      refine sb_iload_n rfl ?_
      refine sb_aload rfl ?_
      obtain ⟨Mz7, hez6, h⟩ := bd h
      refine sb_callVv 4 rfl oX9_addLoad ln9_86 vX9_addLoad (rc_own h173.1 (S_lt h173.2) (by decide)) (rnCk_of (by decide +kernel) rfl) (tfY_addLoad hez6) ?_
      refine ss_iinc cI1 rfl (by decide) rfl ?_
      refine sb_goto 25 (by decide) ?_
      cases h
      exact rn_sub [0, 1, 2, 3, 4, 5] rfl hc
  · clear hl25
    obtain ⟨Mz8, hey⟩ : ∃ z, z = e25 := ⟨_, rfl⟩
    subst hey
    show RN P 3 kX9_loads 58 [(1, .int x1), (2, .int x2), (3, .ref 8), (4, .ref 252)] [] (S Mz8) r
    refine sb_in [(58, .aload_n 3, 1), (59, .getfield 80, 3), (62, .istore 5, 2)] 64 (by decide +kernel) ?_
    refine sb_aload_n rfl ?_
    refine ss_getI g9_80 h8 ?_
    refine sb_istore (by decide) rfl ?_
    refine sb_end ?_
    obtain ⟨e64, hl64, h⟩ := bd h
    refine rn_sub [1, 2, 4, 5] rfl ?_
    refine lp_ind (P := fun s => RN P 3 kX9_loads 64 [(1, .int x1), (2, .int x2), (4, .ref 252), (5, .int s)] [] (S Mz8) r) (E := fun e => match e with | Sum.inl p => RN P 3 kX9_loads 109 [(2, .int x2), (5, .int p.1), (6, .int p.2)] [] (S Mz8) r | Sum.inr p => RN P 3 kX9_loads 127 [(2, .int x2)] [] (S Mz8) r) ?_ _ _ _ hl64 ?_
    · intro x5 qx h hc
      replace h : fY_loads_b64 x1 x2 Mz8 x5 = some qx := h
      show RN P 3 kX9_loads 64 [(1, .int x1), (2, .int x2), (4, .ref 252), (5, .int x5)] [] (S Mz8) r
      generalize Mz8 = M at h hc ⊢
      unfold fY_loads_b64 at h
      refine sb_in [(64, .iload 5, 2), (66, .ifCond .le 61, 3)] 69 (by decide +kernel) ?_
      refine sb_iload rfl ?_
      rcases ife h with ⟨cz16, h⟩ | ⟨cz16, h⟩
      · refine sb_if_le_t 127 cz16 (by decide) ?_
        cases h
        exact rn_sub [2] rfl hc
      · refine sb_if_le_f 127 cz16 (by decide) ?_
        refine sb_in [(69, .iconst 0, 1), (70, .istore 6, 2), (72, .iconst 0, 1), (73, .istore 7, 2)] 75 (by decide +kernel) ?_
        refine sb_iconst cI0 ?_
        refine sb_istore (by decide) rfl ?_
        refine sb_iconst cI0 ?_
        refine sb_istore (by decide) rfl ?_
        refine sb_end ?_
        obtain ⟨e75, hl75, h⟩ := bd h
        refine rn_sub [1, 2, 4, 5, 6, 7] rfl ?_
        refine lp_ind (P := fun s => RN P 3 kX9_loads 75 [(1, .int x1), (2, .int x2), (4, .ref 252), (5, .int x5), (6, .int s.1), (7, .int s.2)] [] (S M) r) (E := fun p => RN P 3 kX9_loads 104 [(1, .int x1), (2, .int x2), (4, .ref 252), (5, .int x5), (6, .int p)] [] (S M) r) ?_ _ _ _ hl75 ?_
        · intro s qx h hc
          obtain ⟨x6, x7⟩ := s
          replace h : fY_loads_b75 x1 x2 x5 M x6 x7 = some qx := h
          show RN P 3 kX9_loads 75 [(1, .int x1), (2, .int x2), (4, .ref 252), (5, .int x5), (6, .int x6), (7, .int x7)] [] (S M) r
          unfold fY_loads_b75 at h
          refine sb_in [(75, .iload 7, 2), (77, .iload_n 1, 1), (78, .if_icmp .gt 26, 3)] 81 (by decide +kernel) ?_
          refine sb_iload rfl ?_
          refine sb_iload_n rfl ?_
          rcases ife h with ⟨cz17, h⟩ | ⟨cz17, h⟩
          · refine sb_icmp_gt_t 104 cz17 (by decide) ?_
            cases h
            exact rn_sub [1, 2, 4, 5, 6] rfl hc
          · refine sb_icmp_gt_f 104 cz17 (by decide) ?_
            refine sb_in [(81, .iload 6, 2), (83, .aload 4, 2), (85, .iload 5, 2), (87, .sipush 401, 3), (90, .imul, 1), (91, .iload 7, 2), (93, .iadd, 1), (94, .iaload, 1), (95, .iadd, 1), (96, .istore 6, 2), (98, .iinc 7 1, 3), (101, .goto (-26), 3)] 104 (by decide +kernel) ?_
            refine sb_iload rfl ?_
            refine sb_aload rfl ?_
            refine sb_iload rfl ?_
            refine sb_sipush cS401 ?_
            refine sb_imul ?_
            refine sb_iload rfl ?_
            refine sb_iadd ?_
            obtain ⟨hgz10, h⟩ := gd h
            refine ss_ialdD hgz10 ?_
            refine sb_iadd ?_
            refine sb_istore (by decide) rfl ?_
            refine ss_iinc cI1 rfl (by decide) rfl ?_
            refine sb_goto 75 (by decide) ?_
            cases h
            exact rn_sub [1, 2, 4, 5, 6, 7] rfl hc
        · clear hl75
          obtain ⟨yz12, hey⟩ : ∃ z, z = e75 := ⟨_, rfl⟩
          subst hey
          show RN P 3 kX9_loads 104 [(1, .int x1), (2, .int x2), (4, .ref 252), (5, .int x5), (6, .int yz12)] [] (S M) r
          refine sb_in [(104, .iload 6, 2), (106, .ifCond .le 15, 3)] 109 (by decide +kernel) ?_
          refine sb_iload rfl ?_
          rcases ife h with ⟨cz18, h⟩ | ⟨cz18, h⟩
          · refine sb_if_le_t 121 cz18 (by decide) ?_
            refine sb_in [(121, .iinc 5 (-1), 3), (124, .goto (-60), 3)] 127 (by decide +kernel) ?_
            refine ss_iinc cIm1 rfl (by decide) rfl ?_
            refine sb_goto 64 (by decide) ?_
            cases h
            exact rn_sub [1, 2, 4, 5] rfl hc
          · refine sb_if_le_f 121 cz18 (by decide) ?_
            cases h
            exact rn_sub [2, 5, 6] rfl hc
    · clear hl64
      rcases e64 with e64 | e64
      · skip
        obtain ⟨yz13, yz14⟩ := e64
        show RN P 3 kX9_loads 109 [(2, .int x2), (5, .int yz13), (6, .int yz14)] [] (S Mz8) r
        refine sb_in [(109, .iload_n 2, 1), (110, .ifCond .eq 8, 3)] 113 (by decide +kernel) ?_
        refine sb_iload_n rfl ?_
        rcases ife h with ⟨cz19, h⟩ | ⟨cz19, h⟩
        · refine sb_if_eq_t 118 cz19 (by decide) ?_
          refine sb_in [(118, .iload 5, 2)] 120 (by decide +kernel) ?_
          refine sb_iload rfl ?_
          refine sb_end ?_
          refine sb_in [(120, .ireturn, 1)] 121 (by decide +kernel) ?_
          cases h
          subst hr
          refine sb_ireturn ?_
          exact ⟨.int, rfl, rfl⟩
        · refine sb_if_eq_f 118 cz19 (by decide) ?_
          refine sb_in [(113, .iload 6, 2), (115, .goto 5, 3)] 118 (by decide +kernel) ?_
          refine sb_iload rfl ?_
          refine sb_goto 120 (by decide) ?_
          refine sb_in [(120, .ireturn, 1)] 121 (by decide +kernel) ?_
          cases h
          subst hr
          refine sb_ireturn ?_
          exact ⟨.int, rfl, rfl⟩
      · skip
        show RN P 3 kX9_loads 127 [(2, .int x2)] [] (S Mz8) r
        refine sb_in [(127, .iload_n 2, 1), (128, .ifCond .eq 7, 3)] 131 (by decide +kernel) ?_
        refine sb_iload_n rfl ?_
        rcases ife h with ⟨cz20, h⟩ | ⟨cz20, h⟩
        · refine sb_if_eq_t 135 cz20 (by decide) ?_
          refine sb_in [(135, .iconst 0, 1)] 136 (by decide +kernel) ?_
          refine sb_iconst cI0 ?_
          refine sb_end ?_
          refine sb_in [(136, .ireturn, 1)] 137 (by decide +kernel) ?_
          cases h
          subst hr
          refine sb_ireturn ?_
          exact ⟨.int, rfl, rfl⟩
        · refine sb_if_eq_f 135 cz20 (by decide) ?_
          refine sb_in [(131, .iconst 1, 1), (132, .goto 4, 3)] 135 (by decide +kernel) ?_
          refine sb_iconst cI1 ?_
          refine sb_goto 136 (by decide) ?_
          refine sb_in [(136, .ireturn, 1)] 137 (by decide +kernel) ?_
          cases h
          subst hr
          refine sb_ireturn ?_
          exact ⟨.int, rfl, rfl⟩
theorem tfY_loads {P : Px} {x1 : Int32} {x2 : Int32} {M : Mm} {rr : (Int32 × Mm)} (h : fY_loads x1 x2 M = some rr) : EX P 3 kX9_loads [.ref 173, .int x1, .int x2, .ref 8, .ref 252] (S M) (some (.int rr.1), S rr.2) := ex_of oX9_loads (Nat.le_of_ble_eq_true rfl) (nfY_loads  h rfl)
set_option maxRecDepth 20000 in
theorem nfK_carries {P : Px} {x1 : Int32} {x2 : Int32} {M : Mm} {rr : (Int32 × Mm)} (h : fK_carries x1 x2 M = some rr) {r : Option Value × Sg} (hr : r = (some (.int rr.1), S rr.2)) : RN P 4 kX11_carries 0 [(0, .ref 0), (1, .int x1), (2, .int x2)] [] (S M) r := by
  unfold fK_carries at h
  refine sb_in [(0, .iload_n 1, 1), (1, .iconst 1, 1), (2, .sipush 400, 3), (5, .invokestatic 91, 3), (8, .ifCond .eq 12, 3)] 11 (by decide +kernel) ?_
  refine sb_iload_n rfl ?_
  refine sb_iconst cI1 ?_
  refine sb_sipush cS400 ?_
  refine sb_callSi 3 rfl oX11_isWithin ln11_91 vX11_isWithin (rnCk_of (by decide +kernel) rfl) (tfK_isWithin) ?_
  rcases ife h with ⟨cz6, h⟩ | ⟨cz6, h⟩
  · refine sb_if_eq_t 20 cz6 (by decide) ?_
    refine sb_in [(20, .iconst (-1), 1), (21, .ireturn, 1)] 22 (by decide +kernel) ?_
    refine sb_iconst cIm1 ?_
    cases h
    subst hr
    refine sb_ireturn ?_
    exact ⟨.int, rfl, rfl⟩
  · refine sb_if_eq_f 20 cz6 (by decide) ?_
    refine sb_in [(11, .iload_n 2, 1), (12, .iconst 0, 1), (13, .iconst 1, 1), (14, .invokestatic 91, 3), (17, .ifCond .ne 5, 3)] 20 (by decide +kernel) ?_
    refine sb_iload_n rfl ?_
    refine sb_iconst cI0 ?_
    refine sb_iconst cI1 ?_
    refine sb_callSi 3 rfl oX11_isWithin ln11_91 vX11_isWithin (rnCk_of (by decide +kernel) rfl) (tfK_isWithin) ?_
    rcases ife h with ⟨cz7, h⟩ | ⟨cz7, h⟩
    · refine sb_if_ne_f 22 cz7 (by decide) ?_
      refine sb_in [(20, .iconst (-1), 1), (21, .ireturn, 1)] 22 (by decide +kernel) ?_
      refine sb_iconst cIm1 ?_
      cases h
      subst hr
      refine sb_ireturn ?_
      exact ⟨.int, rfl, rfl⟩
    · refine sb_if_ne_t 22 cz7 (by decide) ?_
      refine sb_in [(22, .aload_n 0, 1), (23, .getfield 59, 3), (26, .iload_n 1, 1), (27, .iload_n 2, 1), (28, .iconst 1, 1), (29, .if_icmp .ne 7, 3)] 32 (by decide +kernel) ?_
      refine sb_aload_n rfl ?_
      refine ss_getR g11_59 h0 r0_7 ?_
      refine sb_iload_n rfl ?_
      refine sb_iload_n rfl ?_
      refine sb_iconst cI1 ?_
      have hJ37 : RN P 4 kX11_carries 37 [(0, .ref 0)] [.int (if x2 = 1 then (1 : Int32) else 0), .int x1, .ref 173] (S M) r := by
        refine sb_in [(37, .aload_n 0, 1), (38, .getfield 16, 3), (41, .getfield 121, 3), (44, .aload_n 0, 1), (45, .invokevirtual 250, 3), (48, .invokevirtual 268, 3), (51, .ireturn, 1)] 52 (by decide +kernel) ?_
        refine sb_aload_n rfl ?_
        refine ss_getR g11_16 h0 r0_0 ?_
        refine ss_getR g11_121 h1 r1_1 ?_
        refine sb_aload_n rfl ?_
        refine sb_callVr 0 rfl oX11_theDesk ln11_250 vX11_theDesk (rc_own h0.1 (S_lt h0.2) (by decide)) (rnCk_of (by decide +kernel) rfl) tfK_theDesk ?_
        obtain ⟨qz5, hez4, h⟩ := bd h
        refine sb_callVi 4 rfl oX9_loads ln11_268 vX9_loads (rc_own h173.1 (S_lt h173.2) (by decide)) (rnCk_of (by decide +kernel) rfl) (tfY_loads hez4) ?_
        cases h
        subst hr
        refine sb_ireturn ?_
        exact ⟨.int, rfl, rfl⟩
      rcases Decidable.em (x2 = 1) with cz8 | cz8
      · refine sb_icmp_ne_f 36 cz8 (by decide) ?_
        refine sb_in [(32, .iconst 1, 1), (33, .goto 4, 3)] 36 (by decide +kernel) ?_
        refine sb_iconst cI1 ?_
        refine sb_goto 37 (by decide) ?_
        have hq := hJ37
        simp only [if_pos cz8] at hq
        exact rn_sub [0] rfl hq
      · refine sb_icmp_ne_t 36 cz8 (by decide) ?_
        refine sb_in [(36, .iconst 0, 1)] 37 (by decide +kernel) ?_
        refine sb_iconst cI0 ?_
        refine sb_end ?_
        have hq := hJ37
        simp only [if_neg cz8] at hq
        exact rn_sub [0] rfl hq
theorem tfK_carries {P : Px} {x1 : Int32} {x2 : Int32} {M : Mm} {rr : (Int32 × Mm)} (h : fK_carries x1 x2 M = some rr) : EX P 4 kX11_carries [.ref 0, .int x1, .int x2] (S M) (some (.int rr.1), S rr.2) := ex_of oX11_carries (Nat.le_of_ble_eq_true rfl) (nfK_carries  h rfl)
set_option maxRecDepth 20000 in
theorem nfE_addDebt {P : Px} {x1 : Int32} {x2 : Int32} {x3 : Int32} {M : Mm} {rr : (Int32 × Mm)} (h : fE_addDebt x1 x2 x3 M = some rr) {r : Option Value × Sg} (hr : r = (some (.int rr.1), S rr.2)) : RN P 2 kX8_addDebt 0 [(0, .ref 138), (1, .int x1), (2, .int x2), (3, .int x3)] [] (S M) r := by
  unfold fE_addDebt at h
  refine sb_in [(0, .iload_n 1, 1), (1, .iconst (-1), 1), (2, .if_icmp .ne 18, 3)] 5 (by decide +kernel) ?_
  refine sb_iload_n rfl ?_
  refine sb_iconst cIm1 ?_
  rcases ife h with ⟨cz15, h⟩ | ⟨cz15, h⟩
  · refine sb_icmp_ne_f 20 cz15 (by decide) ?_
    refine sb_in [(5, .aload_n 0, 1), (6, .iconst 0, 1), (7, .putfield 41, 3), (10, .aload_n 0, 1), (11, .getfield 15, 3), (14, .iconst 0, 1), (15, .invokestatic 44, 3), (18, .iconst 0, 1), (19, .ireturn, 1)] 20 (by decide +kernel) ?_
    refine sb_aload_n rfl ?_
    refine sb_iconst cI0 ?_
    refine ss_putI p8_41 h138 (by decide) ?_
    refine sb_aload_n rfl ?_
    refine ss_getR g8_15 h138 r138_3 ?_
    refine sb_iconst cI0 ?_
    obtain ⟨Mz14, hez13, h⟩ := bd h
    refine sb_callSv 2 rfl oJ7_fill_53178 ln8_44 vJ7_fill_53178 (rnCk_of (by decide +kernel) rfl) (tfJ_fill_53178 h140 (by decide) hez13) ?_
    refine sb_iconst cI0 ?_
    cases h
    subst hr
    refine sb_ireturn ?_
    exact ⟨.int, rfl, rfl⟩
  · refine sb_icmp_ne_t 20 cz15 (by decide) ?_
    refine sb_in [(20, .iload_n 1, 1), (21, .iconst 0, 1), (22, .bipush 11, 2), (24, .invokestatic 37, 3), (27, .ifCond .eq 32, 3)] 30 (by decide +kernel) ?_
    refine sb_iload_n rfl ?_
    refine sb_iconst cI0 ?_
    refine sb_bipush cB11 ?_
    refine sb_callSNi 3 rfl oX11_isWithin ln8_37 vX11_isWithin (rnCk_of (by decide +kernel) rfl) (tfK_isWithin) ?_
    obtain ⟨yz4, hj60, h⟩ := bd h
    have hJ60 : RN P 2 kX8_addDebt 60 [(0, .ref 138), (1, .int x1), (2, .int x2), (3, .int x3)] [.int yz4] (S M) r := by
      refine sb_in [(60, .istore 4, 2), (62, .iload 4, 2), (64, .ifCond .eq 12, 3)] 67 (by decide +kernel) ?_
      refine sb_istore (by decide) rfl ?_
      refine sb_iload rfl ?_
      rcases ife h with ⟨cz16, h⟩ | ⟨cz16, h⟩
      · refine sb_if_eq_t 76 cz16 (by decide) ?_
        refine sb_in [(76, .iconst (-1), 1), (77, .ireturn, 1)] 78 (by decide +kernel) ?_
        refine sb_iconst cIm1 ?_
        cases h
        subst hr
        refine sb_ireturn ?_
        exact ⟨.int, rfl, rfl⟩
      · refine sb_if_eq_f 76 cz16 (by decide) ?_
        refine sb_in [(67, .aload_n 0, 1), (68, .getfield 41, 3), (71, .bipush 16, 2), (73, .if_icmp .lt 5, 3)] 76 (by decide +kernel) ?_
        refine sb_aload_n rfl ?_
        refine ss_getI g8_41 h138 ?_
        refine sb_bipush cB16 ?_
        rcases ife h with ⟨cz17, h⟩ | ⟨cz17, h⟩
        · refine sb_icmp_lt_t 78 cz17 (by decide) ?_
          refine sb_in [(78, .aload_n 0, 1), (79, .getfield 15, 3), (82, .iload_n 1, 1), (83, .dup2, 1), (84, .iaload, 1), (85, .iload_n 3, 1), (86, .isub, 1), (87, .iastore, 1), (88, .aload_n 0, 1), (89, .getfield 15, 3), (92, .iload_n 2, 1), (93, .dup2, 1), (94, .iaload, 1), (95, .iload_n 3, 1), (96, .iadd, 1), (97, .iastore, 1), (98, .aload_n 0, 1), (99, .dup, 1), (100, .getfield 41, 3), (103, .iconst 1, 1), (104, .iadd, 1), (105, .putfield 41, 3), (108, .aload_n 0, 1), (109, .getfield 41, 3), (112, .ireturn, 1)] 113 (by decide +kernel) ?_
          refine sb_aload_n rfl ?_
          refine ss_getR g8_15 h138 r138_3 ?_
          refine sb_iload_n rfl ?_
          refine sb_dup2 rfl rfl ?_
          obtain ⟨hgz5, h⟩ := gd h
          refine ss_iald h140 hgz5 ?_
          refine sb_iload_n rfl ?_
          refine sb_isub ?_
          obtain ⟨hgz7, h⟩ := gd h
          refine ss_iast h140 (by decide) hgz7 ?_
          refine sb_aload_n rfl ?_
          refine ss_getR g8_15 h138 r138_3 ?_
          refine sb_iload_n rfl ?_
          refine sb_dup2 rfl rfl ?_
          obtain ⟨hgz8, h⟩ := gd h
          refine ss_iald h140 hgz8 ?_
          refine sb_iload_n rfl ?_
          refine sb_iadd ?_
          obtain ⟨hgz10, h⟩ := gd h
          refine ss_iast h140 (by decide) hgz10 ?_
          refine sb_aload_n rfl ?_
          refine sb_dup rfl ?_
          refine ss_getI g8_41 h138 ?_
          refine sb_iconst cI1 ?_
          refine sb_iadd ?_
          refine ss_putI p8_41 h138 (by decide) ?_
          refine sb_aload_n rfl ?_
          refine ss_getI g8_41 h138 ?_
          cases h
          subst hr
          refine sb_ireturn ?_
          exact ⟨.int, rfl, rfl⟩
        · refine sb_icmp_lt_f 78 cz17 (by decide) ?_
          refine sb_in [(76, .iconst (-1), 1), (77, .ireturn, 1)] 78 (by decide +kernel) ?_
          refine sb_iconst cIm1 ?_
          cases h
          subst hr
          refine sb_ireturn ?_
          exact ⟨.int, rfl, rfl⟩
    clear h
    have h := hj60
    clear hj60
    rcases ife h with ⟨cz18, h⟩ | ⟨cz18, h⟩
    · refine sb_if_eq_t 59 cz18 (by decide) ?_
      refine sb_in [(59, .iconst 0, 1)] 60 (by decide +kernel) ?_
      refine sb_iconst cI0 ?_
      refine sb_end ?_
      cases h
      exact rn_sub [0, 1, 2, 3] rfl hJ60
    · refine sb_if_eq_f 59 cz18 (by decide) ?_
      refine sb_in [(30, .iload_n 2, 1), (31, .iconst 0, 1), (32, .bipush 11, 2), (34, .invokestatic 37, 3), (37, .ifCond .eq 22, 3)] 40 (by decide +kernel) ?_
      refine sb_iload_n rfl ?_
      refine sb_iconst cI0 ?_
      refine sb_bipush cB11 ?_
      refine sb_callSNi 3 rfl oX11_isWithin ln8_37 vX11_isWithin (rnCk_of (by decide +kernel) rfl) (tfK_isWithin) ?_
      rcases ife h with ⟨cz19, h⟩ | ⟨cz19, h⟩
      · refine sb_if_eq_t 59 cz19 (by decide) ?_
        refine sb_in [(59, .iconst 0, 1)] 60 (by decide +kernel) ?_
        refine sb_iconst cI0 ?_
        refine sb_end ?_
        cases h
        exact rn_sub [0, 1, 2, 3] rfl hJ60
      · refine sb_if_eq_f 59 cz19 (by decide) ?_
        refine sb_in [(40, .iload_n 1, 1), (41, .iload_n 2, 1), (42, .if_icmp .eq 17, 3)] 45 (by decide +kernel) ?_
        refine sb_iload_n rfl ?_
        refine sb_iload_n rfl ?_
        rcases ife h with ⟨cz20, h⟩ | ⟨cz20, h⟩
        · refine sb_icmp_eq_t 59 cz20 (by decide) ?_
          refine sb_in [(59, .iconst 0, 1)] 60 (by decide +kernel) ?_
          refine sb_iconst cI0 ?_
          refine sb_end ?_
          cases h
          exact rn_sub [0, 1, 2, 3] rfl hJ60
        · refine sb_icmp_eq_f 59 cz20 (by decide) ?_
          refine sb_in [(45, .iload_n 3, 1), (46, .iconst 1, 1), (47, .bipush 99, 2), (49, .invokestatic 37, 3), (52, .ifCond .eq 7, 3)] 55 (by decide +kernel) ?_
          refine sb_iload_n rfl ?_
          refine sb_iconst cI1 ?_
          refine sb_bipush cB99 ?_
          refine sb_callSNi 3 rfl oX11_isWithin ln8_37 vX11_isWithin (rnCk_of (by decide +kernel) rfl) (tfK_isWithin) ?_
          rcases ife h with ⟨cz21, h⟩ | ⟨cz21, h⟩
          · refine sb_if_eq_t 59 cz21 (by decide) ?_
            refine sb_in [(59, .iconst 0, 1)] 60 (by decide +kernel) ?_
            refine sb_iconst cI0 ?_
            refine sb_end ?_
            cases h
            exact rn_sub [0, 1, 2, 3] rfl hJ60
          · refine sb_if_eq_f 59 cz21 (by decide) ?_
            refine sb_in [(55, .iconst 1, 1), (56, .goto 4, 3)] 59 (by decide +kernel) ?_
            refine sb_iconst cI1 ?_
            refine sb_goto 60 (by decide) ?_
            cases h
            exact rn_sub [0, 1, 2, 3] rfl hJ60
theorem tfE_addDebt {P : Px} {x1 : Int32} {x2 : Int32} {x3 : Int32} {M : Mm} {rr : (Int32 × Mm)} (h : fE_addDebt x1 x2 x3 M = some rr) : EX P 2 kX8_addDebt [.ref 138, .int x1, .int x2, .int x3] (S M) (some (.int rr.1), S rr.2) := ex_of oX8_addDebt (Nat.le_of_ble_eq_true rfl) (nfE_addDebt  h rfl)
set_option maxRecDepth 20000 in
theorem nfK_owes {P : Px} {x1 : Int32} {x2 : Int32} {x3 : Int32} {M : Mm} {rr : (Int32 × Mm)} (h : fK_owes x1 x2 x3 M = some rr) {r : Option Value × Sg} (hr : r = (some (.int rr.1), S rr.2)) : RN P 3 kX11_owes 0 [(0, .ref 0), (1, .int x1), (2, .int x2), (3, .int x3)] [] (S M) r := by
  unfold fK_owes at h
  refine sb_in [(0, .aload_n 0, 1), (1, .getfield 40, 3), (4, .iload_n 1, 1), (5, .iload_n 2, 1), (6, .iload_n 3, 1), (7, .invokevirtual 272, 3), (10, .ireturn, 1)] 11 (by decide +kernel) ?_
  refine sb_aload_n rfl ?_
  refine ss_getR g11_40 h0 r0_4 ?_
  refine sb_iload_n rfl ?_
  refine sb_iload_n rfl ?_
  refine sb_iload_n rfl ?_
  obtain ⟨qz2, hez1, h⟩ := bd h
  refine sb_callVi 3 rfl oX8_addDebt ln11_272 vX8_addDebt (rc_own h138.1 (S_lt h138.2) (by decide)) (rnCk_of (by decide +kernel) rfl) (tfE_addDebt hez1) ?_
  cases h
  subst hr
  refine sb_ireturn ?_
  exact ⟨.int, rfl, rfl⟩
theorem tfK_owes {P : Px} {x1 : Int32} {x2 : Int32} {x3 : Int32} {M : Mm} {rr : (Int32 × Mm)} (h : fK_owes x1 x2 x3 M = some rr) : EX P 3 kX11_owes [.ref 0, .int x1, .int x2, .int x3] (S M) (some (.int rr.1), S rr.2) := ex_of oX11_owes (Nat.le_of_ble_eq_true rfl) (nfK_owes  h rfl)
set_option maxRecDepth 20000 in
theorem nfI_groupUp {P : Px} {x1 : Int32} {x2 : Int32} {M : Mm} {rr : Mm} (h : fI_groupUp x1 x2 M = some rr) {r : Option Value × Sg} (hr : r = (none, S rr)) : RN P 1 kX3_groupUp 0 [(0, .ref 168), (1, .int x1), (2, .int x2), (3, .ref 252)] [] (S M) r := by
  unfold fI_groupUp at h
  refine sb_in [(0, .iconst 0, 1), (1, .istore 4, 2), (3, .iconst 0, 1), (4, .istore 5, 2), (6, .iconst 0, 1), (7, .istore 6, 2)] 9 (by decide +kernel) ?_
  refine sb_iconst cI0 ?_
  refine sb_istore (by decide) rfl ?_
  refine sb_iconst cI0 ?_
  refine sb_istore (by decide) rfl ?_
  refine sb_iconst cI0 ?_
  refine sb_istore (by decide) rfl ?_
  refine sb_end ?_
  obtain ⟨e9, hl9, h⟩ := bd h
  refine rn_sub [0, 1, 2, 3, 4, 5, 6] rfl ?_
  refine lp_ind (P := fun s => RN P 1 kX3_groupUp 9 [(0, .ref 168), (1, .int x1), (2, .int x2), (3, .ref 252), (4, .int s.1), (5, .int s.2.1), (6, .int s.2.2)] [] (S M) r) (E := fun p => RN P 1 kX3_groupUp 66 [(1, .int x1), (3, .ref 252), (4, .int p.1), (5, .int p.2)] [] (S M) r) ?_ _ _ _ hl9 ?_
  · intro s qx h hc
    obtain ⟨x4, x5, x6⟩ := s
    replace h : fI_groupUp_b9 x1 x2 M x4 x5 x6 = some qx := h
    show RN P 1 kX3_groupUp 9 [(0, .ref 168), (1, .int x1), (2, .int x2), (3, .ref 252), (4, .int x4), (5, .int x5), (6, .int x6)] [] (S M) r
    unfold fI_groupUp_b9 at h
    refine sb_in [(9, .iload 6, 2), (11, .iload_n 2, 1), (12, .if_icmp .ge 54, 3)] 15 (by decide +kernel) ?_
    refine sb_iload rfl ?_
    refine sb_iload_n rfl ?_
    rcases ife h with ⟨cz17, h⟩ | ⟨cz17, h⟩
    · refine sb_icmp_ge_t 66 cz17 (by decide) ?_
      cases h
      exact rn_sub [1, 3, 4, 5] rfl hc
    · refine sb_icmp_ge_f 66 cz17 (by decide) ?_
      refine sb_in [(15, .iload_n 1, 1), (16, .iconst 1, 1), (17, .iload 6, 2), (19, .ishl, 1), (20, .iconst (-1), 1), (21, .ixor, 1), (22, .iand, 1), (23, .istore 7, 2), (25, .iload 7, 2), (27, .iload_n 1, 1), (28, .if_icmp .eq 32, 3)] 31 (by decide +kernel) ?_
      refine sb_iload_n rfl ?_
      refine sb_iconst cI1 ?_
      refine sb_iload rfl ?_
      refine sb_ishl ?_
      refine sb_iconst cIm1 ?_
      refine sb_ixor ?_
      refine sb_iand ?_
      refine sb_istore (by decide) rfl ?_
      refine sb_iload rfl ?_
      refine sb_iload_n rfl ?_
      obtain ⟨⟨yz7, yz8⟩, hj60, h⟩ := bd h
      have hJ60 : RN P 1 kX3_groupUp 60 [(0, .ref 168), (1, .int x1), (2, .int x2), (3, .ref 252), (4, .int yz7), (5, .int yz8), (6, .int x6)] [] (S M) r := by
        refine sb_in [(60, .iinc 6 1, 3), (63, .goto (-54), 3)] 66 (by decide +kernel) ?_
        refine ss_iinc cI1 rfl (by decide) rfl ?_
        refine sb_goto 9 (by decide) ?_
        cases h
        exact rn_sub [0, 1, 2, 3, 4, 5, 6] rfl hc
      clear h
      have h := hj60
      clear hj60
      rcases ife h with ⟨cz18, h⟩ | ⟨cz18, h⟩
      · refine sb_icmp_eq_t 60 cz18 (by decide) ?_
        cases h
        exact rn_sub [0, 1, 2, 3, 4, 5, 6] rfl hJ60
      · refine sb_icmp_eq_f 60 cz18 (by decide) ?_
        refine sb_in [(31, .aload_n 3, 1), (32, .iload 7, 2), (34, .iaload, 1), (35, .aload_n 0, 1), (36, .getfield 17, 3), (39, .iload 6, 2), (41, .iaload, 1), (42, .iadd, 1), (43, .istore 4, 2), (45, .iload 5, 2), (47, .aload_n 3, 1), (48, .sipush 4096, 3), (51, .iload 7, 2), (53, .iadd, 1), (54, .iaload, 1), (55, .invokestatic 57, 3), (58, .istore 5, 2)] 60 (by decide +kernel) ?_
        refine sb_aload_n rfl ?_
        refine sb_iload rfl ?_
        obtain ⟨hgz2, h⟩ := gd h
        refine ss_ialdD hgz2 ?_
        refine sb_aload_n rfl ?_
        refine ss_getR g3_17 h168 r168_1 ?_
        refine sb_iload rfl ?_
        obtain ⟨hgz3, h⟩ := gd h
        refine ss_iald h170 hgz3 ?_
        refine sb_iadd ?_
        refine sb_istore (by decide) rfl ?_
        refine sb_iload rfl ?_
        refine sb_aload_n rfl ?_
        refine sb_sipush cS4096 ?_
        refine sb_iload rfl ?_
        refine sb_iadd ?_
        obtain ⟨hgz5, h⟩ := gd h
        refine ss_ialdD hgz5 ?_
        refine sb_max lm3_57 maxS maI maxC (by decide) rfl ?_
        refine sb_istore (by decide) rfl ?_
        refine sb_end ?_
        cases h
        exact rn_sub [0, 1, 2, 3, 4, 5, 6] rfl hJ60
  · clear hl9
    obtain ⟨yz9, yz10⟩ := e9
    show RN P 1 kX3_groupUp 66 [(1, .int x1), (3, .ref 252), (4, .int yz9), (5, .int yz10)] [] (S M) r
    refine sb_in [(66, .aload_n 3, 1), (67, .iload_n 1, 1), (68, .iload 4, 2), (70, .iastore, 1), (71, .aload_n 3, 1), (72, .sipush 4096, 3), (75, .iload_n 1, 1), (76, .iadd, 1), (77, .iload 4, 2), (79, .ifCond .ne 10, 3)] 82 (by decide +kernel) ?_
    refine sb_aload_n rfl ?_
    refine sb_iload_n rfl ?_
    refine sb_iload rfl ?_
    obtain ⟨hgz12, h⟩ := gd h
    refine ss_iastD hgz12 ?_
    refine sb_aload_n rfl ?_
    refine sb_sipush cS4096 ?_
    refine sb_iload_n rfl ?_
    refine sb_iadd ?_
    refine sb_iload rfl ?_
    rcases ife h with ⟨cz19, h⟩ | ⟨cz19, h⟩
    · refine sb_if_ne_f 89 cz19 (by decide) ?_
      refine sb_in [(82, .iload 5, 2), (84, .iconst 1, 1), (85, .iadd, 1), (86, .goto 5, 3)] 89 (by decide +kernel) ?_
      refine sb_iload rfl ?_
      refine sb_iconst cI1 ?_
      refine sb_iadd ?_
      refine sb_goto 91 (by decide) ?_
      refine sb_in [(91, .iastore, 1), (92, .return_, 1)] 93 (by decide +kernel) ?_
      obtain ⟨hgz16, h⟩ := gd h
      refine ss_iastD hgz16 ?_
      cases h
      subst hr
      refine sb_return ?_
      exact rfl
    · refine sb_if_ne_t 89 cz19 (by decide) ?_
      refine sb_in [(89, .iload 5, 2)] 91 (by decide +kernel) ?_
      refine sb_iload rfl ?_
      refine sb_end ?_
      refine sb_in [(91, .iastore, 1), (92, .return_, 1)] 93 (by decide +kernel) ?_
      obtain ⟨hgz14, h⟩ := gd h
      refine ss_iastD hgz14 ?_
      cases h
      subst hr
      refine sb_return ?_
      exact rfl
theorem tfI_groupUp {P : Px} {x1 : Int32} {x2 : Int32} {M : Mm} {rr : Mm} (h : fI_groupUp x1 x2 M = some rr) : EX P 1 kX3_groupUp [.ref 168, .int x1, .int x2, .ref 252] (S M) (none, S rr) := ex_of oX3_groupUp (Nat.le_of_ble_eq_true rfl) (nfI_groupUp  h rfl)
set_option maxRecDepth 20000 in
theorem nfI_fewestPayments {P : Px} {M : Mm} {rr : (Int32 × Mm)} (h : fI_fewestPayments M = some rr) {r : Option Value × Sg} (hr : r = (some (.int rr.1), S rr.2)) : RN P 2 kX3_fewestPayments 0 [(0, .ref 168), (1, .ref 138), (2, .ref 252)] [] (S M) r := by
  unfold fI_fewestPayments at h
  refine sb_in [(0, .iconst 0, 1), (1, .istore_n 3, 1), (2, .iconst 0, 1), (3, .istore 4, 2)] 5 (by decide +kernel) ?_
  refine sb_iconst cI0 ?_
  refine sb_istore_n (by decide) rfl ?_
  refine sb_iconst cI0 ?_
  refine sb_istore (by decide) rfl ?_
  refine sb_end ?_
  obtain ⟨e5, hl5, h⟩ := bd h
  refine rn_sub [0, 1, 2, 3, 4] rfl ?_
  refine lp_ind (P := fun s => RN P 2 kX3_fewestPayments 5 [(0, .ref 168), (1, .ref 138), (2, .ref 252), (3, .int s.1), (4, .int s.2.1)] [] (S s.2.2) r) (E := fun p => RN P 2 kX3_fewestPayments 44 [(0, .ref 168), (2, .ref 252), (3, .int p.1)] [] (S p.2) r) ?_ _ _ _ hl5 ?_
  · intro s qx h hc
    obtain ⟨x3, x4, M⟩ := s
    replace h : fI_fewestPayments_b5 x3 x4 M = some qx := h
    show RN P 2 kX3_fewestPayments 5 [(0, .ref 168), (1, .ref 138), (2, .ref 252), (3, .int x3), (4, .int x4)] [] (S M) r
    unfold fI_fewestPayments_b5 at h
    refine sb_in [(5, .iload 4, 2), (7, .bipush 12, 2), (9, .if_icmp .ge 35, 3)] 12 (by decide +kernel) ?_
    refine sb_iload rfl ?_
    refine sb_bipush cB12 ?_
    rcases ife h with ⟨cz17, h⟩ | ⟨cz17, h⟩
    · refine sb_icmp_ge_t 44 cz17 (by decide) ?_
      cases h
      exact rn_sub [0, 2, 3] rfl hc
    · refine sb_icmp_ge_f 44 cz17 (by decide) ?_
      refine sb_in [(12, .aload_n 1, 1), (13, .getfield 50, 3), (16, .iload 4, 2), (18, .iaload, 1), (19, .ifCond .eq 19, 3)] 22 (by decide +kernel) ?_
      refine sb_aload_n rfl ?_
      refine ss_getR g3_50 h138 r138_3 ?_
      refine sb_iload rfl ?_
      obtain ⟨hgz1, h⟩ := gd h
      refine ss_iald h140 hgz1 ?_
      obtain ⟨⟨yz5, Mz6⟩, hj38, h⟩ := bd h
      have hJ38 : RN P 2 kX3_fewestPayments 38 [(0, .ref 168), (1, .ref 138), (2, .ref 252), (3, .int yz5), (4, .int x4)] [] (S Mz6) r := by
        refine sb_in [(38, .iinc 4 1, 3), (41, .goto (-36), 3)] 44 (by decide +kernel) ?_
        refine ss_iinc cI1 rfl (by decide) rfl ?_
        refine sb_goto 5 (by decide) ?_
        cases h
        exact rn_sub [0, 1, 2, 3, 4] rfl hc
      clear h
      have h := hj38
      clear hj38
      rcases ife h with ⟨cz18, h⟩ | ⟨cz18, h⟩
      · refine sb_if_eq_t 38 cz18 (by decide) ?_
        cases h
        exact rn_sub [0, 1, 2, 3, 4] rfl hJ38
      · refine sb_if_eq_f 38 cz18 (by decide) ?_
        refine sb_in [(22, .aload_n 0, 1), (23, .getfield 17, 3), (26, .iload_n 3, 1), (27, .aload_n 1, 1), (28, .getfield 50, 3), (31, .iload 4, 2), (33, .iaload, 1), (34, .iastore, 1), (35, .iinc 3 1, 3)] 38 (by decide +kernel) ?_
        refine sb_aload_n rfl ?_
        refine ss_getR g3_17 h168 r168_1 ?_
        refine sb_iload_n rfl ?_
        refine sb_aload_n rfl ?_
        refine ss_getR g3_50 h138 r138_3 ?_
        refine sb_iload rfl ?_
        obtain ⟨hgz2, h⟩ := gd h
        refine ss_iald h140 hgz2 ?_
        obtain ⟨hgz4, h⟩ := gd h
        refine ss_iast h170 (by decide) hgz4 ?_
        refine ss_iinc cI1 rfl (by decide) rfl ?_
        refine sb_end ?_
        cases h
        exact rn_sub [0, 1, 2, 3, 4] rfl hJ38
  · clear hl5
    obtain ⟨yz7, Mz8⟩ := e5
    show RN P 2 kX3_fewestPayments 44 [(0, .ref 168), (2, .ref 252), (3, .int yz7)] [] (S Mz8) r
    refine sb_in [(44, .aload_n 2, 1), (45, .iconst 0, 1), (46, .iconst 0, 1), (47, .iastore, 1), (48, .aload_n 2, 1), (49, .sipush 4096, 3), (52, .iconst 0, 1), (53, .iastore, 1), (54, .iconst 1, 1), (55, .istore 4, 2)] 57 (by decide +kernel) ?_
    refine sb_aload_n rfl ?_
    refine sb_iconst cI0 ?_
    refine sb_iconst cI0 ?_
    obtain ⟨hgz10, h⟩ := gd h
    refine ss_iastD hgz10 ?_
    refine sb_aload_n rfl ?_
    refine sb_sipush cS4096 ?_
    refine sb_iconst cI0 ?_
    obtain ⟨hgz12, h⟩ := gd h
    refine ss_iastD hgz12 ?_
    refine sb_iconst cI1 ?_
    refine sb_istore (by decide) rfl ?_
    refine sb_end ?_
    obtain ⟨e57, hl57, h⟩ := bd h
    refine rn_sub [0, 2, 3, 4] rfl ?_
    refine lp_ind (P := fun s => RN P 2 kX3_fewestPayments 57 [(0, .ref 168), (2, .ref 252), (3, .int yz7), (4, .int s.1)] [] (S s.2) r) (E := fun p => RN P 2 kX3_fewestPayments 79 [(2, .ref 252), (3, .int yz7)] [] (S p) r) ?_ _ _ _ hl57 ?_
    · intro s qx h hc
      obtain ⟨x4, M⟩ := s
      replace h : fI_fewestPayments_b57 yz7 x4 M = some qx := h
      show RN P 2 kX3_fewestPayments 57 [(0, .ref 168), (2, .ref 252), (3, .int yz7), (4, .int x4)] [] (S M) r
      generalize yz7 = x3 at h hc ⊢
      unfold fI_fewestPayments_b57 at h
      refine sb_in [(57, .iload 4, 2), (59, .iconst 1, 1), (60, .iload_n 3, 1), (61, .ishl, 1), (62, .if_icmp .ge 17, 3)] 65 (by decide +kernel) ?_
      refine sb_iload rfl ?_
      refine sb_iconst cI1 ?_
      refine sb_iload_n rfl ?_
      refine sb_ishl ?_
      rcases ife h with ⟨cz19, h⟩ | ⟨cz19, h⟩
      · refine sb_icmp_ge_t 79 cz19 (by decide) ?_
        cases h
        exact rn_sub [2, 3] rfl hc
      · refine sb_icmp_ge_f 79 cz19 (by decide) ?_
        refine sb_in [(65, .aload_n 0, 1), (66, .iload 4, 2), (68, .iload_n 3, 1), (69, .aload_n 2, 1), (70, .invokevirtual 53, 3), (73, .iinc 4 1, 3), (76, .goto (-19), 3)] 79 (by decide +kernel) ?_
        refine sb_aload_n rfl ?_
        refine sb_iload rfl ?_
        refine sb_iload_n rfl ?_
        refine sb_aload_n rfl ?_
        obtain ⟨Mz14, hez13, h⟩ := bd h
        refine sb_callVv 3 rfl oX3_groupUp ln3_53 vX3_groupUp (rc_own h168.1 (S_lt h168.2) (by decide)) (rnCk_of (by decide +kernel) rfl) (tfI_groupUp hez13) ?_
        refine ss_iinc cI1 rfl (by decide) rfl ?_
        refine sb_goto 57 (by decide) ?_
        cases h
        exact rn_sub [0, 2, 3, 4] rfl hc
    · clear hl57
      obtain ⟨Mz15, hey⟩ : ∃ z, z = e57 := ⟨_, rfl⟩
      subst hey
      show RN P 2 kX3_fewestPayments 79 [(2, .ref 252), (3, .int yz7)] [] (S Mz15) r
      refine sb_in [(79, .iload_n 3, 1), (80, .aload_n 2, 1), (81, .sipush 4096, 3), (84, .iconst 1, 1), (85, .iload_n 3, 1), (86, .ishl, 1), (87, .iadd, 1), (88, .iconst 1, 1), (89, .isub, 1), (90, .iaload, 1), (91, .isub, 1), (92, .ireturn, 1)] 93 (by decide +kernel) ?_
      refine sb_iload_n rfl ?_
      refine sb_aload_n rfl ?_
      refine sb_sipush cS4096 ?_
      refine sb_iconst cI1 ?_
      refine sb_iload_n rfl ?_
      refine sb_ishl ?_
      refine sb_iadd ?_
      refine sb_iconst cI1 ?_
      refine sb_isub ?_
      obtain ⟨hgz16, h⟩ := gd h
      refine ss_ialdD hgz16 ?_
      refine sb_isub ?_
      cases h
      subst hr
      refine sb_ireturn ?_
      exact ⟨.int, rfl, rfl⟩
theorem tfI_fewestPayments {P : Px} {M : Mm} {rr : (Int32 × Mm)} (h : fI_fewestPayments M = some rr) : EX P 2 kX3_fewestPayments [.ref 168, .ref 138, .ref 252] (S M) (some (.int rr.1), S rr.2) := ex_of oX3_fewestPayments (Nat.le_of_ble_eq_true rfl) (nfI_fewestPayments  h rfl)
set_option maxRecDepth 20000 in
theorem nfK_net {P : Px} {x1 : Int32} {M : Mm} {rr : (Int32 × Mm)} (h : fK_net x1 M = some rr) {r : Option Value × Sg} (hr : r = (some (.int rr.1), S rr.2)) : RN P 3 kX11_net 0 [(0, .ref 0), (1, .int x1)] [] (S M) r := by
  unfold fK_net at h
  refine sb_in [(0, .iload_n 1, 1), (1, .iconst (-1), 1), (2, .if_icmp .ne 19, 3)] 5 (by decide +kernel) ?_
  refine sb_iload_n rfl ?_
  refine sb_iconst cIm1 ?_
  rcases ife h with ⟨cz6, h⟩ | ⟨cz6, h⟩
  · refine sb_icmp_ne_f 21 cz6 (by decide) ?_
    refine sb_in [(5, .aload_n 0, 1), (6, .getfield 54, 3), (9, .aload_n 0, 1), (10, .getfield 40, 3), (13, .aload_n 0, 1), (14, .invokevirtual 250, 3), (17, .invokevirtual 275, 3), (20, .ireturn, 1)] 21 (by decide +kernel) ?_
    refine sb_aload_n rfl ?_
    refine ss_getR g11_54 h0 r0_6 ?_
    refine sb_aload_n rfl ?_
    refine ss_getR g11_40 h0 r0_4 ?_
    refine sb_aload_n rfl ?_
    refine sb_callVr 0 rfl oX11_theDesk ln11_250 vX11_theDesk (rc_own h0.1 (S_lt h0.2) (by decide)) (rnCk_of (by decide +kernel) rfl) tfK_theDesk ?_
    obtain ⟨qz5, hez4, h⟩ := bd h
    refine sb_callVi 2 rfl oX3_fewestPayments ln11_275 vX3_fewestPayments (rc_own h168.1 (S_lt h168.2) (by decide)) (rnCk_of (by decide +kernel) rfl) (tfI_fewestPayments hez4) ?_
    cases h
    subst hr
    refine sb_ireturn ?_
    exact ⟨.int, rfl, rfl⟩
  · refine sb_icmp_ne_t 21 cz6 (by decide) ?_
    refine sb_in [(21, .iload_n 1, 1), (22, .iconst 0, 1), (23, .bipush 11, 2), (25, .invokestatic 91, 3), (28, .ifCond .eq 15, 3)] 31 (by decide +kernel) ?_
    refine sb_iload_n rfl ?_
    refine sb_iconst cI0 ?_
    refine sb_bipush cB11 ?_
    refine sb_callSi 3 rfl oX11_isWithin ln11_91 vX11_isWithin (rnCk_of (by decide +kernel) rfl) (tfK_isWithin) ?_
    rcases ife h with ⟨cz7, h⟩ | ⟨cz7, h⟩
    · refine sb_if_eq_t 43 cz7 (by decide) ?_
      refine sb_in [(43, .sipush (-10000), 3)] 46 (by decide +kernel) ?_
      refine sb_sipush cSm10000 ?_
      refine sb_end ?_
      refine sb_in [(46, .ireturn, 1)] 47 (by decide +kernel) ?_
      cases h
      subst hr
      refine sb_ireturn ?_
      exact ⟨.int, rfl, rfl⟩
    · refine sb_if_eq_f 43 cz7 (by decide) ?_
      refine sb_in [(31, .aload_n 0, 1), (32, .getfield 40, 3), (35, .getfield 279, 3), (38, .iload_n 1, 1), (39, .iaload, 1), (40, .goto 6, 3)] 43 (by decide +kernel) ?_
      refine sb_aload_n rfl ?_
      refine ss_getR g11_40 h0 r0_4 ?_
      refine ss_getR g11_279 h138 r138_3 ?_
      refine sb_iload_n rfl ?_
      obtain ⟨hgz2, h⟩ := gd h
      refine ss_iald h140 hgz2 ?_
      refine sb_goto 46 (by decide) ?_
      refine sb_in [(46, .ireturn, 1)] 47 (by decide +kernel) ?_
      cases h
      subst hr
      refine sb_ireturn ?_
      exact ⟨.int, rfl, rfl⟩
theorem tfK_net {P : Px} {x1 : Int32} {M : Mm} {rr : (Int32 × Mm)} (h : fK_net x1 M = some rr) : EX P 3 kX11_net [.ref 0, .int x1] (S M) (some (.int rr.1), S rr.2) := ex_of oX11_net (Nat.le_of_ble_eq_true rfl) (nfK_net  h rfl)
set_option maxRecDepth 20000 in
theorem nfI_chainHad {P : Px} {x1 : Int32} {x2 : Int32} {x3 : Int32} {M : Mm} {rr : Int32} (h : fI_chainHad x1 x2 x3 = some rr) {r : Option Value × Sg} (hr : r = (some (.int rr), S M)) : RN P 1 kX3_chainHad 0 [(0, .ref 168), (1, .int x1), (2, .int x2), (3, .int x3)] [] (S M) r := by
  unfold fI_chainHad at h
  refine sb_in [(0, .iconst 1, 1), (1, .istore 4, 2), (3, .iconst 1, 1), (4, .istore 5, 2), (6, .iconst 1, 1), (7, .istore 6, 2)] 9 (by decide +kernel) ?_
  refine sb_iconst cI1 ?_
  refine sb_istore (by decide) rfl ?_
  refine sb_iconst cI1 ?_
  refine sb_istore (by decide) rfl ?_
  refine sb_iconst cI1 ?_
  refine sb_istore (by decide) rfl ?_
  refine sb_end ?_
  obtain ⟨e9, hl9, h⟩ := bd h
  refine rn_sub [1, 2, 3, 4, 5, 6] rfl ?_
  refine lp_ind (P := fun s => RN P 1 kX3_chainHad 9 [(1, .int x1), (2, .int x2), (3, .int x3), (4, .int s.1), (5, .int s.2.1), (6, .int s.2.2)] [] (S M) r) (E := fun p => RN P 1 kX3_chainHad 41 [(4, .int p)] [] (S M) r) ?_ _ _ _ hl9 ?_
  · intro s qx h hc
    obtain ⟨x4, x5, x6⟩ := s
    replace h : fI_chainHad_b9 x1 x2 x3 x4 x5 x6 = some qx := h
    show RN P 1 kX3_chainHad 9 [(1, .int x1), (2, .int x2), (3, .int x3), (4, .int x4), (5, .int x5), (6, .int x6)] [] (S M) r
    unfold fI_chainHad_b9 at h
    refine sb_in [(9, .iload 6, 2), (11, .iload_n 3, 1), (12, .if_icmp .gt 29, 3)] 15 (by decide +kernel) ?_
    refine sb_iload rfl ?_
    refine sb_iload_n rfl ?_
    rcases ife h with ⟨cz4, h⟩ | ⟨cz4, h⟩
    · refine sb_icmp_gt_t 41 cz4 (by decide) ?_
      cases h
      exact rn_sub [4] rfl hc
    · refine sb_icmp_gt_f 41 cz4 (by decide) ?_
      refine sb_in [(15, .iload 5, 2), (17, .iload_n 1, 1), (18, .imul, 1), (19, .iload_n 2, 1), (20, .iload 4, 2), (22, .isub, 1), (23, .invokestatic 34, 3), (26, .istore 5, 2), (28, .iload 4, 2), (30, .iload 5, 2), (32, .iadd, 1), (33, .istore 4, 2), (35, .iinc 6 1, 3), (38, .goto (-29), 3)] 41 (by decide +kernel) ?_
      refine sb_iload rfl ?_
      refine sb_iload_n rfl ?_
      refine sb_imul ?_
      refine sb_iload_n rfl ?_
      refine sb_iload rfl ?_
      refine sb_isub ?_
      refine sb_min lm3_34 minS maI minC (by decide) rfl ?_
      refine sb_istore (by decide) rfl ?_
      refine sb_iload rfl ?_
      refine sb_iload rfl ?_
      refine sb_iadd ?_
      refine sb_istore (by decide) rfl ?_
      refine ss_iinc cI1 rfl (by decide) rfl ?_
      refine sb_goto 9 (by decide) ?_
      cases h
      exact rn_sub [1, 2, 3, 4, 5, 6] rfl hc
  · clear hl9
    obtain ⟨yz3, hey⟩ : ∃ z, z = e9 := ⟨_, rfl⟩
    subst hey
    show RN P 1 kX3_chainHad 41 [(4, .int yz3)] [] (S M) r
    refine sb_in [(41, .iload 4, 2), (43, .ireturn, 1)] 44 (by decide +kernel) ?_
    refine sb_iload rfl ?_
    cases h
    subst hr
    refine sb_ireturn ?_
    exact ⟨.int, rfl, rfl⟩
theorem tfI_chainHad {P : Px} {x1 : Int32} {x2 : Int32} {x3 : Int32} {M : Mm} {rr : Int32} (h : fI_chainHad x1 x2 x3 = some rr) : EX P 1 kX3_chainHad [.ref 168, .int x1, .int x2, .int x3] (S M) (some (.int rr), S M) := ex_of oX3_chainHad (Nat.le_of_ble_eq_true rfl) (nfI_chainHad  h rfl)
set_option maxRecDepth 20000 in
theorem nfI_chainFull {P : Px} {x1 : Int32} {x2 : Int32} {M : Mm} {rr : Int32} (h : fI_chainFull x1 x2 = some rr) {r : Option Value × Sg} (hr : r = (some (.int rr), S M)) : RN P 2 kX3_chainFull 0 [(0, .ref 168), (1, .int x1), (2, .int x2)] [] (S M) r := by
  unfold fI_chainFull at h
  refine sb_in [(0, .iconst 0, 1), (1, .istore_n 3, 1)] 2 (by decide +kernel) ?_
  refine sb_iconst cI0 ?_
  refine sb_istore_n (by decide) rfl ?_
  refine sb_end ?_
  obtain ⟨e2, hl2, h⟩ := bd h
  refine rn_sub [0, 1, 2, 3] rfl ?_
  refine lp_ind (P := fun s => RN P 2 kX3_chainFull 2 [(0, .ref 168), (1, .int x1), (2, .int x2), (3, .int s)] [] (S M) r) (E := fun e => match e with | Sum.inl p => RN P 2 kX3_chainFull 19 [(3, .int p)] [] (S M) r | Sum.inr p => RN P 2 kX3_chainFull 27 [] [] (S M) r) ?_ _ _ _ hl2 ?_
  · intro x3 qx h hc
    replace h : fI_chainFull_b2 x1 x2 x3 = some qx := h
    show RN P 2 kX3_chainFull 2 [(0, .ref 168), (1, .int x1), (2, .int x2), (3, .int x3)] [] (S M) r
    unfold fI_chainFull_b2 at h
    refine sb_in [(2, .iload_n 3, 1), (3, .bipush 99, 2), (5, .if_icmp .gt 22, 3)] 8 (by decide +kernel) ?_
    refine sb_iload_n rfl ?_
    refine sb_bipush cB99 ?_
    rcases ife h with ⟨cz4, h⟩ | ⟨cz4, h⟩
    · refine sb_icmp_gt_t 27 cz4 (by decide) ?_
      cases h
      exact rn_sub [] rfl hc
    · refine sb_icmp_gt_f 27 cz4 (by decide) ?_
      refine sb_in [(8, .aload_n 0, 1), (9, .iload_n 1, 1), (10, .iload_n 2, 1), (11, .iload_n 3, 1), (12, .invokevirtual 60, 3), (15, .iload_n 2, 1), (16, .if_icmp .ne 5, 3)] 19 (by decide +kernel) ?_
      refine sb_aload_n rfl ?_
      refine sb_iload_n rfl ?_
      refine sb_iload_n rfl ?_
      refine sb_iload_n rfl ?_
      obtain ⟨qz2, hez1, h⟩ := bd h
      refine sb_callVi 3 rfl oX3_chainHad ln3_60 vX3_chainHad (rc_own h168.1 (S_lt h168.2) (by decide)) (rnCk_of (by decide +kernel) rfl) (tfI_chainHad hez1) ?_
      refine sb_iload_n rfl ?_
      rcases ife h with ⟨cz5, h⟩ | ⟨cz5, h⟩
      · refine sb_icmp_ne_f 21 cz5 (by decide) ?_
        cases h
        exact rn_sub [3] rfl hc
      · refine sb_icmp_ne_t 21 cz5 (by decide) ?_
        refine sb_in [(21, .iinc 3 1, 3), (24, .goto (-22), 3)] 27 (by decide +kernel) ?_
        refine ss_iinc cI1 rfl (by decide) rfl ?_
        refine sb_goto 2 (by decide) ?_
        cases h
        exact rn_sub [0, 1, 2, 3] rfl hc
  · clear hl2
    rcases e2 with e2 | e2
    · skip
      obtain ⟨yz3, hey⟩ : ∃ z, z = e2 := ⟨_, rfl⟩
      subst hey
      show RN P 2 kX3_chainFull 19 [(3, .int yz3)] [] (S M) r
      refine sb_in [(19, .iload_n 3, 1), (20, .ireturn, 1)] 21 (by decide +kernel) ?_
      refine sb_iload_n rfl ?_
      cases h
      subst hr
      refine sb_ireturn ?_
      exact ⟨.int, rfl, rfl⟩
    · skip
      show RN P 2 kX3_chainFull 27 [] [] (S M) r
      refine sb_in [(27, .iconst (-1), 1), (28, .ireturn, 1)] 29 (by decide +kernel) ?_
      refine sb_iconst cIm1 ?_
      cases h
      subst hr
      refine sb_ireturn ?_
      exact ⟨.int, rfl, rfl⟩
theorem tfI_chainFull {P : Px} {x1 : Int32} {x2 : Int32} {M : Mm} {rr : Int32} (h : fI_chainFull x1 x2 = some rr) : EX P 2 kX3_chainFull [.ref 168, .int x1, .int x2] (S M) (some (.int rr), S M) := ex_of oX3_chainFull (Nat.le_of_ble_eq_true rfl) (nfI_chainFull  h rfl)
set_option maxRecDepth 20000 in
theorem nfK_chain {P : Px} {x1 : Int32} {x2 : Int32} {x3 : Int32} {x4 : Int32} {M : Mm} {rr : Int32} (h : fK_chain x1 x2 x3 x4 = some rr) {r : Option Value × Sg} (hr : r = (some (.int rr), S M)) : RN P 3 kX11_chain 0 [(0, .ref 0), (1, .int x1), (2, .int x2), (3, .int x3), (4, .int x4)] [] (S M) r := by
  unfold fK_chain at h
  refine sb_in [(0, .iload_n 1, 1), (1, .iconst 1, 1), (2, .bipush 9, 2), (4, .invokestatic 91, 3), (7, .ifCond .eq 14, 3)] 10 (by decide +kernel) ?_
  refine sb_iload_n rfl ?_
  refine sb_iconst cI1 ?_
  refine sb_bipush cB9 ?_
  refine sb_callSi 3 rfl oX11_isWithin ln11_91 vX11_isWithin (rnCk_of (by decide +kernel) rfl) (tfK_isWithin) ?_
  rcases ife h with ⟨cz8, h⟩ | ⟨cz8, h⟩
  · refine sb_if_eq_t 21 cz8 (by decide) ?_
    refine sb_in [(21, .iconst (-1), 1), (22, .ireturn, 1)] 23 (by decide +kernel) ?_
    refine sb_iconst cIm1 ?_
    cases h
    subst hr
    refine sb_ireturn ?_
    exact ⟨.int, rfl, rfl⟩
  · refine sb_if_eq_f 21 cz8 (by decide) ?_
    refine sb_in [(10, .iload_n 2, 1), (11, .iconst 1, 1), (12, .sipush 9999, 3), (15, .invokestatic 91, 3), (18, .ifCond .ne 5, 3)] 21 (by decide +kernel) ?_
    refine sb_iload_n rfl ?_
    refine sb_iconst cI1 ?_
    refine sb_sipush cS9999 ?_
    refine sb_callSi 3 rfl oX11_isWithin ln11_91 vX11_isWithin (rnCk_of (by decide +kernel) rfl) (tfK_isWithin) ?_
    rcases ife h with ⟨cz9, h⟩ | ⟨cz9, h⟩
    · refine sb_if_ne_f 23 cz9 (by decide) ?_
      refine sb_in [(21, .iconst (-1), 1), (22, .ireturn, 1)] 23 (by decide +kernel) ?_
      refine sb_iconst cIm1 ?_
      cases h
      subst hr
      refine sb_ireturn ?_
      exact ⟨.int, rfl, rfl⟩
    · refine sb_if_ne_t 23 cz9 (by decide) ?_
      refine sb_in [(23, .iload 4, 2), (25, .ifCond .ne 28, 3)] 28 (by decide +kernel) ?_
      refine sb_iload rfl ?_
      rcases ife h with ⟨cz10, h⟩ | ⟨cz10, h⟩
      · refine sb_if_ne_f 53 cz10 (by decide) ?_
        refine sb_in [(28, .iload_n 3, 1), (29, .iconst 0, 1), (30, .bipush 99, 2), (32, .invokestatic 91, 3), (35, .ifCond .eq 16, 3)] 38 (by decide +kernel) ?_
        refine sb_iload_n rfl ?_
        refine sb_iconst cI0 ?_
        refine sb_bipush cB99 ?_
        refine sb_callSi 3 rfl oX11_isWithin ln11_91 vX11_isWithin (rnCk_of (by decide +kernel) rfl) (tfK_isWithin) ?_
        rcases ife h with ⟨cz11, h⟩ | ⟨cz11, h⟩
        · refine sb_if_eq_t 51 cz11 (by decide) ?_
          refine sb_in [(51, .iconst (-1), 1)] 52 (by decide +kernel) ?_
          refine sb_iconst cIm1 ?_
          refine sb_end ?_
          refine sb_in [(52, .ireturn, 1)] 53 (by decide +kernel) ?_
          cases h
          subst hr
          refine sb_ireturn ?_
          exact ⟨.int, rfl, rfl⟩
        · refine sb_if_eq_f 51 cz11 (by decide) ?_
          refine sb_in [(38, .aload_n 0, 1), (39, .getfield 54, 3), (42, .iload_n 1, 1), (43, .iload_n 2, 1), (44, .iload_n 3, 1), (45, .invokevirtual 282, 3), (48, .goto 4, 3)] 51 (by decide +kernel) ?_
          refine sb_aload_n rfl ?_
          refine ss_getR g11_54 h0 r0_6 ?_
          refine sb_iload_n rfl ?_
          refine sb_iload_n rfl ?_
          refine sb_iload_n rfl ?_
          obtain ⟨qz7, hez6, h⟩ := bd h
          refine sb_callVi 3 rfl oX3_chainHad ln11_282 vX3_chainHad (rc_own h168.1 (S_lt h168.2) (by decide)) (rnCk_of (by decide +kernel) rfl) (tfI_chainHad hez6) ?_
          refine sb_goto 52 (by decide) ?_
          refine sb_in [(52, .ireturn, 1)] 53 (by decide +kernel) ?_
          cases h
          subst hr
          refine sb_ireturn ?_
          exact ⟨.int, rfl, rfl⟩
      · refine sb_if_ne_t 53 cz10 (by decide) ?_
        refine sb_in [(53, .iload 4, 2), (55, .iconst 1, 1), (56, .if_icmp .ne 15, 3)] 59 (by decide +kernel) ?_
        refine sb_iload rfl ?_
        refine sb_iconst cI1 ?_
        rcases ife h with ⟨cz12, h⟩ | ⟨cz12, h⟩
        · refine sb_icmp_ne_f 71 cz12 (by decide) ?_
          refine sb_in [(59, .aload_n 0, 1), (60, .getfield 54, 3), (63, .iload_n 1, 1), (64, .iload_n 2, 1), (65, .invokevirtual 285, 3), (68, .goto 4, 3)] 71 (by decide +kernel) ?_
          refine sb_aload_n rfl ?_
          refine ss_getR g11_54 h0 r0_6 ?_
          refine sb_iload_n rfl ?_
          refine sb_iload_n rfl ?_
          obtain ⟨qz4, hez3, h⟩ := bd h
          refine sb_callVi 2 rfl oX3_chainFull ln11_285 vX3_chainFull (rc_own h168.1 (S_lt h168.2) (by decide)) (rnCk_of (by decide +kernel) rfl) (tfI_chainFull hez3) ?_
          refine sb_goto 72 (by decide) ?_
          refine sb_in [(72, .ireturn, 1)] 73 (by decide +kernel) ?_
          cases h
          subst hr
          refine sb_ireturn ?_
          exact ⟨.int, rfl, rfl⟩
        · refine sb_icmp_ne_t 71 cz12 (by decide) ?_
          refine sb_in [(71, .iconst (-1), 1)] 72 (by decide +kernel) ?_
          refine sb_iconst cIm1 ?_
          refine sb_end ?_
          refine sb_in [(72, .ireturn, 1)] 73 (by decide +kernel) ?_
          cases h
          subst hr
          refine sb_ireturn ?_
          exact ⟨.int, rfl, rfl⟩
theorem tfK_chain {P : Px} {x1 : Int32} {x2 : Int32} {x3 : Int32} {x4 : Int32} {M : Mm} {rr : Int32} (h : fK_chain x1 x2 x3 x4 = some rr) : EX P 3 kX11_chain [.ref 0, .int x1, .int x2, .int x3, .int x4] (S M) (some (.int rr), S M) := ex_of oX11_chain (Nat.le_of_ble_eq_true rfl) (nfK_chain  h rfl)
set_option maxRecDepth 20000 in
theorem nfK_has {P : Px} {x1 : Int32} {x2 : Int32} {M : Mm} {rr : (Int32 × Mm)} (h : fK_has x1 x2 M = some rr) {r : Option Value × Sg} (hr : r = (some (.int rr.1), S rr.2)) : RN P 2 kX11_has 0 [(0, .ref 0), (1, .int x1), (2, .int x2)] [] (S M) r := by
  unfold fK_has at h
  refine sb_in [(0, .iload_n 1, 1), (1, .iconst 0, 1), (2, .bipush 25, 2), (4, .invokestatic 91, 3), (7, .ifCond .eq 13, 3)] 10 (by decide +kernel) ?_
  refine sb_iload_n rfl ?_
  refine sb_iconst cI0 ?_
  refine sb_bipush cB25 ?_
  refine sb_callSi 3 rfl oX11_isWithin ln11_91 vX11_isWithin (rnCk_of (by decide +kernel) rfl) (tfK_isWithin) ?_
  rcases ife h with ⟨cz5, h⟩ | ⟨cz5, h⟩
  · refine sb_if_eq_t 20 cz5 (by decide) ?_
    refine sb_in [(20, .iconst 0, 1), (21, .ireturn, 1)] 22 (by decide +kernel) ?_
    refine sb_iconst cI0 ?_
    cases h
    subst hr
    refine sb_ireturn ?_
    exact ⟨.boolean, rfl, by decide⟩
  · refine sb_if_eq_f 20 cz5 (by decide) ?_
    refine sb_in [(10, .iload_n 2, 1), (11, .iconst 0, 1), (12, .bipush 9, 2), (14, .invokestatic 91, 3), (17, .ifCond .ne 5, 3)] 20 (by decide +kernel) ?_
    refine sb_iload_n rfl ?_
    refine sb_iconst cI0 ?_
    refine sb_bipush cB9 ?_
    refine sb_callSi 3 rfl oX11_isWithin ln11_91 vX11_isWithin (rnCk_of (by decide +kernel) rfl) (tfK_isWithin) ?_
    rcases ife h with ⟨cz6, h⟩ | ⟨cz6, h⟩
    · refine sb_if_ne_f 22 cz6 (by decide) ?_
      refine sb_in [(20, .iconst 0, 1), (21, .ireturn, 1)] 22 (by decide +kernel) ?_
      refine sb_iconst cI0 ?_
      cases h
      subst hr
      refine sb_ireturn ?_
      exact ⟨.boolean, rfl, by decide⟩
    · refine sb_if_ne_t 22 cz6 (by decide) ?_
      refine sb_in [(22, .aload_n 0, 1), (23, .getfield 40, 3), (26, .getfield 288, 3), (29, .iload_n 1, 1), (30, .iload_n 2, 1), (31, .iastore, 1), (32, .iconst 1, 1), (33, .ireturn, 1)] 34 (by decide +kernel) ?_
      refine sb_aload_n rfl ?_
      refine ss_getR g11_40 h0 r0_4 ?_
      refine ss_getR g11_288 h138 r138_4 ?_
      refine sb_iload_n rfl ?_
      refine sb_iload_n rfl ?_
      obtain ⟨hgz4, h⟩ := gd h
      refine ss_iast h141 (by decide) hgz4 ?_
      refine sb_iconst cI1 ?_
      cases h
      subst hr
      refine sb_ireturn ?_
      exact ⟨.boolean, rfl, by decide⟩
theorem tfK_has {P : Px} {x1 : Int32} {x2 : Int32} {M : Mm} {rr : (Int32 × Mm)} (h : fK_has x1 x2 M = some rr) : EX P 2 kX11_has [.ref 0, .int x1, .int x2] (S M) (some (.int rr.1), S rr.2) := ex_of oX11_has (Nat.le_of_ble_eq_true rfl) (nfK_has  h rfl)
set_option maxRecDepth 20000 in
theorem nfE_addSpelled {P : Px} {x1 : Int32} {M : Mm} {rr : (Int32 × Mm)} (h : fE_addSpelled x1 M = some rr) {r : Option Value × Sg} (hr : r = (some (.int rr.1), S rr.2)) : RN P 2 kX8_addSpelled 0 [(0, .ref 138), (1, .int x1)] [] (S M) r := by
  unfold fE_addSpelled at h
  refine sb_in [(0, .iload_n 1, 1), (1, .iconst (-1), 1), (2, .if_icmp .ne 18, 3)] 5 (by decide +kernel) ?_
  refine sb_iload_n rfl ?_
  refine sb_iconst cIm1 ?_
  rcases ife h with ⟨cz9, h⟩ | ⟨cz9, h⟩
  · refine sb_icmp_ne_f 20 cz9 (by decide) ?_
    refine sb_in [(5, .aload_n 0, 1), (6, .iconst 0, 1), (7, .putfield 50, 3), (10, .aload_n 0, 1), (11, .getfield 21, 3), (14, .iconst 0, 1), (15, .invokestatic 44, 3), (18, .iconst 0, 1), (19, .ireturn, 1)] 20 (by decide +kernel) ?_
    refine sb_aload_n rfl ?_
    refine sb_iconst cI0 ?_
    refine ss_putI p8_50 h138 (by decide) ?_
    refine sb_aload_n rfl ?_
    refine ss_getR g8_21 h138 r138_6 ?_
    refine sb_iconst cI0 ?_
    obtain ⟨Mz8, hez7, h⟩ := bd h
    refine sb_callSv 2 rfl oJ7_fill_53178 ln8_44 vJ7_fill_53178 (rnCk_of (by decide +kernel) rfl) (tfJ_fill_53178 h142 (by decide) hez7) ?_
    refine sb_iconst cI0 ?_
    cases h
    subst hr
    refine sb_ireturn ?_
    exact ⟨.int, rfl, rfl⟩
  · refine sb_icmp_ne_t 20 cz9 (by decide) ?_
    refine sb_in [(20, .iload_n 1, 1), (21, .iconst 0, 1), (22, .bipush 25, 2), (24, .invokestatic 37, 3), (27, .ifCond .eq 12, 3)] 30 (by decide +kernel) ?_
    refine sb_iload_n rfl ?_
    refine sb_iconst cI0 ?_
    refine sb_bipush cB25 ?_
    refine sb_callSNi 3 rfl oX11_isWithin ln8_37 vX11_isWithin (rnCk_of (by decide +kernel) rfl) (tfK_isWithin) ?_
    rcases ife h with ⟨cz10, h⟩ | ⟨cz10, h⟩
    · refine sb_if_eq_t 39 cz10 (by decide) ?_
      refine sb_in [(39, .iconst (-1), 1), (40, .ireturn, 1)] 41 (by decide +kernel) ?_
      refine sb_iconst cIm1 ?_
      cases h
      subst hr
      refine sb_ireturn ?_
      exact ⟨.int, rfl, rfl⟩
    · refine sb_if_eq_f 39 cz10 (by decide) ?_
      refine sb_in [(30, .aload_n 0, 1), (31, .getfield 50, 3), (34, .bipush 8, 2), (36, .if_icmp .lt 5, 3)] 39 (by decide +kernel) ?_
      refine sb_aload_n rfl ?_
      refine ss_getI g8_50 h138 ?_
      refine sb_bipush cB8 ?_
      rcases ife h with ⟨cz11, h⟩ | ⟨cz11, h⟩
      · refine sb_icmp_lt_t 41 cz11 (by decide) ?_
        refine sb_in [(41, .aload_n 0, 1), (42, .getfield 21, 3), (45, .iload_n 1, 1), (46, .dup2, 1), (47, .iaload, 1), (48, .iconst 1, 1), (49, .iadd, 1), (50, .iastore, 1), (51, .aload_n 0, 1), (52, .dup, 1), (53, .getfield 50, 3), (56, .iconst 1, 1), (57, .iadd, 1), (58, .putfield 50, 3), (61, .aload_n 0, 1), (62, .getfield 50, 3), (65, .ireturn, 1)] 66 (by decide +kernel) ?_
        refine sb_aload_n rfl ?_
        refine ss_getR g8_21 h138 r138_6 ?_
        refine sb_iload_n rfl ?_
        refine sb_dup2 rfl rfl ?_
        obtain ⟨hgz2, h⟩ := gd h
        refine ss_iald h142 hgz2 ?_
        refine sb_iconst cI1 ?_
        refine sb_iadd ?_
        obtain ⟨hgz4, h⟩ := gd h
        refine ss_iast h142 (by decide) hgz4 ?_
        refine sb_aload_n rfl ?_
        refine sb_dup rfl ?_
        refine ss_getI g8_50 h138 ?_
        refine sb_iconst cI1 ?_
        refine sb_iadd ?_
        refine ss_putI p8_50 h138 (by decide) ?_
        refine sb_aload_n rfl ?_
        refine ss_getI g8_50 h138 ?_
        cases h
        subst hr
        refine sb_ireturn ?_
        exact ⟨.int, rfl, rfl⟩
      · refine sb_icmp_lt_f 41 cz11 (by decide) ?_
        refine sb_in [(39, .iconst (-1), 1), (40, .ireturn, 1)] 41 (by decide +kernel) ?_
        refine sb_iconst cIm1 ?_
        cases h
        subst hr
        refine sb_ireturn ?_
        exact ⟨.int, rfl, rfl⟩
theorem tfE_addSpelled {P : Px} {x1 : Int32} {M : Mm} {rr : (Int32 × Mm)} (h : fE_addSpelled x1 M = some rr) : EX P 2 kX8_addSpelled [.ref 138, .int x1] (S M) (some (.int rr.1), S rr.2) := ex_of oX8_addSpelled (Nat.le_of_ble_eq_true rfl) (nfE_addSpelled  h rfl)
set_option maxRecDepth 20000 in
theorem nfK_spell {P : Px} {x1 : Int32} {M : Mm} {rr : (Int32 × Mm)} (h : fK_spell x1 M = some rr) {r : Option Value × Sg} (hr : r = (some (.int rr.1), S rr.2)) : RN P 3 kX11_spell 0 [(0, .ref 0), (1, .int x1)] [] (S M) r := by
  unfold fK_spell at h
  refine sb_in [(0, .aload_n 0, 1), (1, .getfield 40, 3), (4, .iload_n 1, 1), (5, .invokevirtual 291, 3), (8, .ireturn, 1)] 9 (by decide +kernel) ?_
  refine sb_aload_n rfl ?_
  refine ss_getR g11_40 h0 r0_4 ?_
  refine sb_iload_n rfl ?_
  obtain ⟨qz2, hez1, h⟩ := bd h
  refine sb_callVi 1 rfl oX8_addSpelled ln11_291 vX8_addSpelled (rc_own h138.1 (S_lt h138.2) (by decide)) (rnCk_of (by decide +kernel) rfl) (tfE_addSpelled hez1) ?_
  cases h
  subst hr
  refine sb_ireturn ?_
  exact ⟨.int, rfl, rfl⟩
theorem tfK_spell {P : Px} {x1 : Int32} {M : Mm} {rr : (Int32 × Mm)} (h : fK_spell x1 M = some rr) : EX P 3 kX11_spell [.ref 0, .int x1] (S M) (some (.int rr.1), S rr.2) := ex_of oX11_spell (Nat.le_of_ble_eq_true rfl) (nfK_spell  h rfl)
set_option maxRecDepth 20000 in
theorem nfI_orders {P : Px} {M : Mm} {rr : Int32} (h : fI_orders M = some rr) {r : Option Value × Sg} (hr : r = (some (.int rr), S M)) : RN P 1 kX3_orders 0 [(0, .ref 168), (1, .ref 138)] [] (S M) r := by
  unfold fI_orders at h
  refine sb_in [(0, .iconst 1, 1), (1, .istore_n 2, 1), (2, .iconst 0, 1), (3, .istore_n 3, 1), (4, .iconst 0, 1), (5, .istore 4, 2)] 7 (by decide +kernel) ?_
  refine sb_iconst cI1 ?_
  refine sb_istore_n (by decide) rfl ?_
  refine sb_iconst cI0 ?_
  refine sb_istore_n (by decide) rfl ?_
  refine sb_iconst cI0 ?_
  refine sb_istore (by decide) rfl ?_
  refine sb_end ?_
  obtain ⟨e7, hl7, h⟩ := bd h
  refine rn_sub [1, 2, 3, 4] rfl ?_
  refine lp_ind (P := fun s => RN P 1 kX3_orders 7 [(1, .ref 138), (2, .int s.1), (3, .int s.2.1), (4, .int s.2.2)] [] (S M) r) (E := fun p => RN P 1 kX3_orders 51 [(2, .int p)] [] (S M) r) ?_ _ _ _ hl7 ?_
  · intro s qx h hc
    obtain ⟨x2, x3, x4⟩ := s
    replace h : fI_orders_b7 M x2 x3 x4 = some qx := h
    show RN P 1 kX3_orders 7 [(1, .ref 138), (2, .int x2), (3, .int x3), (4, .int x4)] [] (S M) r
    unfold fI_orders_b7 at h
    refine sb_in [(7, .iload 4, 2), (9, .bipush 26, 2), (11, .if_icmp .ge 40, 3)] 14 (by decide +kernel) ?_
    refine sb_iload rfl ?_
    refine sb_bipush cB26 ?_
    rcases ife h with ⟨cz7, h⟩ | ⟨cz7, h⟩
    · refine sb_icmp_ge_t 51 cz7 (by decide) ?_
      cases h
      exact rn_sub [2] rfl hc
    · refine sb_icmp_ge_f 51 cz7 (by decide) ?_
      refine sb_in [(14, .iconst 1, 1), (15, .istore 5, 2)] 17 (by decide +kernel) ?_
      refine sb_iconst cI1 ?_
      refine sb_istore (by decide) rfl ?_
      refine sb_end ?_
      obtain ⟨e17, hl17, h⟩ := bd h
      refine rn_sub [1, 2, 3, 4, 5] rfl ?_
      refine lp_ind (P := fun s => RN P 1 kX3_orders 17 [(1, .ref 138), (2, .int s.1), (3, .int s.2.1), (4, .int x4), (5, .int s.2.2)] [] (S M) r) (E := fun p => RN P 1 kX3_orders 45 [(1, .ref 138), (2, .int p.1), (3, .int p.2), (4, .int x4)] [] (S M) r) ?_ _ _ _ hl17 ?_
      · intro s qx h hc
        obtain ⟨x2, x3, x5⟩ := s
        replace h : fI_orders_b17 x4 M x2 x3 x5 = some qx := h
        show RN P 1 kX3_orders 17 [(1, .ref 138), (2, .int x2), (3, .int x3), (4, .int x4), (5, .int x5)] [] (S M) r
        unfold fI_orders_b17 at h
        refine sb_in [(17, .iload 5, 2), (19, .aload_n 1, 1), (20, .getfield 67, 3), (23, .iload 4, 2), (25, .iaload, 1), (26, .if_icmp .gt 19, 3)] 29 (by decide +kernel) ?_
        refine sb_iload rfl ?_
        refine sb_aload_n rfl ?_
        refine ss_getR g3_67 h138 r138_6 ?_
        refine sb_iload rfl ?_
        obtain ⟨hgz1, h⟩ := gd h
        refine ss_iald h142 hgz1 ?_
        rcases ife h with ⟨cz8, h⟩ | ⟨cz8, h⟩
        · refine sb_icmp_gt_t 45 cz8 (by decide) ?_
          cases h
          exact rn_sub [1, 2, 3, 4] rfl hc
        · refine sb_icmp_gt_f 45 cz8 (by decide) ?_
          refine sb_in [(29, .iinc 3 1, 3), (32, .iload_n 2, 1), (33, .iload_n 3, 1), (34, .imul, 1), (35, .iload 5, 2), (37, .idiv, 1), (38, .istore_n 2, 1), (39, .iinc 5 1, 3), (42, .goto (-25), 3)] 45 (by decide +kernel) ?_
          refine ss_iinc cI1 rfl (by decide) rfl ?_
          refine sb_iload_n rfl ?_
          refine sb_iload_n rfl ?_
          refine sb_imul ?_
          refine sb_iload rfl ?_
          obtain ⟨hgz2, h⟩ := gd h
          refine sb_idiv hgz2 ?_
          refine sb_istore_n (by decide) rfl ?_
          refine ss_iinc cI1 rfl (by decide) rfl ?_
          refine sb_goto 17 (by decide) ?_
          cases h
          exact rn_sub [1, 2, 3, 4, 5] rfl hc
      · clear hl17
        obtain ⟨yz4, yz5⟩ := e17
        show RN P 1 kX3_orders 45 [(1, .ref 138), (2, .int yz4), (3, .int yz5), (4, .int x4)] [] (S M) r
        refine sb_in [(45, .iinc 4 1, 3), (48, .goto (-41), 3)] 51 (by decide +kernel) ?_
        refine ss_iinc cI1 rfl (by decide) rfl ?_
        refine sb_goto 7 (by decide) ?_
        cases h
        exact rn_sub [1, 2, 3, 4] rfl hc
  · clear hl7
    obtain ⟨yz6, hey⟩ : ∃ z, z = e7 := ⟨_, rfl⟩
    subst hey
    show RN P 1 kX3_orders 51 [(2, .int yz6)] [] (S M) r
    refine sb_in [(51, .iload_n 2, 1), (52, .ireturn, 1)] 53 (by decide +kernel) ?_
    refine sb_iload_n rfl ?_
    cases h
    subst hr
    refine sb_ireturn ?_
    exact ⟨.int, rfl, rfl⟩
theorem tfI_orders {P : Px} {M : Mm} {rr : Int32} (h : fI_orders M = some rr) : EX P 1 kX3_orders [.ref 168, .ref 138] (S M) (some (.int rr), S M) := ex_of oX3_orders (Nat.le_of_ble_eq_true rfl) (nfI_orders  h rfl)
set_option maxRecDepth 20000 in
theorem nfI_timesLaid {P : Px} {M : Mm} {rr : Int32} (h : fI_timesLaid M = some rr) {r : Option Value × Sg} (hr : r = (some (.int rr), S M)) : RN P 1 kX3_timesLaid 0 [(0, .ref 168), (1, .ref 138)] [] (S M) r := by
  unfold fI_timesLaid at h
  refine sb_in [(0, .aload_n 1, 1), (1, .getfield 64, 3), (4, .ifCond .ne 5, 3)] 7 (by decide +kernel) ?_
  refine sb_aload_n rfl ?_
  refine ss_getI g3_64 h138 ?_
  rcases ife h with ⟨cz8, h⟩ | ⟨cz8, h⟩
  · refine sb_if_ne_f 9 cz8 (by decide) ?_
    refine sb_in [(7, .iconst 0, 1), (8, .ireturn, 1)] 9 (by decide +kernel) ?_
    refine sb_iconst cI0 ?_
    cases h
    subst hr
    refine sb_ireturn ?_
    exact ⟨.int, rfl, rfl⟩
  · refine sb_if_ne_t 9 cz8 (by decide) ?_
    refine sb_in [(9, .bipush 9, 2), (11, .istore_n 2, 1), (12, .iconst 0, 1), (13, .istore_n 3, 1)] 14 (by decide +kernel) ?_
    refine sb_bipush cB9 ?_
    refine sb_istore_n (by decide) rfl ?_
    refine sb_iconst cI0 ?_
    refine sb_istore_n (by decide) rfl ?_
    refine sb_end ?_
    obtain ⟨e14, hl14, h⟩ := bd h
    refine rn_sub [1, 2, 3] rfl ?_
    refine lp_ind (P := fun s => RN P 1 kX3_timesLaid 14 [(1, .ref 138), (2, .int s.1), (3, .int s.2)] [] (S M) r) (E := fun p => RN P 1 kX3_timesLaid 53 [(2, .int p)] [] (S M) r) ?_ _ _ _ hl14 ?_
    · intro s qx h hc
      obtain ⟨x2, x3⟩ := s
      replace h : fI_timesLaid_b14 M x2 x3 = some qx := h
      show RN P 1 kX3_timesLaid 14 [(1, .ref 138), (2, .int x2), (3, .int x3)] [] (S M) r
      unfold fI_timesLaid_b14 at h
      refine sb_in [(14, .iload_n 3, 1), (15, .bipush 26, 2), (17, .if_icmp .ge 36, 3)] 20 (by decide +kernel) ?_
      refine sb_iload_n rfl ?_
      refine sb_bipush cB26 ?_
      rcases ife h with ⟨cz9, h⟩ | ⟨cz9, h⟩
      · refine sb_icmp_ge_t 53 cz9 (by decide) ?_
        cases h
        exact rn_sub [2] rfl hc
      · refine sb_icmp_ge_f 53 cz9 (by decide) ?_
        refine sb_in [(20, .aload_n 1, 1), (21, .getfield 67, 3), (24, .iload_n 3, 1), (25, .iaload, 1), (26, .ifCond .le 21, 3)] 29 (by decide +kernel) ?_
        refine sb_aload_n rfl ?_
        refine ss_getR g3_67 h138 r138_6 ?_
        refine sb_iload_n rfl ?_
        obtain ⟨hgz1, h⟩ := gd h
        refine ss_iald h142 hgz1 ?_
        obtain ⟨yz6, hj47, h⟩ := bd h
        have hJ47 : RN P 1 kX3_timesLaid 47 [(1, .ref 138), (2, .int yz6), (3, .int x3)] [] (S M) r := by
          refine sb_in [(47, .iinc 3 1, 3), (50, .goto (-36), 3)] 53 (by decide +kernel) ?_
          refine ss_iinc cI1 rfl (by decide) rfl ?_
          refine sb_goto 14 (by decide) ?_
          cases h
          exact rn_sub [1, 2, 3] rfl hc
        clear h
        have h := hj47
        clear hj47
        rcases ife h with ⟨cz10, h⟩ | ⟨cz10, h⟩
        · refine sb_if_le_t 47 cz10 (by decide) ?_
          cases h
          exact rn_sub [1, 2, 3] rfl hJ47
        · refine sb_if_le_f 47 cz10 (by decide) ?_
          refine sb_in [(29, .iload_n 2, 1), (30, .aload_n 1, 1), (31, .getfield 70, 3), (34, .iload_n 3, 1), (35, .iaload, 1), (36, .aload_n 1, 1), (37, .getfield 67, 3), (40, .iload_n 3, 1), (41, .iaload, 1), (42, .idiv, 1), (43, .invokestatic 34, 3), (46, .istore_n 2, 1)] 47 (by decide +kernel) ?_
          refine sb_iload_n rfl ?_
          refine sb_aload_n rfl ?_
          refine ss_getR g3_70 h138 r138_4 ?_
          refine sb_iload_n rfl ?_
          obtain ⟨hgz2, h⟩ := gd h
          refine ss_iald h141 hgz2 ?_
          refine sb_aload_n rfl ?_
          refine ss_getR g3_67 h138 r138_6 ?_
          refine sb_iload_n rfl ?_
          obtain ⟨hgz3, h⟩ := gd h
          refine ss_iald h142 hgz3 ?_
          obtain ⟨hgz4, h⟩ := gd h
          refine sb_idiv hgz4 ?_
          refine sb_min lm3_34 minS maI minC (by decide) rfl ?_
          refine sb_istore_n (by decide) rfl ?_
          refine sb_end ?_
          cases h
          exact rn_sub [1, 2, 3] rfl hJ47
    · clear hl14
      obtain ⟨yz7, hey⟩ : ∃ z, z = e14 := ⟨_, rfl⟩
      subst hey
      show RN P 1 kX3_timesLaid 53 [(2, .int yz7)] [] (S M) r
      refine sb_in [(53, .iload_n 2, 1), (54, .ireturn, 1)] 55 (by decide +kernel) ?_
      refine sb_iload_n rfl ?_
      cases h
      subst hr
      refine sb_ireturn ?_
      exact ⟨.int, rfl, rfl⟩
theorem tfI_timesLaid {P : Px} {M : Mm} {rr : Int32} (h : fI_timesLaid M = some rr) : EX P 1 kX3_timesLaid [.ref 168, .ref 138] (S M) (some (.int rr), S M) := ex_of oX3_timesLaid (Nat.le_of_ble_eq_true rfl) (nfI_timesLaid  h rfl)
set_option maxRecDepth 20000 in
theorem nfK_lays {P : Px} {x1 : Int32} {M : Mm} {rr : Int32} (h : fK_lays x1 M = some rr) {r : Option Value × Sg} (hr : r = (some (.int rr), S M)) : RN P 2 kX11_lays 0 [(0, .ref 0), (1, .int x1)] [] (S M) r := by
  unfold fK_lays at h
  refine sb_in [(0, .iload_n 1, 1), (1, .ifCond .ne 15, 3)] 4 (by decide +kernel) ?_
  refine sb_iload_n rfl ?_
  rcases ife h with ⟨cz5, h⟩ | ⟨cz5, h⟩
  · refine sb_if_ne_f 16 cz5 (by decide) ?_
    refine sb_in [(4, .aload_n 0, 1), (5, .getfield 54, 3), (8, .aload_n 0, 1), (9, .getfield 40, 3), (12, .invokevirtual 294, 3), (15, .ireturn, 1)] 16 (by decide +kernel) ?_
    refine sb_aload_n rfl ?_
    refine ss_getR g11_54 h0 r0_6 ?_
    refine sb_aload_n rfl ?_
    refine ss_getR g11_40 h0 r0_4 ?_
    obtain ⟨qz4, hez3, h⟩ := bd h
    refine sb_callVi 1 rfl oX3_timesLaid ln11_294 vX3_timesLaid (rc_own h168.1 (S_lt h168.2) (by decide)) (rnCk_of (by decide +kernel) rfl) (tfI_timesLaid hez3) ?_
    cases h
    subst hr
    refine sb_ireturn ?_
    exact ⟨.int, rfl, rfl⟩
  · refine sb_if_ne_t 16 cz5 (by decide) ?_
    refine sb_in [(16, .iload_n 1, 1), (17, .iconst 1, 1), (18, .if_icmp .ne 17, 3)] 21 (by decide +kernel) ?_
    refine sb_iload_n rfl ?_
    refine sb_iconst cI1 ?_
    rcases ife h with ⟨cz6, h⟩ | ⟨cz6, h⟩
    · refine sb_icmp_ne_f 35 cz6 (by decide) ?_
      refine sb_in [(21, .aload_n 0, 1), (22, .getfield 54, 3), (25, .aload_n 0, 1), (26, .getfield 40, 3), (29, .invokevirtual 298, 3), (32, .goto 4, 3)] 35 (by decide +kernel) ?_
      refine sb_aload_n rfl ?_
      refine ss_getR g11_54 h0 r0_6 ?_
      refine sb_aload_n rfl ?_
      refine ss_getR g11_40 h0 r0_4 ?_
      obtain ⟨qz2, hez1, h⟩ := bd h
      refine sb_callVi 1 rfl oX3_orders ln11_298 vX3_orders (rc_own h168.1 (S_lt h168.2) (by decide)) (rnCk_of (by decide +kernel) rfl) (tfI_orders hez1) ?_
      refine sb_goto 36 (by decide) ?_
      refine sb_in [(36, .ireturn, 1)] 37 (by decide +kernel) ?_
      cases h
      subst hr
      refine sb_ireturn ?_
      exact ⟨.int, rfl, rfl⟩
    · refine sb_icmp_ne_t 35 cz6 (by decide) ?_
      refine sb_in [(35, .iconst (-1), 1)] 36 (by decide +kernel) ?_
      refine sb_iconst cIm1 ?_
      refine sb_end ?_
      refine sb_in [(36, .ireturn, 1)] 37 (by decide +kernel) ?_
      cases h
      subst hr
      refine sb_ireturn ?_
      exact ⟨.int, rfl, rfl⟩
theorem tfK_lays {P : Px} {x1 : Int32} {M : Mm} {rr : Int32} (h : fK_lays x1 M = some rr) : EX P 2 kX11_lays [.ref 0, .int x1] (S M) (some (.int rr), S M) := ex_of oX11_lays (Nat.le_of_ble_eq_true rfl) (nfK_lays  h rfl)
set_option maxRecDepth 20000 in
theorem nfE_addAnswer {P : Px} {x1 : Int32} {x2 : Int32} {M : Mm} {rr : (Int32 × Mm)} (h : fE_addAnswer x1 x2 M = some rr) {r : Option Value × Sg} (hr : r = (some (.int rr.1), S rr.2)) : RN P 3 kX8_addAnswer 0 [(0, .ref 138), (1, .int x1), (2, .int x2)] [] (S M) r := by
  unfold fE_addAnswer at h
  refine sb_in [(0, .iload_n 1, 1), (1, .iconst (-1), 1), (2, .if_icmp .ne 18, 3)] 5 (by decide +kernel) ?_
  refine sb_iload_n rfl ?_
  refine sb_iconst cIm1 ?_
  rcases ife h with ⟨cz12, h⟩ | ⟨cz12, h⟩
  · refine sb_icmp_ne_f 20 cz12 (by decide) ?_
    refine sb_in [(5, .aload_n 0, 1), (6, .iconst 0, 1), (7, .putfield 53, 3), (10, .aload_n 0, 1), (11, .getfield 24, 3), (14, .iconst 0, 1), (15, .invokestatic 44, 3), (18, .iconst 0, 1), (19, .ireturn, 1)] 20 (by decide +kernel) ?_
    refine sb_aload_n rfl ?_
    refine sb_iconst cI0 ?_
    refine ss_putI p8_53 h138 (by decide) ?_
    refine sb_aload_n rfl ?_
    refine ss_getR g8_24 h138 r138_8 ?_
    refine sb_iconst cI0 ?_
    obtain ⟨Mz11, hez10, h⟩ := bd h
    refine sb_callSv 2 rfl oJ7_fill_53178 ln8_44 vJ7_fill_53178 (rnCk_of (by decide +kernel) rfl) (tfJ_fill_53178 h143 (by decide) hez10) ?_
    refine sb_iconst cI0 ?_
    cases h
    subst hr
    refine sb_ireturn ?_
    exact ⟨.int, rfl, rfl⟩
  · refine sb_icmp_ne_t 20 cz12 (by decide) ?_
    refine sb_in [(20, .iload_n 1, 1), (21, .invokestatic 56, 3), (24, .ifCond .eq 19, 3)] 27 (by decide +kernel) ?_
    refine sb_iload_n rfl ?_
    obtain ⟨qz2, hez1, h⟩ := bd h
    refine sb_callSNi 1 rfl oX11_isKind ln8_56 vX11_isKind (rnCk_of (by decide +kernel) rfl) (tfK_isKind hez1) ?_
    rcases ife h with ⟨cz13, h⟩ | ⟨cz13, h⟩
    · refine sb_if_eq_t 43 cz13 (by decide) ?_
      refine sb_in [(43, .iconst (-1), 1), (44, .ireturn, 1)] 45 (by decide +kernel) ?_
      refine sb_iconst cIm1 ?_
      cases h
      subst hr
      refine sb_ireturn ?_
      exact ⟨.int, rfl, rfl⟩
    · refine sb_if_eq_f 43 cz13 (by decide) ?_
      refine sb_in [(27, .iload_n 2, 1), (28, .invokestatic 56, 3), (31, .ifCond .eq 12, 3)] 34 (by decide +kernel) ?_
      refine sb_iload_n rfl ?_
      obtain ⟨qz4, hez3, h⟩ := bd h
      refine sb_callSNi 1 rfl oX11_isKind ln8_56 vX11_isKind (rnCk_of (by decide +kernel) rfl) (tfK_isKind hez3) ?_
      rcases ife h with ⟨cz14, h⟩ | ⟨cz14, h⟩
      · refine sb_if_eq_t 43 cz14 (by decide) ?_
        refine sb_in [(43, .iconst (-1), 1), (44, .ireturn, 1)] 45 (by decide +kernel) ?_
        refine sb_iconst cIm1 ?_
        cases h
        subst hr
        refine sb_ireturn ?_
        exact ⟨.int, rfl, rfl⟩
      · refine sb_if_eq_f 43 cz14 (by decide) ?_
        refine sb_in [(34, .aload_n 0, 1), (35, .getfield 53, 3), (38, .bipush 12, 2), (40, .if_icmp .lt 5, 3)] 43 (by decide +kernel) ?_
        refine sb_aload_n rfl ?_
        refine ss_getI g8_53 h138 ?_
        refine sb_bipush cB12 ?_
        rcases ife h with ⟨cz15, h⟩ | ⟨cz15, h⟩
        · refine sb_icmp_lt_t 45 cz15 (by decide) ?_
          refine sb_in [(45, .aload_n 0, 1), (46, .getfield 24, 3), (49, .iload_n 1, 1), (50, .bipush 7, 2), (52, .imul, 1), (53, .iload_n 2, 1), (54, .iadd, 1), (55, .dup2, 1), (56, .iaload, 1), (57, .iconst 1, 1), (58, .iadd, 1), (59, .iastore, 1), (60, .aload_n 0, 1), (61, .dup, 1), (62, .getfield 53, 3), (65, .iconst 1, 1), (66, .iadd, 1), (67, .putfield 53, 3), (70, .aload_n 0, 1), (71, .getfield 53, 3), (74, .ireturn, 1)] 75 (by decide +kernel) ?_
          refine sb_aload_n rfl ?_
          refine ss_getR g8_24 h138 r138_8 ?_
          refine sb_iload_n rfl ?_
          refine sb_bipush cB7 ?_
          refine sb_imul ?_
          refine sb_iload_n rfl ?_
          refine sb_iadd ?_
          refine sb_dup2 rfl rfl ?_
          obtain ⟨hgz5, h⟩ := gd h
          refine ss_iald h143 hgz5 ?_
          refine sb_iconst cI1 ?_
          refine sb_iadd ?_
          obtain ⟨hgz7, h⟩ := gd h
          refine ss_iast h143 (by decide) hgz7 ?_
          refine sb_aload_n rfl ?_
          refine sb_dup rfl ?_
          refine ss_getI g8_53 h138 ?_
          refine sb_iconst cI1 ?_
          refine sb_iadd ?_
          refine ss_putI p8_53 h138 (by decide) ?_
          refine sb_aload_n rfl ?_
          refine ss_getI g8_53 h138 ?_
          cases h
          subst hr
          refine sb_ireturn ?_
          exact ⟨.int, rfl, rfl⟩
        · refine sb_icmp_lt_f 45 cz15 (by decide) ?_
          refine sb_in [(43, .iconst (-1), 1), (44, .ireturn, 1)] 45 (by decide +kernel) ?_
          refine sb_iconst cIm1 ?_
          cases h
          subst hr
          refine sb_ireturn ?_
          exact ⟨.int, rfl, rfl⟩
theorem tfE_addAnswer {P : Px} {x1 : Int32} {x2 : Int32} {M : Mm} {rr : (Int32 × Mm)} (h : fE_addAnswer x1 x2 M = some rr) : EX P 3 kX8_addAnswer [.ref 138, .int x1, .int x2] (S M) (some (.int rr.1), S rr.2) := ex_of oX8_addAnswer (Nat.le_of_ble_eq_true rfl) (nfE_addAnswer  h rfl)
set_option maxRecDepth 20000 in
theorem nfK_answer {P : Px} {x1 : Int32} {x2 : Int32} {M : Mm} {rr : (Int32 × Mm)} (h : fK_answer x1 x2 M = some rr) {r : Option Value × Sg} (hr : r = (some (.int rr.1), S rr.2)) : RN P 4 kX11_answer 0 [(0, .ref 0), (1, .int x1), (2, .int x2)] [] (S M) r := by
  unfold fK_answer at h
  refine sb_in [(0, .aload_n 0, 1), (1, .getfield 40, 3), (4, .iload_n 1, 1), (5, .iload_n 2, 1), (6, .invokevirtual 301, 3), (9, .ireturn, 1)] 10 (by decide +kernel) ?_
  refine sb_aload_n rfl ?_
  refine ss_getR g11_40 h0 r0_4 ?_
  refine sb_iload_n rfl ?_
  refine sb_iload_n rfl ?_
  obtain ⟨qz2, hez1, h⟩ := bd h
  refine sb_callVi 2 rfl oX8_addAnswer ln11_301 vX8_addAnswer (rc_own h138.1 (S_lt h138.2) (by decide)) (rnCk_of (by decide +kernel) rfl) (tfE_addAnswer hez1) ?_
  cases h
  subst hr
  refine sb_ireturn ?_
  exact ⟨.int, rfl, rfl⟩
theorem tfK_answer {P : Px} {x1 : Int32} {x2 : Int32} {M : Mm} {rr : (Int32 × Mm)} (h : fK_answer x1 x2 M = some rr) : EX P 4 kX11_answer [.ref 0, .int x1, .int x2] (S M) (some (.int rr.1), S rr.2) := ex_of oX11_answer (Nat.le_of_ble_eq_true rfl) (nfK_answer  h rfl)
set_option maxRecDepth 20000 in
theorem nfI_likelyAnswer {P : Px} {x2 : Int32} {M : Mm} {rr : Int32} (h : fI_likelyAnswer x2 M = some rr) {r : Option Value × Sg} (hr : r = (some (.int rr), S M)) : RN P 1 kX3_likelyAnswer 0 [(0, .ref 168), (1, .ref 138), (2, .int x2)] [] (S M) r := by
  unfold fI_likelyAnswer at h
  refine sb_in [(0, .iconst (-1), 1), (1, .istore_n 3, 1), (2, .iconst 0, 1), (3, .istore 4, 2), (5, .iconst 0, 1), (6, .istore 5, 2)] 8 (by decide +kernel) ?_
  refine sb_iconst cIm1 ?_
  refine sb_istore_n (by decide) rfl ?_
  refine sb_iconst cI0 ?_
  refine sb_istore (by decide) rfl ?_
  refine sb_iconst cI0 ?_
  refine sb_istore (by decide) rfl ?_
  refine sb_end ?_
  obtain ⟨e8, hl8, h⟩ := bd h
  refine rn_sub [1, 2, 3, 4, 5] rfl ?_
  refine lp_ind (P := fun s => RN P 1 kX3_likelyAnswer 8 [(1, .ref 138), (2, .int x2), (3, .int s.1), (4, .int s.2.1), (5, .int s.2.2)] [] (S M) r) (E := fun p => RN P 1 kX3_likelyAnswer 49 [(3, .int p)] [] (S M) r) ?_ _ _ _ hl8 ?_
  · intro s qx h hc
    obtain ⟨x3, x4, x5⟩ := s
    replace h : fI_likelyAnswer_b8 x2 M x3 x4 x5 = some qx := h
    show RN P 1 kX3_likelyAnswer 8 [(1, .ref 138), (2, .int x2), (3, .int x3), (4, .int x4), (5, .int x5)] [] (S M) r
    unfold fI_likelyAnswer_b8 at h
    refine sb_in [(8, .iload 5, 2), (10, .bipush 7, 2), (12, .if_icmp .ge 37, 3)] 15 (by decide +kernel) ?_
    refine sb_iload rfl ?_
    refine sb_bipush cB7 ?_
    rcases ife h with ⟨cz4, h⟩ | ⟨cz4, h⟩
    · refine sb_icmp_ge_t 49 cz4 (by decide) ?_
      cases h
      exact rn_sub [3] rfl hc
    · refine sb_icmp_ge_f 49 cz4 (by decide) ?_
      refine sb_in [(15, .aload_n 1, 1), (16, .getfield 73, 3), (19, .iload_n 2, 1), (20, .bipush 7, 2), (22, .imul, 1), (23, .iload 5, 2), (25, .iadd, 1), (26, .iaload, 1), (27, .istore 6, 2), (29, .iload 6, 2), (31, .iload 4, 2), (33, .if_icmp .le 10, 3)] 36 (by decide +kernel) ?_
      refine sb_aload_n rfl ?_
      refine ss_getR g3_73 h138 r138_8 ?_
      refine sb_iload_n rfl ?_
      refine sb_bipush cB7 ?_
      refine sb_imul ?_
      refine sb_iload rfl ?_
      refine sb_iadd ?_
      obtain ⟨hgz1, h⟩ := gd h
      refine ss_iald h143 hgz1 ?_
      refine sb_istore (by decide) rfl ?_
      refine sb_iload rfl ?_
      refine sb_iload rfl ?_
      have hJ43 : RN P 1 kX3_likelyAnswer 43 [(1, .ref 138), (2, .int x2), (3, .int (if ((M 143 (jix ((x2 * 7) + x5)))) ≤ x4 then x3 else x5)), (4, .int (if ((M 143 (jix ((x2 * 7) + x5)))) ≤ x4 then x4 else ((M 143 (jix ((x2 * 7) + x5)))))), (5, .int x5)] [] (S M) r := by
        refine sb_in [(43, .iinc 5 1, 3), (46, .goto (-38), 3)] 49 (by decide +kernel) ?_
        refine ss_iinc cI1 rfl (by decide) rfl ?_
        refine sb_goto 8 (by decide) ?_
        cases h
        exact rn_sub [1, 2, 3, 4, 5] rfl hc
      rcases Decidable.em (((M 143 (jix ((x2 * 7) + x5)))) ≤ x4) with cz5 | cz5
      · refine sb_icmp_le_t 43 cz5 (by decide) ?_
        have hq := hJ43
        simp only [if_pos cz5] at hq
        exact rn_sub [1, 2, 3, 4, 5] rfl hq
      · refine sb_icmp_le_f 43 cz5 (by decide) ?_
        refine sb_in [(36, .iload 6, 2), (38, .istore 4, 2), (40, .iload 5, 2), (42, .istore_n 3, 1)] 43 (by decide +kernel) ?_
        refine sb_iload rfl ?_
        refine sb_istore (by decide) rfl ?_
        refine sb_iload rfl ?_
        refine sb_istore_n (by decide) rfl ?_
        refine sb_end ?_
        have hq := hJ43
        simp only [if_neg cz5] at hq
        exact rn_sub [1, 2, 3, 4, 5] rfl hq
  · clear hl8
    obtain ⟨yz3, hey⟩ : ∃ z, z = e8 := ⟨_, rfl⟩
    subst hey
    show RN P 1 kX3_likelyAnswer 49 [(3, .int yz3)] [] (S M) r
    refine sb_in [(49, .iload_n 3, 1), (50, .ireturn, 1)] 51 (by decide +kernel) ?_
    refine sb_iload_n rfl ?_
    cases h
    subst hr
    refine sb_ireturn ?_
    exact ⟨.int, rfl, rfl⟩
theorem tfI_likelyAnswer {P : Px} {x2 : Int32} {M : Mm} {rr : Int32} (h : fI_likelyAnswer x2 M = some rr) : EX P 1 kX3_likelyAnswer [.ref 168, .ref 138, .int x2] (S M) (some (.int rr), S M) := ex_of oX3_likelyAnswer (Nat.le_of_ble_eq_true rfl) (nfI_likelyAnswer  h rfl)
set_option maxRecDepth 20000 in
theorem nfI_follows {P : Px} {x2 : Int32} {M : Mm} {rr : Int32} (h : fI_follows x2 M = some rr) {r : Option Value × Sg} (hr : r = (some (.int rr), S M)) : RN P 2 kX3_follows 0 [(0, .ref 168), (1, .ref 138), (2, .int x2)] [] (S M) r := by
  unfold fI_follows at h
  refine sb_in [(0, .iconst 0, 1), (1, .istore_n 3, 1), (2, .iload_n 2, 1), (3, .istore 4, 2), (5, .iconst 0, 1), (6, .istore 5, 2)] 8 (by decide +kernel) ?_
  refine sb_iconst cI0 ?_
  refine sb_istore_n (by decide) rfl ?_
  refine sb_iload_n rfl ?_
  refine sb_istore (by decide) rfl ?_
  refine sb_iconst cI0 ?_
  refine sb_istore (by decide) rfl ?_
  refine sb_end ?_
  obtain ⟨e8, hl8, h⟩ := bd h
  refine rn_sub [0, 1, 3, 4, 5] rfl ?_
  refine lp_ind (P := fun s => RN P 2 kX3_follows 8 [(0, .ref 168), (1, .ref 138), (3, .int s.1), (4, .int s.2.1), (5, .int s.2.2)] [] (S M) r) (E := fun e => match e with | Sum.inl p => RN P 2 kX3_follows 25 [(5, .int p)] [] (S M) r | Sum.inr (Sum.inl p) => RN P 2 kX3_follows 50 [(5, .int p)] [] (S M) r | Sum.inr (Sum.inr p) => RN P 2 kX3_follows 67 [] [] (S M) r) ?_ _ _ _ hl8 ?_
  · intro s qx h hc
    obtain ⟨x3, x4, x5⟩ := s
    replace h : fI_follows_b8 M x3 x4 x5 = some qx := h
    show RN P 2 kX3_follows 8 [(0, .ref 168), (1, .ref 138), (3, .int x3), (4, .int x4), (5, .int x5)] [] (S M) r
    unfold fI_follows_b8 at h
    refine sb_in [(8, .iload 5, 2), (10, .bipush 7, 2), (12, .if_icmp .gt 55, 3)] 15 (by decide +kernel) ?_
    refine sb_iload rfl ?_
    refine sb_bipush cB7 ?_
    rcases ife h with ⟨cz6, h⟩ | ⟨cz6, h⟩
    · refine sb_icmp_gt_t 67 cz6 (by decide) ?_
      cases h
      exact rn_sub [] rfl hc
    · refine sb_icmp_gt_f 67 cz6 (by decide) ?_
      refine sb_in [(15, .iload_n 3, 1), (16, .iload 4, 2), (18, .ishr, 1), (19, .iconst 1, 1), (20, .iand, 1), (21, .iconst 1, 1), (22, .if_icmp .ne 6, 3)] 25 (by decide +kernel) ?_
      refine sb_iload_n rfl ?_
      refine sb_iload rfl ?_
      refine sb_ishr ?_
      refine sb_iconst cI1 ?_
      refine sb_iand ?_
      refine sb_iconst cI1 ?_
      rcases ife h with ⟨cz7, h⟩ | ⟨cz7, h⟩
      · refine sb_icmp_ne_f 28 cz7 (by decide) ?_
        cases h
        exact rn_sub [5] rfl hc
      · refine sb_icmp_ne_t 28 cz7 (by decide) ?_
        refine sb_in [(28, .iload_n 3, 1), (29, .iconst 1, 1), (30, .iload 4, 2), (32, .ishl, 1), (33, .ior, 1), (34, .istore_n 3, 1), (35, .aload_n 0, 1), (36, .aload_n 1, 1), (37, .iload 4, 2), (39, .invokevirtual 76, 3), (42, .istore 4, 2), (44, .iload 4, 2), (46, .iconst (-1), 1), (47, .if_icmp .ne 14, 3)] 50 (by decide +kernel) ?_
        refine sb_iload_n rfl ?_
        refine sb_iconst cI1 ?_
        refine sb_iload rfl ?_
        refine sb_ishl ?_
        refine sb_ior ?_
        refine sb_istore_n (by decide) rfl ?_
        refine sb_aload_n rfl ?_
        refine sb_aload_n rfl ?_
        refine sb_iload rfl ?_
        obtain ⟨qz3, hez2, h⟩ := bd h
        refine sb_callVi 2 rfl oX3_likelyAnswer ln3_76 vX3_likelyAnswer (rc_own h168.1 (S_lt h168.2) (by decide)) (rnCk_of (by decide +kernel) rfl) (tfI_likelyAnswer hez2) ?_
        refine sb_istore (by decide) rfl ?_
        refine sb_iload rfl ?_
        refine sb_iconst cIm1 ?_
        rcases ife h with ⟨cz8, h⟩ | ⟨cz8, h⟩
        · refine sb_icmp_ne_f 61 cz8 (by decide) ?_
          cases h
          exact rn_sub [5] rfl hc
        · refine sb_icmp_ne_t 61 cz8 (by decide) ?_
          refine sb_in [(61, .iinc 5 1, 3), (64, .goto (-56), 3)] 67 (by decide +kernel) ?_
          refine ss_iinc cI1 rfl (by decide) rfl ?_
          refine sb_goto 8 (by decide) ?_
          cases h
          exact rn_sub [0, 1, 3, 4, 5] rfl hc
  · clear hl8
    rcases e8 with e8 | e8 | e8
    · skip
      obtain ⟨yz4, hey⟩ : ∃ z, z = e8 := ⟨_, rfl⟩
      subst hey
      show RN P 2 kX3_follows 25 [(5, .int yz4)] [] (S M) r
      refine sb_in [(25, .iload 5, 2), (27, .ireturn, 1)] 28 (by decide +kernel) ?_
      refine sb_iload rfl ?_
      cases h
      subst hr
      refine sb_ireturn ?_
      exact ⟨.int, rfl, rfl⟩
    · skip
      obtain ⟨yz5, hey⟩ : ∃ z, z = e8 := ⟨_, rfl⟩
      subst hey
      show RN P 2 kX3_follows 50 [(5, .int yz5)] [] (S M) r
      refine sb_in [(50, .iload 5, 2), (52, .ifCond .ne 7, 3)] 55 (by decide +kernel) ?_
      refine sb_iload rfl ?_
      rcases ife h with ⟨cz9, h⟩ | ⟨cz9, h⟩
      · refine sb_if_ne_f 59 cz9 (by decide) ?_
        refine sb_in [(55, .iconst 0, 1), (56, .goto 4, 3)] 59 (by decide +kernel) ?_
        refine sb_iconst cI0 ?_
        refine sb_goto 60 (by decide) ?_
        refine sb_in [(60, .ireturn, 1)] 61 (by decide +kernel) ?_
        cases h
        subst hr
        refine sb_ireturn ?_
        exact ⟨.int, rfl, rfl⟩
      · refine sb_if_ne_t 59 cz9 (by decide) ?_
        refine sb_in [(59, .iconst (-1), 1)] 60 (by decide +kernel) ?_
        refine sb_iconst cIm1 ?_
        refine sb_end ?_
        refine sb_in [(60, .ireturn, 1)] 61 (by decide +kernel) ?_
        cases h
        subst hr
        refine sb_ireturn ?_
        exact ⟨.int, rfl, rfl⟩
    · skip
      show RN P 2 kX3_follows 67 [] [] (S M) r
      refine sb_in [(67, .iconst (-1), 1), (68, .ireturn, 1)] 69 (by decide +kernel) ?_
      refine sb_iconst cIm1 ?_
      cases h
      subst hr
      refine sb_ireturn ?_
      exact ⟨.int, rfl, rfl⟩
theorem tfI_follows {P : Px} {x2 : Int32} {M : Mm} {rr : Int32} (h : fI_follows x2 M = some rr) : EX P 2 kX3_follows [.ref 168, .ref 138, .int x2] (S M) (some (.int rr), S M) := ex_of oX3_follows (Nat.le_of_ble_eq_true rfl) (nfI_follows  h rfl)
set_option maxRecDepth 20000 in
theorem nfK_likely {P : Px} {x1 : Int32} {x2 : Int32} {M : Mm} {rr : Int32} (h : fK_likely x1 x2 M = some rr) {r : Option Value × Sg} (hr : r = (some (.int rr), S M)) : RN P 3 kX11_likely 0 [(0, .ref 0), (1, .int x1), (2, .int x2)] [] (S M) r := by
  unfold fK_likely at h
  refine sb_in [(0, .iload_n 1, 1), (1, .invokestatic 118, 3), (4, .ifCond .eq 12, 3)] 7 (by decide +kernel) ?_
  refine sb_iload_n rfl ?_
  obtain ⟨qz2, hez1, h⟩ := bd h
  refine sb_callSi 1 rfl oX11_isKind ln11_118 vX11_isKind (rnCk_of (by decide +kernel) rfl) (tfK_isKind hez1) ?_
  rcases ife h with ⟨cz8, h⟩ | ⟨cz8, h⟩
  · refine sb_if_eq_t 16 cz8 (by decide) ?_
    refine sb_in [(16, .iconst (-1), 1), (17, .ireturn, 1)] 18 (by decide +kernel) ?_
    refine sb_iconst cIm1 ?_
    cases h
    subst hr
    refine sb_ireturn ?_
    exact ⟨.int, rfl, rfl⟩
  · refine sb_if_eq_f 16 cz8 (by decide) ?_
    refine sb_in [(7, .iload_n 2, 1), (8, .iconst 0, 1), (9, .iconst 1, 1), (10, .invokestatic 91, 3), (13, .ifCond .ne 5, 3)] 16 (by decide +kernel) ?_
    refine sb_iload_n rfl ?_
    refine sb_iconst cI0 ?_
    refine sb_iconst cI1 ?_
    refine sb_callSi 3 rfl oX11_isWithin ln11_91 vX11_isWithin (rnCk_of (by decide +kernel) rfl) (tfK_isWithin) ?_
    rcases ife h with ⟨cz9, h⟩ | ⟨cz9, h⟩
    · refine sb_if_ne_f 18 cz9 (by decide) ?_
      refine sb_in [(16, .iconst (-1), 1), (17, .ireturn, 1)] 18 (by decide +kernel) ?_
      refine sb_iconst cIm1 ?_
      cases h
      subst hr
      refine sb_ireturn ?_
      exact ⟨.int, rfl, rfl⟩
    · refine sb_if_ne_t 18 cz9 (by decide) ?_
      refine sb_in [(18, .iload_n 2, 1), (19, .ifCond .ne 18, 3)] 22 (by decide +kernel) ?_
      refine sb_iload_n rfl ?_
      rcases ife h with ⟨cz10, h⟩ | ⟨cz10, h⟩
      · refine sb_if_ne_f 37 cz10 (by decide) ?_
        refine sb_in [(22, .aload_n 0, 1), (23, .getfield 54, 3), (26, .aload_n 0, 1), (27, .getfield 40, 3), (30, .iload_n 1, 1), (31, .invokevirtual 304, 3), (34, .goto 15, 3)] 37 (by decide +kernel) ?_
        refine sb_aload_n rfl ?_
        refine ss_getR g11_54 h0 r0_6 ?_
        refine sb_aload_n rfl ?_
        refine ss_getR g11_40 h0 r0_4 ?_
        refine sb_iload_n rfl ?_
        obtain ⟨qz7, hez6, h⟩ := bd h
        refine sb_callVi 2 rfl oX3_likelyAnswer ln11_304 vX3_likelyAnswer (rc_own h168.1 (S_lt h168.2) (by decide)) (rnCk_of (by decide +kernel) rfl) (tfI_likelyAnswer hez6) ?_
        refine sb_goto 49 (by decide) ?_
        refine sb_in [(49, .ireturn, 1)] 50 (by decide +kernel) ?_
        cases h
        subst hr
        refine sb_ireturn ?_
        exact ⟨.int, rfl, rfl⟩
      · refine sb_if_ne_t 37 cz10 (by decide) ?_
        refine sb_in [(37, .aload_n 0, 1), (38, .getfield 54, 3), (41, .aload_n 0, 1), (42, .getfield 40, 3), (45, .iload_n 1, 1), (46, .invokevirtual 307, 3)] 49 (by decide +kernel) ?_
        refine sb_aload_n rfl ?_
        refine ss_getR g11_54 h0 r0_6 ?_
        refine sb_aload_n rfl ?_
        refine ss_getR g11_40 h0 r0_4 ?_
        refine sb_iload_n rfl ?_
        obtain ⟨qz5, hez4, h⟩ := bd h
        refine sb_callVi 2 rfl oX3_follows ln11_307 vX3_follows (rc_own h168.1 (S_lt h168.2) (by decide)) (rnCk_of (by decide +kernel) rfl) (tfI_follows hez4) ?_
        refine sb_end ?_
        refine sb_in [(49, .ireturn, 1)] 50 (by decide +kernel) ?_
        cases h
        subst hr
        refine sb_ireturn ?_
        exact ⟨.int, rfl, rfl⟩
theorem tfK_likely {P : Px} {x1 : Int32} {x2 : Int32} {M : Mm} {rr : Int32} (h : fK_likely x1 x2 M = some rr) : EX P 3 kX11_likely [.ref 0, .int x1, .int x2] (S M) (some (.int rr), S M) := ex_of oX11_likely (Nat.le_of_ble_eq_true rfl) (nfK_likely  h rfl)
set_option maxRecDepth 20000 in
theorem nfY_newBox {P : Px} {x1 : Int32} {x2 : Int32} {M : Mm} {rr : (Int32 × Mm)} (h : fY_newBox x1 x2 M = some rr) {r : Option Value × Sg} (hr : r = (some (.int rr.1), S rr.2)) : RN P 3 kX9_newBox 0 [(0, .ref 173), (1, .int x1), (2, .int x2), (3, .ref 123)] [] (S M) r := by
  unfold fY_newBox at h
  refine sb_in [(0, .aload_n 0, 1), (1, .iload_n 2, 1), (2, .aload_n 3, 1), (3, .invokevirtual 43, 3), (6, .ldc 55, 2), (8, .istore 4, 2), (10, .iconst (-1), 1), (11, .istore 5, 2), (13, .iconst 0, 1), (14, .istore 6, 2)] 16 (by decide +kernel) ?_
  refine sb_aload_n rfl ?_
  refine sb_iload_n rfl ?_
  refine sb_aload_n rfl ?_
  obtain ⟨Mz2, hez1, h⟩ := bd h
  refine sb_callVv 2 rfl oX9_measure ln9_43 vX9_measure (rc_own h173.1 (S_lt h173.2) (by decide)) (rnCk_of (by decide +kernel) rfl) (tfY_measure hez1) ?_
  refine sb_ldc (v := 1000000) rfl ?_
  refine sb_istore (by decide) rfl ?_
  refine sb_iconst cIm1 ?_
  refine sb_istore (by decide) rfl ?_
  refine sb_iconst cI0 ?_
  refine sb_istore (by decide) rfl ?_
  refine sb_end ?_
  obtain ⟨e16, hl16, h⟩ := bd h
  refine rn_sub [0, 1, 2, 4, 5, 6] rfl ?_
  refine lp_ind (P := fun s => RN P 3 kX9_newBox 16 [(0, .ref 173), (1, .int x1), (2, .int x2), (4, .int s.1), (5, .int s.2.1), (6, .int s.2.2)] [] (S Mz2) r) (E := fun p => RN P 3 kX9_newBox 81 [(1, .int x1), (4, .int p.1), (5, .int p.2)] [] (S Mz2) r) ?_ _ _ _ hl16 ?_
  · intro s qx h hc
    obtain ⟨x4, x5, x6⟩ := s
    replace h : fY_newBox_b16 x1 x2 Mz2 x4 x5 x6 = some qx := h
    show RN P 3 kX9_newBox 16 [(0, .ref 173), (1, .int x1), (2, .int x2), (4, .int x4), (5, .int x5), (6, .int x6)] [] (S Mz2) r
    generalize Mz2 = M at h hc ⊢
    unfold fY_newBox_b16 at h
    refine sb_in [(16, .iload 6, 2), (18, .iload_n 2, 1), (19, .if_icmp .ge 62, 3)] 22 (by decide +kernel) ?_
    refine sb_iload rfl ?_
    refine sb_iload_n rfl ?_
    rcases ife h with ⟨cz8, h⟩ | ⟨cz8, h⟩
    · refine sb_icmp_ge_t 81 cz8 (by decide) ?_
      cases h
      exact rn_sub [1, 4, 5] rfl hc
    · refine sb_icmp_ge_f 81 cz8 (by decide) ?_
      refine sb_in [(22, .iconst 0, 1), (23, .istore 7, 2), (25, .iconst 0, 1), (26, .istore 8, 2)] 28 (by decide +kernel) ?_
      refine sb_iconst cI0 ?_
      refine sb_istore (by decide) rfl ?_
      refine sb_iconst cI0 ?_
      refine sb_istore (by decide) rfl ?_
      refine sb_end ?_
      obtain ⟨e28, hl28, h⟩ := bd h
      refine rn_sub [0, 1, 2, 4, 5, 6, 7, 8] rfl ?_
      refine lp_ind (P := fun s => RN P 3 kX9_newBox 28 [(0, .ref 173), (1, .int x1), (2, .int x2), (4, .int x4), (5, .int x5), (6, .int x6), (7, .int s.1), (8, .int s.2)] [] (S M) r) (E := fun p => RN P 3 kX9_newBox 60 [(0, .ref 173), (1, .int x1), (2, .int x2), (4, .int x4), (5, .int x5), (6, .int x6), (7, .int p)] [] (S M) r) ?_ _ _ _ hl28 ?_
      · intro s qx h hc
        obtain ⟨x7, x8⟩ := s
        replace h : fY_newBox_b28 x1 x2 x4 x5 x6 M x7 x8 = some qx := h
        show RN P 3 kX9_newBox 28 [(0, .ref 173), (1, .int x1), (2, .int x2), (4, .int x4), (5, .int x5), (6, .int x6), (7, .int x7), (8, .int x8)] [] (S M) r
        unfold fY_newBox_b28 at h
        refine sb_in [(28, .iload 8, 2), (30, .iload_n 2, 1), (31, .if_icmp .ge 29, 3)] 34 (by decide +kernel) ?_
        refine sb_iload rfl ?_
        refine sb_iload_n rfl ?_
        rcases ife h with ⟨cz9, h⟩ | ⟨cz9, h⟩
        · refine sb_icmp_ge_t 60 cz9 (by decide) ?_
          cases h
          exact rn_sub [0, 1, 2, 4, 5, 6, 7] rfl hc
        · refine sb_icmp_ge_f 60 cz9 (by decide) ?_
          refine sb_in [(34, .iload 7, 2), (36, .aload_n 0, 1), (37, .getfield 11, 3), (40, .iload 6, 2), (42, .bipush 12, 2), (44, .imul, 1), (45, .iload 8, 2), (47, .iadd, 1), (48, .iaload, 1), (49, .invokestatic 77, 3), (52, .istore 7, 2), (54, .iinc 8 1, 3), (57, .goto (-29), 3)] 60 (by decide +kernel) ?_
          refine sb_iload rfl ?_
          refine sb_aload_n rfl ?_
          refine ss_getR g9_11 h173 r173_0 ?_
          refine sb_iload rfl ?_
          refine sb_bipush cB12 ?_
          refine sb_imul ?_
          refine sb_iload rfl ?_
          refine sb_iadd ?_
          obtain ⟨hgz3, h⟩ := gd h
          refine ss_iald h174 hgz3 ?_
          refine sb_max lm9_77 maxS maI maxC (by decide) rfl ?_
          refine sb_istore (by decide) rfl ?_
          refine ss_iinc cI1 rfl (by decide) rfl ?_
          refine sb_goto 28 (by decide) ?_
          cases h
          exact rn_sub [0, 1, 2, 4, 5, 6, 7, 8] rfl hc
      · clear hl28
        obtain ⟨yz5, hey⟩ : ∃ z, z = e28 := ⟨_, rfl⟩
        subst hey
        show RN P 3 kX9_newBox 60 [(0, .ref 173), (1, .int x1), (2, .int x2), (4, .int x4), (5, .int x5), (6, .int x6), (7, .int yz5)] [] (S M) r
        refine sb_in [(60, .iload 7, 2), (62, .iload 4, 2), (64, .if_icmp .ge 11, 3)] 67 (by decide +kernel) ?_
        refine sb_iload rfl ?_
        refine sb_iload rfl ?_
        have hJ75 : RN P 3 kX9_newBox 75 [(0, .ref 173), (1, .int x1), (2, .int x2), (4, .int (if x4 ≤ yz5 then x4 else yz5)), (5, .int (if x4 ≤ yz5 then x5 else x6)), (6, .int x6)] [] (S M) r := by
          refine sb_in [(75, .iinc 6 1, 3), (78, .goto (-62), 3)] 81 (by decide +kernel) ?_
          refine ss_iinc cI1 rfl (by decide) rfl ?_
          refine sb_goto 16 (by decide) ?_
          cases h
          exact rn_sub [0, 1, 2, 4, 5, 6] rfl hc
        rcases Decidable.em (x4 ≤ yz5) with cz10 | cz10
        · refine sb_icmp_ge_t 75 cz10 (by decide) ?_
          have hq := hJ75
          simp only [if_pos cz10] at hq
          exact rn_sub [0, 1, 2, 4, 5, 6] rfl hq
        · refine sb_icmp_ge_f 75 cz10 (by decide) ?_
          refine sb_in [(67, .iload 7, 2), (69, .istore 4, 2), (71, .iload 6, 2), (73, .istore 5, 2)] 75 (by decide +kernel) ?_
          refine sb_iload rfl ?_
          refine sb_istore (by decide) rfl ?_
          refine sb_iload rfl ?_
          refine sb_istore (by decide) rfl ?_
          refine sb_end ?_
          have hq := hJ75
          simp only [if_neg cz10] at hq
          exact rn_sub [0, 1, 2, 4, 5, 6] rfl hq
  · clear hl16
    obtain ⟨yz6, yz7⟩ := e16
    show RN P 3 kX9_newBox 81 [(1, .int x1), (4, .int yz6), (5, .int yz7)] [] (S Mz2) r
    refine sb_in [(81, .iload_n 1, 1), (82, .ifCond .eq 14, 3)] 85 (by decide +kernel) ?_
    refine sb_iload_n rfl ?_
    rcases ife h with ⟨cz11, h⟩ | ⟨cz11, h⟩
    · refine sb_if_eq_t 96 cz11 (by decide) ?_
      refine sb_in [(96, .iload 5, 2)] 98 (by decide +kernel) ?_
      refine sb_iload rfl ?_
      refine sb_end ?_
      refine sb_in [(98, .ireturn, 1)] 99 (by decide +kernel) ?_
      cases h
      subst hr
      refine sb_ireturn ?_
      exact ⟨.int, rfl, rfl⟩
    · refine sb_if_eq_f 96 cz11 (by decide) ?_
      refine sb_in [(85, .iload 5, 2), (87, .iconst (-1), 1), (88, .if_icmp .eq 8, 3)] 91 (by decide +kernel) ?_
      refine sb_iload rfl ?_
      refine sb_iconst cIm1 ?_
      rcases ife h with ⟨cz12, h⟩ | ⟨cz12, h⟩
      · refine sb_icmp_eq_t 96 cz12 (by decide) ?_
        refine sb_in [(96, .iload 5, 2)] 98 (by decide +kernel) ?_
        refine sb_iload rfl ?_
        refine sb_end ?_
        refine sb_in [(98, .ireturn, 1)] 99 (by decide +kernel) ?_
        cases h
        subst hr
        refine sb_ireturn ?_
        exact ⟨.int, rfl, rfl⟩
      · refine sb_icmp_eq_f 96 cz12 (by decide) ?_
        refine sb_in [(91, .iload 4, 2), (93, .goto 5, 3)] 96 (by decide +kernel) ?_
        refine sb_iload rfl ?_
        refine sb_goto 98 (by decide) ?_
        refine sb_in [(98, .ireturn, 1)] 99 (by decide +kernel) ?_
        cases h
        subst hr
        refine sb_ireturn ?_
        exact ⟨.int, rfl, rfl⟩
theorem tfY_newBox {P : Px} {x1 : Int32} {x2 : Int32} {M : Mm} {rr : (Int32 × Mm)} (h : fY_newBox x1 x2 M = some rr) : EX P 3 kX9_newBox [.ref 173, .int x1, .int x2, .ref 123] (S M) (some (.int rr.1), S rr.2) := ex_of oX9_newBox (Nat.le_of_ble_eq_true rfl) (nfY_newBox  h rfl)
end RnT
