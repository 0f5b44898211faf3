section PmCond3
def pK (A : Mm) (w : Nat) (v : Int32) (i : Nat) : Mm := mput (mput (mput A 167 w v) 146 7 (nI (w + 1))) 146 4 (nI (i + 1))
def pM (B : Mm) (w : Nat) (v : Int32) : Mm := mput (mput B 232 w v) 217 27 (nI (w + 1))
theorem putOff_eq {A : Mm} {w i : Nat} (v : Int32) (hw : w < 32) (h7 : A 146 7 = nI w) (h4 : A 146 4 = nI i) : fR_putOff v A = some (pK A w v i) := by
  refine Go.eq ?_
  unfold fR_putOff pK
  have e7 : mput A 167 w v 146 7 = nI w := by rw [mput_r (by omega)]; exact h7
  have e4 : mput (mput A 167 w v) 146 7 (nI (w + 1)) 146 4 = nI i := by rw [mput_s (by omega), mput_r (by omega)]; exact h4
  rw [h7, jix_nI (by omega)]
  refine go_bind.mpr ?_
  refine Go.no (by rw [(lit_nI _ : (32 : Int32) = nI 32), nI_le' (by omega) (by omega)]; omega) ?_
  refine Go.gd ((inb_nI (by omega)).mpr hw) ?_
  refine Go.some ?_
  refine Go.some ?_
  rw [e7, nI_1, e4, nI_1]
theorem waits_eq {B : Mm} {w : Nat} (v : Int32) (hw : w < 40) (h7 : B 217 27 = nI w) : fM_waits v B = some (pM B w v) := by
  refine Go.eq ?_
  unfold fM_waits pM
  have e7 : mput B 232 w v 217 27 = nI w := by rw [mput_r (by omega)]; exact h7
  rw [h7, jix_nI (by omega)]
  refine Go.gd ((inb_nI (by omega)).mpr hw) ?_
  refine Go.some ?_
  rw [e7, nI_1]
theorem cF_pK (A : Mm) (w : Nat) (v : Int32) (i : Nat) : cF A (pK A w v i) := (((cF.rfl' A).put (by omega)).put (by omega)).put (by omega)
theorem dF_pM (B : Mm) (w : Nat) (v : Int32) : dF B (pM B w v) := ((dF.rfl' B).put (by omega)).put (by omega)
theorem push_go {A B : Mm} {b : Nat → Nat} {L : Nat} {f : FG} {i n x : Nat} {V v v' : List Nat} (hL : L ≤ 400) (o : okW (x :: V)) (o8 : opn (x :: V) ≤ 8) (sk : SK A V) (sm : SM B V) (a7 : A 146 7 = nI V.length) (b7 : B 217 27 = nI V.length) (a8 : A 146 8 = nI (opn (x :: V))) (b8 : B 217 25 = nI (opn (x :: V))) (s : ST A B b L i n f (v ++ List.replicate (bin V) 1)) (e : v ++ List.replicate (bin V) 1 = v' ++ List.replicate (bin (x :: V)) 1) (nn : n + nb V ≤ i) (hi : i < cs b L) :
    Go (fM_reads (pM B V.length (mo x))) (fun B' => CS (pK A V.length (kc x) i) B' b L f (i + 1) n (x :: V) v' ∧ dF B B') := by
  have s1 : ST (mput (mput A 167 V.length (kc x)) 146 7 (nI (V.length + 1))) (pM B V.length (mo x)) b L i n f (v ++ List.replicate (bin V) 1) := s.fr (fun c k p q => by rw [mput_q (by omega), mput_q (by omega)]) (fun c k p q => by unfold pM; rw [mput_q (by omega), mput_q (by omega)])
  refine (s1.adv hL hi).mono fun B' hB => ⟨⟨o, o8, ⟨?_, ?_⟩, ⟨?_, ?_⟩, ?_, ?_, ?_, ?_, ?_, ?_⟩, ?_⟩
  · unfold pK; rw [mput_r (by omega), mput_r (by omega), mput_same]
  · refine SK_cg (fun k hk => ?_) sk
    unfold pK; rw [mput_r (by omega), mput_r (by omega), mput_s (by omega)]
  · rw [hB.2 232 _ (by omega)]; unfold pM; rw [mput_r (by omega), mput_same]
  · refine SM_cg (fun k hk => ?_) sm
    rw [hB.2 232 _ (by omega)]; unfold pM; rw [mput_r (by omega), mput_s (by omega)]
  · unfold pK; rw [mput_s (by omega), mput_same]; rfl
  · rw [hB.2 217 27 (by omega)]; unfold pM; rw [mput_same]; rfl
  · unfold pK; rw [mput_s (by omega), mput_s (by omega), mput_r (by omega)]; exact a8
  · rw [hB.2 217 25 (by omega)]; unfold pM; rw [mput_s (by omega), mput_r (by omega)]; exact b8
  · rw [← e]; exact hB.1
  · rw [nb_c]
    split <;> omega
  · exact (dF_pM B _ _).trans hB.2.d
theorem cK_exit {A B : Mm} {b : Nat → Nat} {L i j p : Nat} (hL : L ≤ 400) (ps : PS A B b L i) (hj : j ≤ 8) (h : j = 8 ∨ A 163 i ≠ nI 41) : cK (p + 1) j A = fR_goesOn A := by
  unfold cK
  have : fR_closeAll_b2 (nI j) A = some (Sum.inr (Sum.inr A)) := by
    refine Go.eq ?_
    unfold fR_closeAll_b2
    by_cases z : j = 8
    · refine Go.yes (by rw [z]; exact i32_le.mpr (Int.le_refl _)) ?_
      refine Go.some ?_
      rfl
    · rw [sort_ok hL ps]
      refine Go.no (by rw [(lit_nI _ : (8 : Int32) = nI 8), nI_le' (by omega) (by omega)]; omega) ?_
      refine go_bind.mpr ?_
      refine Go.some ?_
      refine Go.no (h.elim (fun q => absurd q z) id) ?_
      refine Go.some ?_
      rfl
  rw [lpx_inr p (f := fun s => fR_closeAll_b2 s.1 s.2) (s := (nI j, A)) this]
  rfl
theorem wq_4 : (nI (wq 4) : Int32) = 4 := by decide
theorem wq_5 : (nI (wq 5) : Int32) = 5 := by decide
theorem brk_K (t : Nat) (ht : 1 ≤ t) (W : List Nat) : brk (popK t W) = brk W := by
  have : brk W = brk (plK t W) + brk (popK t W) := by conv => lhs; rw [split_K t W, brk_app]
  rw [(nb_pl ht W).2] at this
  omega
theorem brk_opn : ∀ W : List Nat, brk W ≤ opn W
  | [] => Nat.le_refl _
  | x :: V => by
    have := brk_opn V
    rw [brk_c, opn_c]
    by_cases z : x = 0
    · rw [if_pos z, if_pos (Or.inl z)]; omega
    · rw [if_neg z]; split <;> omega
/-- what the condition's reading comes to -/
def afP (A B : Mm) (b : Nat → Nat) (L : Nat) (f : FG) (i : Nat) (q : Int32) (A' : Mm) (wl m : Nat) (run : Option (Mm ⊕ Mm ⊕ Mm ⊕ Mm)) : Prop :=
  cF A A' ∧ ((q = 1 ∧ ∃ m' B' i' n' W', m ≤ m' + wl + 1 ∧ run = lp m' (fun s => fM_readAny_b9 s.1 s.2.1 s.2.2) (nI (brk W'), 1, B') ∧ CS A' B' b L f i' n' W' [] ∧ i < i' ∧ dF B B') ∨ (q = 0 ∧ ∃ y B', run = some y ∧ dF B B' ∧ ((y = Sum.inr (Sum.inr (Sum.inl B')) ∧ ∃ i' n', i ≤ i' ∧ ST A' B' b L i' n' f [1] ∧ n' ≤ i' ∧ B' 217 25 = 0) ∨ (y = Sum.inr (Sum.inr (Sum.inr B')) ∧ FLT A' (fM_errs 1 B').2 ∧ Flt A'))))
theorem after_go {b : Nat → Nat} {L : Nat} {f : FG} (hL : L ≤ 400) : ∀ N (W : List Nat), W.length < N → ∀ {A B : Mm} {i n j p m : Nat}, NS A B b L f i n W → j + opn W ≤ 8 → 8 < p + j → W.length + 1 < m → ∃ q A', cK p j A = some (q, A') ∧ afP A B b L f i q A' W.length m (lp m (fun s => fM_readAny_b9 s.1 s.2.1 s.2.2) (nI (brk W), 0, B)) := by
  intro N
  induction N with
  | zero => intro W hW; omega
  | succ N ih =>
    intro W hW A B i n j p m h hj hp hm
    obtain ⟨m, rfl⟩ : ∃ k, m = k + 1 := ⟨m - 1, by omega⟩
    obtain ⟨p, rfl⟩ : ∃ k, p = k + 1 := ⟨p - 1, by omega⟩
    have ps := h.ps
    have ow := h.1
    have ow8 := h.2.1
    have lW := ok_len ow ow8
    have bo := brk_opn W
    have cL := cs_le b L
    have wd5 : fM_isWord 5 B = if A 163 i = nI 261 then 1 else 0 := by
      have := word_i hL ps (k := 5) (by omega)
      rw [wq_5] at this; exact this
    have wd4 : fM_isWord 4 B = if A 163 i = nI 260 then 1 else 0 := by
      have := word_i hL ps (k := 4) (by omega)
      rw [wq_4] at this; exact this
    by_cases q5 : A 163 i = nI 261
    · obtain ⟨A1, B1, n', k1, k2, cs1, e1, f1⟩ := both_and hL h
      obtain ⟨o, o8, sk, sm, a7, b7, a8, b8, s, nn⟩ := cs1
      have lV := ok_len o o8
      have iN := not_end hL ps (by rw [q5]; decide)
      have op : opn (2 :: popK 2 W) = opn (popK 2 W) := rfl
      obtain ⟨B3, r3, c3, m3⟩ := push_go (x := 2) (v := [1]) (v' := []) hL ⟨o, by omega, fun q => by omega, fun _ => by have := hd_K 2 (by omega) W; omega⟩ (by rw [op]; exact o8) sk sm a7 b7 (by rw [op]; exact a8) (by rw [op]; exact b8) s rfl nn iN
      refine ⟨1, pK A1 (popK 2 W).length (kc 2) i, ?_, e1.trans (cF_pK _ _ _ _), Or.inl ⟨rfl, m, B3, i + 1, n', 2 :: popK 2 W, by omega, ?_, c3, by omega, f1.trans m3⟩⟩
      · rw [cK_exit hL ps (by omega) (Or.inr (by rw [q5]; decide))]
        refine Go.eq ?_
        unfold fR_goesOn
        rw [sort_ok hL ps, k1]
        refine go_bind.mpr ?_
        refine Go.some ?_
        refine Go.yes (q5) ?_
        refine go_bind.mpr ?_
        refine Go.some ?_
        refine go_bind.mpr ?_
        rw [show (20002 : Int32) = kc 2 from rfl, putOff_eq (kc 2) (by omega) a7 s.1.2.2.2.1]
        refine Go.some ?_
        refine Go.some ?_
        rfl
      · refine (lpx_inl m (t := (nI (brk W), 1, B3)) ?_).trans ?_
        · refine Go.eq ?_
          unfold fM_readAny_b9
          dsimp only
          rw [wd5, k2]
          refine Go.yes (by first | rfl | (simp; done)) ?_
          refine Go.no (by rw [if_pos q5]; decide) ?_
          refine go_bind.mpr ?_
          refine Go.some ?_
          refine go_bind.mpr ?_
          rw [show (10 : Int32) = mo 2 from rfl, waits_eq (mo 2) (by omega) b7]
          refine Go.some ?_
          refine go_bind.mpr ?_
          refine ⟨B3, r3, ?_⟩
          refine Go.some ?_
          rfl
        · rw [brk_c, if_neg (by omega), brk_K 2 (by omega)]; rfl
    by_cases q4 : A 163 i = nI 260
    · obtain ⟨A1, B1, B2, n', k1, k2, k3, cs1, e1, f1⟩ := both_or hL h
      obtain ⟨o, o8, sk, sm, a7, b7, a8, b8, s, nn⟩ := cs1
      have lV := ok_len o o8
      have iN := not_end hL ps (by rw [q4]; decide)
      have op : opn (1 :: popK 1 W) = opn (popK 1 W) := rfl
      have a163 : A1 163 i = A 163 i := e1 163 i (by omega)
      obtain ⟨B3, r3, c3, m3⟩ := push_go (x := 1) (v := [1]) (v' := []) hL ⟨o, by omega, fun _ => by have := hd_K 1 (by omega) W; omega, fun q => by omega⟩ (by rw [op]; exact o8) sk sm a7 b7 (by rw [op]; exact a8) (by rw [op]; exact b8) s rfl nn iN
      refine ⟨1, pK A1 (popK 1 W).length (kc 1) i, ?_, e1.trans (cF_pK _ _ _ _), Or.inl ⟨rfl, m, B3, i + 1, n', 1 :: popK 1 W, by omega, ?_, c3, by omega, f1.trans m3⟩⟩
      · rw [cK_exit hL ps (by omega) (Or.inr (by rw [q4]; decide))]
        refine Go.eq ?_
        unfold fR_goesOn
        rw [sort_ok hL ps, k1]
        refine go_bind.mpr ?_
        refine Go.some ?_
        refine Go.no (by rw [q4]; decide) ?_
        refine go_bind.mpr ?_
        refine Go.some ?_
        refine go_bind.mpr ?_
        rw [sort_ok hL s.1, show (20001 : Int32) = kc 1 from rfl, putOff_eq (kc 1) (by omega) a7 s.1.2.2.2.1]
        refine Go.some ?_
        refine Go.yes (by rw [a163, q4]; rfl) ?_
        refine go_bind.mpr ?_
        refine Go.some ?_
        refine Go.some ?_
        rfl
      · refine (lpx_inl m (t := (nI (brk W), 1, B3)) ?_).trans ?_
        · refine Go.eq ?_
          unfold fM_readAny_b9
          dsimp only
          rw [wd5, wd4, k2]
          refine Go.yes (by first | rfl | (simp; done)) ?_
          refine Go.yes (by rw [if_neg q5]) ?_
          refine Go.no (by rw [if_pos q4]; decide) ?_
          refine go_bind.mpr ?_
          refine Go.some ?_
          refine go_bind.mpr ?_
          rw [k3]
          refine Go.some ?_
          refine go_bind.mpr ?_
          rw [show (11 : Int32) = mo 1 from rfl, waits_eq (mo 1) (by omega) b7]
          refine Go.some ?_
          refine go_bind.mpr ?_
          refine ⟨B3, r3, ?_⟩
          refine Go.some ?_
          rfl
        · rw [brk_c, if_neg (by omega), brk_K 1 (by omega)]; rfl
    obtain ⟨A1, B1, B2, n', k1, k2, k3, cs1, e1, f1⟩ := both_or hL h
    have hV := hd_K 1 (by omega) W
    have bV := brk_K 1 (by omega) W
    have lenW : W.length = (plK 1 W).length + (popK 1 W).length := by conv => lhs; rw [split_K 1 W, List.length_append]
    have opW : opn W = opn (plK 1 W) + opn (popK 1 W) := by conv => lhs; rw [split_K 1 W, opn_app]
    generalize popK 1 W = V at cs1 hV bV lenW opW
    obtain ⟨o, o8, sk, sm, a7, b7, a8, b8, s, nn⟩ := cs1
    have a163 : A1 163 i = A 163 i := e1 163 i (by omega)
    have ps1 := s.1
    have sg : fM_isSign 41 B2 = if A 163 i = nI 41 then 1 else 0 := by
      have := sign_i hL ps1 (c := 41) (by omega) (by omega)
      rw [a163] at this; exact this
    cases V with
    | nil =>
      have bz : brk W = 0 := bV.symm
      have run : lp (m + 1) (fun s => fM_readAny_b9 s.1 s.2.1 s.2.2) (nI (brk W), 0, B) = some (Sum.inr (Sum.inr (Sum.inl B2))) := by
        refine lpx_inr m ?_
        refine Go.eq ?_
        unfold fM_readAny_b9
        dsimp only
        rw [wd5, wd4, k2]
        refine Go.yes (by first | rfl | (simp; done)) ?_
        refine Go.yes (by rw [if_neg q5]) ?_
        refine Go.yes (by rw [if_neg q4]) ?_
        refine go_bind.mpr ?_
        refine Go.some ?_
        refine go_bind.mpr ?_
        rw [k3]
        refine Go.some ?_
        refine Go.yes (by rw [bz]; rfl) ?_
        refine Go.some ?_
        rfl
      by_cases ex : j = 8 ∨ A 163 i ≠ nI 41
      · refine ⟨0, A1, ?_, e1, Or.inr ⟨rfl, _, B2, run, f1, Or.inl ⟨rfl, i, n', Nat.le_refl _, s, by have : nb [] = 0 := rfl; omega, b8⟩⟩⟩
        rw [cK_exit hL ps (by omega) ex]
        refine Go.eq ?_
        unfold fR_goesOn
        rw [sort_ok hL ps, k1]
        refine go_bind.mpr ?_
        refine Go.some ?_
        refine Go.no (q5) ?_
        refine go_bind.mpr ?_
        refine Go.some ?_
        refine go_bind.mpr ?_
        rw [sort_ok hL ps1]
        refine Go.some ?_
        refine Go.no (by rw [a163]; exact q4) ?_
        refine Go.yes (by rw [a7]; decide) ?_
        refine Go.some ?_
        rfl
      · have ex1 : ¬ j = 8 := fun q => ex (Or.inl q)
        have ex2 : A 163 i = nI 41 := Classical.byContradiction fun q => ex (Or.inr q)
        obtain ⟨A2, A2e, x7, x8, xf⟩ := settle_go (A := A1) (W := []) (t := 1) (n := n') (Or.inl rfl) trivial (by show 0 ≤ 32; omega) trivial a7 a8 s.2.1.1 (by have : nb [] = 0 := rfl; have := s.1.2.2.2.2.2; omega)
        have xf : ∀ c k, ¬ (c = 146 ∧ (k = 7 ∨ k = 8)) → A2 c k = A1 c k := xf
        have s2 : ST A2 B2 b L i n' f [1] := s.fr (fun c k p q => xf c k (by omega)) (fun _ _ _ _ => rfl)
        have e2 : cF A1 A2 := fun c k q => xf c k (by omega)
        refine ⟨0, A2, ?_, e1.trans e2, Or.inr ⟨rfl, _, B2, run, f1, Or.inl ⟨rfl, i, n', Nat.le_refl _, s2, by have : nb [] = 0 := rfl; omega, b8⟩⟩⟩
        unfold cK
        have st : fR_closeAll_b2 (nI j) A = some (Sum.inr (Sum.inl A1)) := by
          refine Go.eq ?_
          unfold fR_closeAll_b2
          rw [sort_ok hL ps, k1]
          refine Go.no (by rw [(lit_nI _ : (8 : Int32) = nI 8), nI_le' (by omega) (by omega)]; omega) ?_
          refine go_bind.mpr ?_
          refine Go.some ?_
          refine Go.yes (ex2) ?_
          refine go_bind.mpr ?_
          refine Go.some ?_
          refine Go.yes (by rw [a7]; rfl) ?_
          refine Go.some ?_
          rfl
        rw [lpx_inr p (f := fun s => fR_closeAll_b2 s.1 s.2) (s := (nI j, A)) st]
        refine Go.eq ?_
        refine go_bind.mpr ?_
        refine Go.some ?_
        show Go (fR_goesOn A1) (fun b => b = (0, A2))
        unfold fR_goesOn
        have A2e : fR_settle 20001 A1 = some A2 := A2e
        rw [sort_ok hL ps1, A2e]
        refine go_bind.mpr ?_
        refine Go.some ?_
        refine Go.no (by rw [a163]; exact q5) ?_
        refine go_bind.mpr ?_
        refine Go.some ?_
        refine go_bind.mpr ?_
        rw [sort_ok hL s2.1]
        refine Go.some ?_
        refine Go.no (by rw [xf 163 i (by omega), a163]; exact q4) ?_
        refine Go.yes (by rw [x7]; decide) ?_
        refine Go.some ?_
        rfl
    | cons x V =>
      have hx : x = 0 := by have hV : x < 1 := hV; omega
      subst hx
      have bp : brk W = brk V + 1 := by rw [← bV, brk_c, if_pos rfl]
      have oV : opn (0 :: V) = opn V + 1 := by rw [opn_c, if_pos (Or.inl rfl)]
      rw [List.length_cons] at lenW
      by_cases q1 : A 163 i = nI 41
      · have iN := not_end hL ps (by rw [q1]; decide)
        have ys := nb_plE (t := 3) (by omega) V
        have w3 := split_E 3 V
        have nbV : nb V = (plE 3 V).length + nb (popE 3 V) := by conv => lhs; rw [w3, nb_app, ys.1]
        have bnV : bin V = bin (popE 3 V) := by conv => lhs; rw [w3, bin_app, nb_3, Nat.zero_add]
        have nb0 : nb (0 :: V) = nb V := rfl
        have bn0 : bin (0 :: V) = bin V := rfl
        have lnV := ok_len o o8
        rw [List.length_cons] at lnV a7 b7
        rw [bn0] at s lnV
        have sI := s.1.2.2.2.2.2
        -- the model's pop and its nots
        have c27 : mput (mput B2 217 27 (nI V.length)) 217 25 (nI (opn V)) 217 27 = nI V.length := by rw [mput_s (by omega), mput_same]
        have c25 : mput (mput B2 217 27 (nI V.length)) 217 25 (nI (opn V)) 217 25 = nI (opn V) := mput_same _ _ _ _
        have c24 : mput (mput B2 217 27 (nI V.length)) 217 25 (nI (opn V)) 217 24 = nI n' := by rw [mput_s (by omega), mput_s (by omega)]; exact s.2.1.2.1
        obtain ⟨B4, B4e, z7, z8, zf⟩ := settles_go (B := mput (mput B2 217 27 (nI V.length)) 217 25 (nI (opn V))) (W := V) (t := 3) (n := n') (by omega) (by omega) o.1 (by omega) (SM_cg (B := B2) (fun k hk => by rw [mput_r (by omega), mput_r (by omega)]) sm.2) c27 c25 c24 (by omega)
        have em := ST.emits (plE 3 V) (n := n') (m := bin V) (fun y hy => by rw [mem_E hy]; omega) (by omega) (by rw [nb_3]; omega) (by rw [nb_3, Nat.zero_add]; exact s)
        have mB : dF B2 (mput (mput B2 217 27 (nI V.length)) 217 25 (nI (opn V))) := ((dF.rfl' B2).put (by omega)).put (by omega)
        have emB : ∀ c k, ¬ (c = 217 ∧ 25 ≤ k ∧ k ≤ 29) → B4 c k = emM B2 n' (plE 3 V) c k := fun c k q => by
          rw [zf c k (by omega)]
          have : ∀ (xs : List Nat) (B B' : Mm) (n : Nat), (∀ c k, ¬ (c = 217 ∧ 25 ≤ k ∧ k ≤ 29) → B' c k = B c k) → ∀ c k, ¬ (c = 217 ∧ 25 ≤ k ∧ k ≤ 29) → emM B' n xs c k = emM B n xs c k := by
            intro xs
            induction xs with
            | nil => intro B B' n hB c k q; exact hB c k q
            | cons y ys ih =>
              intro B B' n hB c k q
              refine ih (bEm B n (mo y) 0) (bEm B' n (mo y) 0) (n + 1) (fun c k q => ?_) c k q
              unfold bEm
              by_cases w1 : c = 217 ∧ k = 24
              · rw [w1.1, w1.2, mput_same, mput_same]
              · rw [mput_q w1, mput_q w1]
                by_cases w2 : c = 231 ∧ k = 800 + n
                · rw [w2.1, w2.2, mput_same, mput_same]
                · rw [mput_q w2, mput_q w2]
                  by_cases w3 : c = 230 ∧ k = 800 + n
                  · rw [w3.1, w3.2, mput_same, mput_same]
                  · rw [mput_q w3, mput_q w3]; exact hB c k q
          exact this (plE 3 V) B2 _ n' (fun c k q => by rw [mput_q (by omega), mput_q (by omega)]) c k q
        have s4 : ST (mput (mput (emK A1 n' (plE 3 V)) 146 7 (nI V.length)) 146 8 (nI (opn V))) B4 b L i (n' + (plE 3 V).length) f (1 :: List.replicate (bin V) 1) := em.fr (fun c k p q => by rw [mput_q (by omega), mput_q (by omega)]) (fun c k p q => emB c k (by omega))
        obtain ⟨B5, B5e, s5, fr5⟩ := s4.adv hL iN
        -- the reader's
        have ns : NS (mput (mput (mput A1 146 7 (nI V.length)) 146 8 (nI (opn V))) 146 4 (nI (i + 1))) B5 b L f (i + 1) n' V := by
          refine ⟨o.1, by omega, SK_cg (fun k hk => by rw [mput_r (by omega), mput_r (by omega), mput_r (by omega)]) sk.2, by rw [mput_s (by omega), mput_s (by omega), mput_same], by rw [mput_s (by omega), mput_same], by rw [mput_r (by omega), mput_r (by omega), mput_r (by omega)]; exact s.2.1.1, by omega, ?_, ?_, ?_, ?_⟩
          · rw [emK_mput, emK_mput, emK_mput]; exact s5
          · refine SM_cg (B := B2) (fun k hk => ?_) (SM_app (X := plE 3 V) (by rw [← split_E]; exact sm.2))
            rw [fr5 232 k (by omega), emB 232 k (by omega), emM_fr _ B2 _ 232 k (by omega)]
          · rw [fr5 217 27 (by omega)]; exact z7
          · rw [fr5 217 25 (by omega)]; exact z8
        have eA : cF A (mput (mput (mput A1 146 7 (nI V.length)) 146 8 (nI (opn V))) 146 4 (nI (i + 1))) := ((e1.put (by omega)).put (by omega)).put (by omega)
        have mB5 : dF B B5 := (f1.trans (mB.trans (fun c k q => by rw [zf c k (by omega)]; exact emM_fr _ _ _ c k (by omega)))).trans fr5.d
        obtain ⟨q, A', cq, ef, af⟩ := ih V (by omega) (j := j + 1) (p := p) (m := m) ns (by omega) (by omega) (by omega)
        have st : fR_closeAll_b2 (nI j) A = some (Sum.inl (nI (j + 1), mput (mput (mput A1 146 7 (nI V.length)) 146 8 (nI (opn V))) 146 4 (nI (i + 1)))) := by
          refine Go.eq ?_
          unfold fR_closeAll_b2
          rw [sort_ok hL ps, k1]
          refine Go.no (by rw [(lit_nI _ : (8 : Int32) = nI 8), nI_le' (by omega) (by omega)]; omega) ?_
          refine go_bind.mpr ?_
          refine Go.some ?_
          refine Go.yes (q1) ?_
          refine go_bind.mpr ?_
          refine Go.some ?_
          refine Go.no (by rw [a7, ← nI_zero, nI_eq' (by omega) (by omega)]; omega) ?_
          refine Go.some ?_
          have d7 : A1 146 7 - 1 = nI V.length := by rw [a7, (lit_nI _ : (1 : Int32) = nI 1), nI_sub' (by omega), Nat.add_sub_cancel]
          have d8 : mput A1 146 7 (nI V.length) 146 8 - 1 = nI (opn V) := by rw [mput_s (by omega), a8, oV, (lit_nI _ : (1 : Int32) = nI 1), nI_sub' (by omega), Nat.add_sub_cancel]
          have d4 : mput (mput A1 146 7 (nI V.length)) 146 8 (nI (opn V)) 146 4 + 1 = nI (i + 1) := by rw [mput_s (by omega), mput_s (by omega), ps1.2.2.2.1, nI_1]
          rw [d7, d8, d4, nI_1]
        have run : lp (m + 1) (fun s => fM_readAny_b9 s.1 s.2.1 s.2.2) (nI (brk W), 0, B) = lp m (fun s => fM_readAny_b9 s.1 s.2.1 s.2.2) (nI (brk V), 0, B5) := by
          refine lpx_inl m ?_
          refine Go.eq ?_
          unfold fM_readAny_b9
          dsimp only
          rw [wd5, wd4, k2]
          refine Go.yes (by first | rfl | (simp; done)) ?_
          refine Go.yes (by rw [if_neg q5]) ?_
          refine Go.yes (by rw [if_neg q4]) ?_
          refine go_bind.mpr ?_
          refine Go.some ?_
          refine go_bind.mpr ?_
          rw [k3]
          refine Go.some ?_
          refine Go.no (by rw [bp, ← nI_zero, nI_eq' (by omega) (by omega)]; omega) ?_
          refine Go.no (by rw [sg, if_pos q1]; decide) ?_
          refine go_bind.mpr ?_
          have d7 : B2 217 27 - 1 = nI V.length := by rw [b7, (lit_nI _ : (1 : Int32) = nI 1), nI_sub' (by omega), Nat.add_sub_cancel]
          have d8 : mput B2 217 27 (nI V.length) 217 25 - 1 = nI (opn V) := by rw [mput_s (by omega), b8, oV, (lit_nI _ : (1 : Int32) = nI 1), nI_sub' (by omega), Nat.add_sub_cancel]
          have d1 : nI (brk W) - 1 = nI (brk V) := by rw [bp, (lit_nI _ : (1 : Int32) = nI 1), nI_sub' (by omega), Nat.add_sub_cancel]
          rw [d7, d8, d1]
          refine ⟨B4, B4e, ?_⟩
          refine go_bind.mpr ?_
          refine ⟨B5, B5e, ?_⟩
          refine Go.some ?_
          rfl
        refine ⟨q, A', ?_, eA.trans ef, ?_⟩
        · rw [← cq]
          unfold cK
          rw [lpx_inl p (f := fun s => fR_closeAll_b2 s.1 s.2) (s := (nI j, A)) st]
        · rw [run]
          rcases af with ⟨rfl, m', B', i', n2, W', h1, h2, h3, h4, h5⟩ | ⟨rfl, y, B', h1, h2, h3⟩
          · exact Or.inl ⟨rfl, m', B', i', n2, W', by omega, h2, h3, by omega, mB5.trans h5⟩
          · refine Or.inr ⟨rfl, y, B', h1, mB5.trans h2, ?_⟩
            rcases h3 with ⟨r1, i', n2, r2, r3, r4⟩ | r
            · exact Or.inl ⟨r1, i', n2, by omega, r3, r4⟩
            · exact Or.inr r
      · have run : lp (m + 1) (fun s => fM_readAny_b9 s.1 s.2.1 s.2.2) (nI (brk W), 0, B) = some (Sum.inr (Sum.inr (Sum.inr B2))) := by
          refine lpx_inr m ?_
          refine Go.eq ?_
          unfold fM_readAny_b9
          dsimp only
          rw [wd5, wd4, k2]
          refine Go.yes (by first | rfl | (simp; done)) ?_
          refine Go.yes (by rw [if_neg q5]) ?_
          refine Go.yes (by rw [if_neg q4]) ?_
          refine go_bind.mpr ?_
          refine Go.some ?_
          refine go_bind.mpr ?_
          rw [k3]
          refine Go.some ?_
          refine Go.no (by rw [bp, ← nI_zero, nI_eq' (by omega) (by omega)]; omega) ?_
          refine Go.yes (by rw [sg, if_neg q1]) ?_
          refine Go.some ?_
          rfl
        refine ⟨0, bA A1 1 (B2 217 12), ?_, e1.trans (eF_bA _ _ _).c, Or.inr ⟨rfl, _, B2, run, f1, Or.inr ⟨rfl, flt_bA (by decide), Flt_bA (by decide) s.2.1.1 s.2.1.2.2.1⟩⟩⟩
        rw [cK_exit hL ps (by omega) (Or.inr q1)]
        refine Go.eq ?_
        unfold fR_goesOn
        rw [sort_ok hL ps, k1]
        refine go_bind.mpr ?_
        refine Go.some ?_
        refine Go.no (q5) ?_
        refine go_bind.mpr ?_
        refine Go.some ?_
        refine go_bind.mpr ?_
        rw [sort_ok hL ps1, blame_ok 1 hL ps1]
        have lnV := ok_len o o8
        rw [List.length_cons] at a7 lnV
        refine Go.some ?_
        refine Go.no (by rw [a163]; exact q4) ?_
        refine Go.no (by rw [a7, ← nI_zero, nI_le' (by omega) (by omega)]; omega) ?_
        refine go_bind.mpr ?_
        refine Go.some ?_
        refine Go.some ?_
        rfl
end PmCond3
