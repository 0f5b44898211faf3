section PmWalk
variable {L : Nat} {xs : Nat → Int32} {r : Option Value × Sg}
theorem law_walk0 (k : RN ((L, xs) : Px) 13 kL_law 16 [(0, .ref 1002), (1, .ref 0), (2, .ref 217)] [] (S (cM 173)) r) : RN ((L, xs) : Px) 13 kL_law 0 [(0, .ref 1002)] [] (T 0 0 0) r := by
  refine sb_in [(0, .new 7, 3), (3, .dup, 1), (4, .invokespecial 9, 3), (7, .astore_n 1, 1), (8, .new 10, 3), (11, .dup, 1), (12, .invokespecial 12, 3), (15, .astore_n 2, 1)] 16 (by decide +kernel) ?_
  refine ct_new (ci := 11) (N := 15) 1 rfl (by decide +kernel) (by decide +kernel) (by decide +kernel) (by decide +kernel) (by decide +kernel) ?_
  refine sb_dup rfl ?_
  refine sb_callI 0 rfl oX11_init ln13_9 vX11_init rfl rfl (rnCk_of (by decide +kernel) rfl) cX11_init_0 ?_
  refine sb_astore_n (by decide) rfl ?_
  refine ct_new (ci := 12) (N := 64) 218 rfl (by decide +kernel) (by decide +kernel) (by decide +kernel) (by decide +kernel) (by decide +kernel) ?_
  refine sb_dup rfl ?_
  refine sb_callI 0 rfl oX12_init ln13_12 vX12_init rfl rfl (rnCk_of (by decide +kernel) rfl) cX12_init_217 ?_
  refine sb_astore_n (by decide) rfl ?_
  refine sb_end ?_
  exact rn_conv (σ2 := S (cM 173)) init_nx (fun X a ha => init_E X a ha) k
theorem law_from0 (hL : L ≤ 3072) : ∃ M' : Mm, RN ((L, xs) : Px) 13 kL_law 0 [(0, .ref 1002)] [] (T 0 0 0) (some (.int 1), S M') := by
  obtain ⟨M', h⟩ := law_run (xs := xs) hL init_RR init_CN
  exact ⟨M', law_walk0 (nfZ_law h rfl)⟩
end PmWalk
