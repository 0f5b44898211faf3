section RnDesk2
variable {P : Px} {M : Mm}
theorem desk_ne (hM : M 0 8 = 0) : (fK_theDesk M) 0 8 = 1 := by simp [fK_theDesk, hM]
theorem desk_eq (hM : ¬ M 0 8 = 0) : fK_theDesk M = M := by simp [fK_theDesk, hM]
theorem nKd118 : ¬ rnKd 11 8 < 2 := by decide +kernel
set_option maxRecDepth 20000 in
theorem tfK_theDesk : EX P 2 kX11_theDesk [.ref 0] (S M) (some (.ref 252), S (fK_theDesk M)) := by
  refine ex_of oX11_theDesk (Nat.le_of_ble_eq_true rfl) ?_
  show RN P 2 kX11_theDesk 0 [(0, .ref 0)] [] (S M) (some (.ref 252), S (fK_theDesk M))
  by_cases hM : M 0 8 = 0
  · have hx : (S M).2.2 = 252 := by show nxm M = 252; unfold nxm; rw [if_pos hM]
    refine sb_in [(0, .aload_n 0, 1), (1, .getfield 63, 3), (4, .arraylength, 1), (5, .ifCond .ne 12, 3)] 8 (by decide +kernel) ?_
    refine sb_aload_n rfl ?_
    refine sb_getR (b := 177) g11_63.1 h0.1 (S_lt h0.2) g11_63.2 (by show rfm M 0 8 = some 177; unfold rfm; rw [if_pos ⟨rfl, rfl⟩, if_pos hM]) ?_
    refine sb_alen (t := 20) h177.1 (S_lt h177.2) (Or.inl rfl) nL0 ?_
    refine sb_if_ne_f 17 rfl (by decide) ?_
    refine sb_in [(8, .aload_n 0, 1), (9, .sipush 10025, 3), (12, .newarray .int, 2), (14, .putfield 63, 3)] 17 (by decide +kernel) ?_
    refine sb_aload_n rfl ?_
    refine sb_sipush cS10025 ?_
    refine sb_newI (n := 10025) (by rw [hx]; decide +kernel) iL10025.1 (by decide) (by rw [hx]; decide) ar_int ?_
    refine sb_putR (n := 15) g11_63.1 h0.1 (by show 0 < (S M).2.2 + 1; omega) (by decide +kernel) ?_
    refine sb_end ?_
    refine rn_conv (σ2 := S (fK_theDesk M)) ?_ ?_ ?_
    · show nxm (fK_theDesk M) = (S M).2.2 + 1
      rw [hx]; unfold nxm; rw [if_neg (by rw [desk_ne hM]; decide)]
    · intro X a ha
      have ha : a < (S M).2.2 + 1 := ha
      rw [hx] at ha
      by_cases h252 : a = 252
      · subst h252
        have hs : rnSh 252 = (20, 10025) := by decide +kernel
        rw [rnE_i hs, rnE_i hs]
        have : (S (fK_theDesk M)).1 252 = (alc (S M)).1 252 := by
          funext k
          show fK_theDesk M 252 k = (if 252 = (S M).2.2 then (fun _ => (0 : Int32)) else M 252) k
          rw [hx]; simp [fK_theDesk, hM]
        rw [this]
      · by_cases h00 : a = 0
        · subst h00
          rw [rnE_o h0.1 (by decide), rnE_o h0.1 (by decide)]
          congr 2
          apply List.map_congr_left
          intro k _
          unfold rnFv
          by_cases hk : rnKd 11 k < 2
          · rw [if_pos hk, if_pos hk]
            have hk8 : k ≠ 8 := fun e => nKd118 (e ▸ hk)
            show Value.int (fK_theDesk M 0 k) = Value.int ((if 0 = (S M).2.2 then (fun _ => (0 : Int32)) else M 0) k)
            rw [hx]; simp [fK_theDesk, hM, hk8]
          · rw [if_neg hk, if_neg hk]
            show va_rf ((rfm (fK_theDesk M) 0 k).map _) = va_rf ((rput (fun b => if b = (S M).2.2 then (fun _ => none) else rfm M b) 0 8 (S M).2.2 0 k).map _)
            congr 2
            rw [hx]
            by_cases hk8 : k = 8
            · subst hk8
              simp [rput, rfm, desk_ne hM]
            · simp [rput, rfm, hk8]
        · refine rnE_congr ?_ ?_
          · funext k
            show fK_theDesk M a k = (if a = (S M).2.2 then (fun _ => (0 : Int32)) else M a) k
            rw [hx]; simp [fK_theDesk, hM, h252, h00]
          · funext k
            show rfm (fK_theDesk M) a k = rput (fun b => if b = (S M).2.2 then (fun _ => none) else rfm M b) 0 8 (S M).2.2 a k
            rw [hx]
            simp [rput, rfm, h00, h252]
    · refine sb_in [(17, .aload_n 0, 1), (18, .getfield 63, 3), (21, .areturn, 1)] 22 (by decide +kernel) ?_
      refine sb_aload_n rfl ?_
      refine sb_getR (b := 252) g11_63.1 h0.1 (S_lt h0.2) g11_63.2 (by show rfm (fK_theDesk M) 0 8 = some 252; unfold rfm; rw [if_pos ⟨rfl, rfl⟩, if_neg (by rw [desk_ne hM]; decide)]) ?_
      refine sb_areturn ?_
      exact ⟨.int, rfl⟩
  · rw [desk_eq hM]
    have hx : (S M).2.2 = 253 := by show nxm M = 253; unfold nxm; rw [if_neg hM]
    have hr : (S M).2.1 0 8 = some 252 := by show rfm M 0 8 = some 252; unfold rfm; rw [if_pos ⟨rfl, rfl⟩, if_neg hM]
    refine sb_in [(0, .aload_n 0, 1), (1, .getfield 63, 3), (4, .arraylength, 1), (5, .ifCond .ne 12, 3)] 8 (by decide +kernel) ?_
    refine sb_aload_n rfl ?_
    refine sb_getR (b := 252) g11_63.1 h0.1 (S_lt h0.2) g11_63.2 hr ?_
    refine sb_alen (t := 20) (n := 10025) (by decide +kernel) (by rw [hx]; decide) (Or.inl rfl) nL10025 ?_
    refine sb_if_ne_t 17 (by decide) (by decide) ?_
    refine sb_in [(17, .aload_n 0, 1), (18, .getfield 63, 3), (21, .areturn, 1)] 22 (by decide +kernel) ?_
    refine sb_aload_n rfl ?_
    refine sb_getR (b := 252) g11_63.1 h0.1 (S_lt h0.2) g11_63.2 hr ?_
    refine sb_areturn ?_
    exact ⟨.int, rfl⟩
end RnDesk2
