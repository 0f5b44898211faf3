section PmLawRun
theorem law_run  {L : Nat} {xs : Nat → Int32} {M : Mm} (hL : L ≤ 3072) (hR : RR M M) (hc : CN 0 M) :
    ∃ M', fZ_law L xs M = some (1, M') := by
  have Lp : Go (lp 1000000 (fun s => fZ_law_b18 L xs s.1 s.2) (0, M)) (fun y => ∃ M', y = (Sum.inr (Sum.inr (Sum.inr (Sum.inr (Sum.inr (Sum.inr (Sum.inr (Sum.inr (Sum.inr (Sum.inr (Sum.inr (Sum.inr (Sum.inr (Sum.inr (Sum.inr (Sum.inr (Sum.inr (Sum.inr (Sum.inr (Sum.inr (Sum.inr (Sum.inr (Sum.inr (Sum.inr (Sum.inr (Sum.inr (Sum.inr (Sum.inr (Sum.inr (Sum.inr (Sum.inr (Sum.inr (Sum.inr (Sum.inr (Sum.inr (Sum.inr M'))))))))))))))))))))))))))))))))))))) := by
    refine go_for (fun j s => ∃ M', s = (nI (6 * j), M') ∧ RR M' M' ∧ CN (1000 * j) M') (L / 6) ?_ ?_ (i := 0) (by omega) ⟨M, rfl, hR, hc⟩ (by omega)
    · rintro s ⟨M', rfl, h1, h2⟩
      unfold fZ_law_b18
      refine Go.yes ?_ (Go.some ⟨M', rfl⟩)
      show nI L - 6 < nI (6 * (L / 6))
      rw [i32_lt, show (6 : Int32) = nI 6 from rfl, pk_sub_toInt (by omega) (by omega), nI_toInt' (by omega)]
      omega
    · rintro j s hj ⟨M', rfl, h1, h2⟩
      refine (law_step  (i := 6 * j) (N := 1000 * j) hL (by omega) h1 (by omega) h2).mono fun r q => ?_
      obtain ⟨M2, rfl, q1, q2⟩ := q
      exact ⟨M2, by rw [show 6 * j + 6 = 6 * (j + 1) by omega], q1, by rw [show 1000 * (j + 1) = 1000 * j + 1000 by omega]; exact q2⟩
  obtain ⟨y, e, M', rfl⟩ := Lp
  refine ⟨M', ?_⟩
  unfold fZ_law
  rw [e]
  rfl
end PmLawRun
