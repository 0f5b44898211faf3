section PmShort4
theorem sim_shortest {A B : Mm} (x y : Int32) (h : RR A B) : Sim A B (fK_shortest x y A) (fM_shortest x y B) := by
  have h0 := h
  obtain ⟨⟨n, ⟨⟨ml, _, _, ⟨hn, hA2, -⟩, ⟨hm, hA8, h10, -, hL⟩, -⟩, h6, -⟩, -⟩, ⟨-, -, -, ⟨-, hst⟩⟩, -⟩ := h0
  have hA2 : A 2 0 = nI n := hA2
  have hA8 : A 8 0 = nI ml := hA8
  have h6' : mput B 217 0 0 217 6 = nI n := by rw [mput_s (by omega)]; exact h6
  unfold Sim fK_shortest fM_shortest
  simp only [isIn_eq]
  rcases isDoor_eq hn hA2 h6' x with ⟨i1, i2, x0, hx, rfl⟩ | ⟨i1, i2⟩
  rotate_left
  · rw [i1, i2]
    refine go_bind.mpr ?_
    refine Go.some ?_
    refine Go.yes (rfl) ?_
    refine Go.some ?_
    refine Go.yes (rfl) ?_
    refine Go.some ?_
    exact ⟨rfl, fin_0 h⟩
  rw [i1, i2]
  rcases within_nI1 y (a := 0) (b := 1) (by omega) (by omega) with ⟨q', z, -, hz, rfl⟩ | ⟨q', -⟩
  rotate_left
  · have q' : fK_isWithin y 0 1 = 0 := q'
    refine go_bind.mpr ?_
    refine Go.some ?_
    refine Go.no (by decide) ?_
    refine Go.yes (q') ?_
    refine Go.some ?_
    refine Go.no (by decide) ?_
    refine Go.yes (q') ?_
    refine Go.some ?_
    exact ⟨rfl, fin_0 h⟩
  have q' : fK_isWithin (nI z) 0 1 = 1 := q'
  have dk : ∀ c k, c ≠ 252 → ¬ (c = 0 ∧ k = 8) → fK_theDesk A c k = A c k := fun c k a b => desk_r a b
  have dk8 := desk_8 A
  have a10 : ∀ i, i < ml → fK_theDesk A 10 i = B 218 (55 + 5 * i) := fun i hi => by rw [dk 10 i (by omega) (by omega)]; exact (hL i hi).2.1
  have cc : ∀ q, cnt (fK_theDesk A 10) (nI q) ml = cnt (fun i => mput B 217 0 0 218 (55 + 5 * i)) (nI q) ml := fun q => cnt_congr fun i hi => by
    rw [a10 i hi, mput_r (by omega)]
  obtain ⟨D, hDe⟩ : ∃ D : Nat → Int32, ∀ q, D q = if q ≠ x0 ∧ cnt (fK_theDesk A 10) (nI q) ml ≠ 0 then 1 else 0 := ⟨fun q => if q ≠ x0 ∧ cnt (fK_theDesk A 10) (nI q) ml ≠ 0 then 1 else 0, fun _ => rfl⟩
  obtain ⟨e, e1, e2⟩ := goK (A := fK_theDesk A) (D := D) (if nI z = 1 then (1 : Int32) else 0) hn hx hm (by rw [dk 2 0 (by omega) (by omega)]; exact hA2) (by rw [dk 8 0 (by omega) (by omega)]; exact hA8) hDe
  obtain ⟨B1, B1e, B42, B239, B1f⟩ := goM (B := mput B 217 0 0) (D := D) hn hx hm h6' (by rw [mput_r (by omega)]; exact h10) (fun q => by rw [hDe, cc q])
  have cl := cq_le D n
  have fB1 : FB bR B B1 := fun c k e => by
    have c239 : c ≠ 239 := fun q => by subst q; exact absurd e (by rw [show bR 239 k = false from rfl]; decide)
    rw [B1f c k c239 (fun q => by obtain ⟨rfl, rfl⟩ := q; exact absurd e (by decide))]
    exact fb_put (fb_rfl bR B) rfl c k e
  have fA1 : ∀ {A1 : Mm}, (∀ c, c ≠ 175 → A1 c = fK_theDesk A c) → FB aR A A1 := fun {A1} q c k e => by
    have c175 : c ≠ 175 := fun q => by subst q; exact absurd e (by rw [show aR 175 k = false from rfl]; decide)
    have c252 : c ≠ 252 := fun q => by subst q; exact absurd e (by rw [show aR 252 k = false from rfl]; decide)
    rw [q c c175]
    exact dk c k c252 (fun q => by obtain ⟨rfl, rfl⟩ := q; exact absurd e (by decide))
  unfold fY_walkAll
  refine go_bind.mpr ?_
  refine Go.some ?_
  refine Go.no (by decide) ?_
  refine Go.no (by rw [q']; decide) ?_
  refine go_bind.mpr ?_
  refine go_bind.mpr ?_
  refine ⟨e, e1, ?_⟩
  rcases e2 with ⟨c8, A1, rfl, A1f⟩ | ⟨c8, A1, rfl, A175, A1f⟩
  · dsimp only
    refine Go.some ?_
    refine Go.some ?_
    refine Go.no (by decide) ?_
    refine Go.no (by rw [q']; decide) ?_
    refine go_bind.mpr ?_
    refine ⟨B1, B1e, ?_⟩
    refine Go.no (by rw [B42, (lit_nI _ : (8 : Int32) = nI 8), nI_le' (by omega) (by omega)]; omega) ?_
    refine Go.some ?_
    exact ⟨rfl, fin_r h (fA1 A1f) fB1⟩
  dsimp only
  have hz2 : z = 0 ∨ z = 1 := by omega
  have b8 : B1 217 42 ≤ 8 := by rw [B42, (lit_nI _ : (8 : Int32) = nI 8), nI_le' (by omega) (by omega)]; exact c8
  by_cases m0 : cq D n = 0
  · refine Go.yes (by rw [m0]; rfl) ?_
    have b0 : B1 217 42 = 0 := by rw [B42, m0]; rfl
    rcases hz2 with rfl | rfl
    · refine Go.yes (by first | rfl | (simp; done)) ?_
      refine Go.some ?_
      refine Go.some ?_
      refine Go.no (by decide) ?_
      refine Go.no (by rw [q']; decide) ?_
      refine go_bind.mpr ?_
      refine ⟨B1, B1e, ?_⟩
      refine Go.yes (b8) ?_
      refine Go.yes (b0) ?_
      refine Go.yes (by first | rfl | (simp; done)) ?_
      refine Go.some ?_
      exact ⟨rfl, fin_r h (fA1 A1f) fB1⟩
    · refine Go.no (by first | decide | (simp; done)) ?_
      refine Go.some ?_
      refine Go.some ?_
      refine Go.no (by decide) ?_
      refine Go.no (by rw [q']; decide) ?_
      refine go_bind.mpr ?_
      refine ⟨B1, B1e, ?_⟩
      refine Go.yes (b8) ?_
      refine Go.yes (b0) ?_
      refine Go.no (by first | decide | (simp; done)) ?_
      refine Go.some ?_
      exact ⟨rfl, fin_r h (fA1 A1f) fB1⟩
  obtain ⟨go, hgo⟩ := Classical.axiomOfChoice (r := fun (j q : Nat) => j < cq D n → q < n ∧ D q ≠ 0 ∧ cq D q = j) (fun j => by
    by_cases e : j < cq D n
    · obtain ⟨q, q1, q2, q3⟩ := cq_surj n j e
      exact ⟨q, fun _ => ⟨q1, q2, q3⟩⟩
    · exact ⟨0, fun e' => absurd e' e⟩)
  have g175 : ∀ j, j < cq D n → A1 175 j = nI (go j) := fun j hj => by
    obtain ⟨q1, q2, q3⟩ := hgo j hj
    have := A175 (go j) q1 q2
    rw [q3] at this; exact this
  have g239 : ∀ j, j < cq D n → B1 239 j = nI (go j) := fun j hj => by
    obtain ⟨q1, q2, q3⟩ := hgo j hj
    have := B239 (go j) q1 q2
    rw [q3] at this; exact this
  have A1o : ∀ c k, c ≠ 175 → c ≠ 252 → ¬ (c = 0 ∧ k = 8) → A1 c k = A c k := fun c k h1 h2 h3 => by rw [A1f c h1]; exact dk c k h2 h3
  have b6 : B1 217 6 = nI n := by rw [B1f 217 6 (by omega) (by omega)]; exact h6'
  have hs : ∀ k, k < 144 → A1 137 k = B1 235 k ∧ ∃ s, s ≤ 99 ∧ B1 235 k = nI s := fun k hk => by
    rw [A1o 137 k (by omega) (by omega) (by omega), B1f 235 k (by omega) (by omega), mput_r (by omega)]
    exact hst k hk
  obtain ⟨A2, A2e, B2, B2e, ⟨d, hd⟩, A2f, B2f⟩ := ways_go2 hn b6 hs
  have a2o : ∀ c, c ≠ 174 → c ≠ 175 → A2 c = fK_theDesk A c := fun c h1 h2 => by rw [A2f c h1, A1f c h2]
  have g8 : ¬ A2 0 8 = 0 := by rw [a2o 0 (by omega) (by omega)]; exact dk8
  have go12 : ∀ j, j < cq D n → go j < 12 := fun j hj => by have := (hgo j hj).1; omega
  have inf : ∀ a b, a < n → b < n → d a b ≤ 1000000 := fun a b ha hb => by have := (hd a b ha hb).1; omega
  have hG : sG A2 (cq D n) go (fun i j => d (go i) (go j)) := ⟨fun j hj => ⟨by rw [A2f 175 (by omega)]; exact g175 j hj, go12 j hj⟩, fun i j hi hj => ⟨(hd _ _ (hgo i hi).1 (hgo j hj).1).2.1, inf _ _ (hgo i hi).1 (hgo j hj).1⟩⟩
  obtain ⟨A3, A3e, c, c1, c2, A3f⟩ := shoK (A := A2) (x := x0) (ds := fun j => d x0 (go j)) c8 (by omega) g8 hG (fun j hj => ⟨(hd _ _ hx (hgo j hj).1).2.1, inf _ _ hx (hgo j hj).1⟩)
  have hM : sM B2 (cq D n) go (fun i j => d (go i) (go j)) := ⟨by rw [B2f 217 (by omega)]; exact B42, fun j hj => ⟨by rw [B2f 239 (by omega)]; exact g239 j hj, go12 j hj⟩, fun i j hi hj => ⟨(hd _ _ (hgo i hi).1 (hgo j hj).1).2.2, (hd _ _ (hgo i hi).1 (hgo j hj).1).1⟩⟩
  obtain ⟨B3, B3e, f, f1, f2, B3f⟩ := shoM (B := B2) (x := x0) (ds := fun j => d x0 (go j)) (nI z) c8 (by omega) hM (fun j hj => ⟨(hd _ _ hx (hgo j hj).1).2.2, (hd _ _ hx (hgo j hj).1).1⟩)
  have h256 := p2le c8
  have pm := p2p (cq D n)
  have full : ∀ j, j < cq D n → (2 ^ cq D n - 1).testBit j = true := fun j hj => by rw [Nat.testBit_two_pow_sub_one]; exact decide_eq_true hj
  have cf : ∀ j, j < cq D n → c (2 ^ cq D n - 1) j = f (2 ^ cq D n - 1) j := fun j hj => sR_uniq c2 f2 (2 ^ cq D n - 1) (by omega) j hj
  have fb : ∀ j, j < cq D n → (f (2 ^ cq D n - 1) j = 1000000 ∨ f (2 ^ cq D n - 1) j ≤ 1287 * (2 ^ cq D n - 1)) := fun j hj => sR_bd f2 h256 (fun j hj => (hd _ _ hx (hgo j hj).1).1) (fun i j hi hj => (hd _ _ (hgo i hi).1 (hgo j hj).1).1) (2 ^ cq D n - 1) (by omega) j hj
  have g8' : ¬ A3 0 8 = 0 := by rw [A3f 0 (by omega)]; exact g8
  obtain ⟨r, re, k, hk, rfl⟩ := shoK_end (A := A3) (w := fun j => f (2 ^ cq D n - 1) j) (go := go) (if nI z = 1 then (1 : Int32) else 0) c8 (by omega) g8' (fun j hj => by rw [A3f 175 (by omega)]; exact hG.1 j hj) (fun j hj => ⟨by rw [c1 _ (by omega) j hj, cf j hj], by have := fb j hj; omega⟩)
  obtain ⟨r', re', k', hk', rfl⟩ := shoM_end (B := B3) (w := fun j => eM (f (2 ^ cq D n - 1) j)) (nI z) c8 (by omega) (by rw [B3f 217 (by omega), B2f 217 (by omega)]; exact B42) (fun j hj => ⟨f1 _ (by omega) j hj (full j hj), eM_le (by have := fb j hj; omega)⟩)
  have kk : k = k' := by
    refine FL.uniq hk ⟨hk'.1, fun a ha => ?_⟩
    have p1 := fb a ha
    have p2 := fb k' hk'.1
    have p3 := hk'.2 a ha
    dsimp only at p3 ⊢
    unfold eM at p3
    refine ⟨?_, fun q => ?_⟩
    · have p3 := p3.1
      split at p3 <;> split at p3 <;> omega
    · have p3 := p3.2 q
      split at p3 <;> split at p3 <;> omega
  subst kk
  have kl := hk.1
  have fk := fb k kl
  have fA : FB aR A A3 := fun c k e => by
    have c174 : c ≠ 174 := fun q => by subst q; exact absurd e (by rw [show aR 174 k = false from rfl]; decide)
    have c252 : c ≠ 252 := fun q => by subst q; exact absurd e (by rw [show aR 252 k = false from rfl]; decide)
    rw [A3f c c252, A2f c c174]
    exact fA1 A1f c k e
  have fB : FB bR B B3 := fun c k e => by
    have c240 : c ≠ 240 := fun q => by subst q; exact absurd e (by rw [show bR 240 k = false from rfl]; decide)
    have c238 : c ≠ 238 := fun q => by subst q; exact absurd e (by rw [show bR 238 k = false from rfl]; decide)
    rw [B3f c c240, B2f c c238]
    exact fB1 c k e
  have fr := fin_r h fA fB
  have em : (1 : Int32) <<< (nI (cq D n) &&& 31) - 1 = nI (2 ^ cq D n - 1) := by rw [shl_nI (by omega), (lit_nI _ : (1 : Int32) = nI 1), nI_sub' (by omega)]
  have ga : go k < 12 := go12 k kl
  have bk : B3 240 (8 * (2 ^ cq D n - 1) + k) = nI (eM (f (2 ^ cq D n - 1) k)) := f1 _ (by omega) k kl (full k kl)
  have nb0 : ¬ B1 217 42 = 0 := by rw [B42, ← nI_zero, nI_eq' (by omega) (by omega)]; exact m0
  have em' : (1 : Int32) <<< (B2 217 42 &&& 31) - 1 = nI (2 ^ cq D n - 1) := by rw [hM.1]; exact em
  have ibk : inb (8 * nI (2 ^ cq D n - 1) + nI k) 2048 := by rw [ix8']; exact (inb_nI (by omega)).mpr (by omega)
  have jk : jix (8 * nI (2 ^ cq D n - 1) + nI k) = 8 * (2 ^ cq D n - 1) + k := by rw [ix8', jix_nI (by omega)]
  have mod : ∀ {Q : Int32 × Mm → Prop}, Q ((if f (2 ^ cq D n - 1) k = 1000000 then -1 else if z = 0 then nI (f (2 ^ cq D n - 1) k) else nI (go k)), B3) → Go (Option.bind (fM_findsGoals (nI x0) (mput B 217 0 0)) fun Mz5 => if Mz5 217 42 ≤ 8 then if Mz5 217 42 = 0 then if nI z = 0 then some ((0 : Int32), Mz5) else some (nI x0, Mz5) else Option.bind (fM_findsWays Mz5) fun Mz7 => Option.bind (lp 1000000 (fun s => fM_shortest_b74 (nI x0) (nI z) ((1 : Int32) <<< (Mz7 217 42 &&& 31) - 1) s.1 s.2) (1, Mz7)) fun e74 => Option.bind (lp 1000000 (fun s => fM_shortest_b143 (nI z) ((1 : Int32) <<< (Mz7 217 42 &&& 31) - 1) e74 s.1 s.2) (0, 1)) fun e143 => if inb (8 * ((1 : Int32) <<< (Mz7 217 42 &&& 31) - 1) + e143) 2048 then if e74 240 (jix (8 * ((1 : Int32) <<< (Mz7 217 42 &&& 31) - 1) + e143)) < 100000000 then if nI z = 0 then if inb (8 * ((1 : Int32) <<< (Mz7 217 42 &&& 31) - 1) + e143) 2048 then some (e74 240 (jix (8 * ((1 : Int32) <<< (Mz7 217 42 &&& 31) - 1) + e143)), e74) else none else if inb e143 12 then some (e74 239 (jix e143), e74) else none else some (-1, e74) else none else some (-1, Mz5)) Q := by
    intro Q hQ
    refine go_bind.mpr ?_
    refine ⟨B1, B1e, ?_⟩
    refine Go.yes (b8) ?_
    refine Go.no (nb0) ?_
    refine go_bind.mpr ?_
    refine ⟨B2, B2e, ?_⟩
    dsimp only
    rw [em']
    refine go_bind.mpr ?_
    refine ⟨B3, B3e, ?_⟩
    refine go_bind.mpr ?_
    refine ⟨_, re', ?_⟩
    refine Go.gd (ibk) ?_
    rw [jk, bk]
    by_cases big : f (2 ^ cq D n - 1) k = 1000000
    · rw [if_pos big] at hQ
      have e : eM (f (2 ^ cq D n - 1) k) = 100000000 := if_pos big
      refine Go.no (by rw [e]; decide) ?_
      refine Go.some ?_
      exact hQ
    · rw [if_neg big] at hQ
      have e : eM (f (2 ^ cq D n - 1) k) = f (2 ^ cq D n - 1) k := if_neg big
      rw [e]
      refine Go.yes (by rw [(lit_nI _ : (100000000 : Int32) = nI 100000000), nI_lt' (by omega) (by omega)]; omega) ?_
      rcases hz2 with rfl | rfl
      · rw [if_pos rfl] at hQ
        refine Go.yes (by first | rfl | (simp; done)) ?_
        refine Go.gd (ibk) ?_
        refine Go.some ?_
        exact hQ
      · rw [if_neg (by omega)] at hQ
        refine Go.no (by first | decide | (simp; done)) ?_
        refine Go.gd ((inb_nI (by omega)).mpr (by omega)) ?_
        refine Go.some ?_
        rw [jix_nI (by omega), B3f 239 (by omega), (hM.2.1 k kl).1]
        exact hQ
  unfold fY_shortestEnd
  dsimp only
  rw [em, A1o 2 0 (by omega) (by omega) (by omega), hA2]
  refine Go.no (by rw [← nI_zero, nI_eq' (by omega) (by omega)]; exact m0) ?_
  refine go_bind.mpr ?_
  refine ⟨A2, A2e, ?_⟩
  refine go_bind.mpr ?_
  refine ⟨A3, A3e, ?_⟩
  refine go_bind.mpr ?_
  refine go_bind.mpr ?_
  refine ⟨_, re, ?_⟩
  dsimp only
  by_cases big : f (2 ^ cq D n - 1) k = 1000000
  · rw [if_pos big] at mod ⊢
    rcases hz2 with rfl | rfl
    · refine Go.yes (by first | rfl | (simp; done)) ?_
      refine Go.yes (by first | rfl | (simp; done)) ?_
      refine Go.some ?_
      refine Go.some ?_
      refine Go.some ?_
      refine Go.no (by decide) ?_
      refine Go.no (by rw [q']; decide) ?_
      exact mod ⟨rfl, fr⟩
    · refine Go.no (by first | decide | (simp; done)) ?_
      refine Go.some ?_
      refine Go.some ?_
      refine Go.some ?_
      refine Go.no (by decide) ?_
      refine Go.no (by rw [q']; decide) ?_
      exact mod ⟨rfl, fr⟩
  · rw [if_neg big] at mod ⊢
    rcases hz2 with rfl | rfl
    · rw [if_pos rfl] at mod
      refine Go.yes (by first | rfl | (simp; done)) ?_
      refine Go.no (nI_neg1 (by omega)) ?_
      refine Go.some ?_
      refine Go.some ?_
      refine Go.some ?_
      refine Go.no (by decide) ?_
      refine Go.no (by rw [q']; decide) ?_
      exact mod ⟨rfl, fr⟩
    · rw [if_neg (by omega)] at mod
      refine Go.no (by first | decide | (simp; done)) ?_
      refine Go.some ?_
      refine Go.some ?_
      refine Go.some ?_
      refine Go.no (by decide) ?_
      refine Go.no (by rw [q']; decide) ?_
      exact mod ⟨rfl, fr⟩
end PmShort4
