section PmBring2
variable {β : Nat → Int32}
def mAA (c _ : Nat) : Bool := !Nat.beq c 130 && !Nat.beq c 131
def mAB (c _ : Nat) : Bool := !Nat.beq c 236 && !Nat.beq c 237
theorem mAA_of {c k : Nat} (h : c ≠ 130 ∧ c ≠ 131) : mAA c k = true := by simp only [mAA, nbeq h.1, nbeq h.2]; rfl
theorem mAB_of {c k : Nat} (h : c ≠ 236 ∧ c ≠ 237) : mAB c k = true := by simp only [mAB, nbeq h.1, nbeq h.2]; rfl
def tellB (wd : Int32) (M : Mm) : Option (Int32 × Mm) := if wd = 0 then fM_opensNow M else if wd = 1 then fM_givesNow M else fM_tiresNow M
theorem ask_sim {A B : Mm} {w i d : Nat} {k m a wd mo : Int32} (hm : wd = 0 ∧ mo = 1000 ∨ wd = 1 ∧ mo = 99 ∨ wd = 2 ∧ mo = 20) (hw : w = 1 ∨ w = 16) (hX : RX A B) (hi : i < 24) (hd : d < 12) (ed : A (w + 9) i = nI d) (hv : ∀ j, j < 11 → kvA A w i d j = kvB B d k m a j) :
    ∃ v A' B', fW_ask w wd (nI i) A = some (v, A') ∧ tellB wd (asksM B d k m a) = some (v, B') ∧ (∃ y : Nat, (y : Int) ≤ mo.toInt ∧ v = nI y) ∧ FB mAA A A' ∧ FB mAB B B' := by
  have ka := askM_kv (M := A) (w := w) (i := i) (d := d) (by omega)
  have kb := asksM_kv (M := B) (d := d) (k := k) (m := m) (a := a)
  have fa := askM_fb A w i d
  have fb := asksM_fb B d k m a
  have hX2 : RX (askM A w i d) (asksM B d k m a) := by
    unfold RX
    rw [fb.row (c := 225) fun _ => rfl, fb.row (c := 226) fun _ => rfl, fb.row (c := 227) fun _ => rfl, fb.row (c := 228) fun _ => rfl, fb.row (c := 229) fun _ => rfl, fb.row (c := 230) fun _ => rfl, fb.row (c := 231) fun _ => rfl, fb.row (c := 233) fun _ => rfl, fb.row (c := 234) fun _ => rfl, fb.row (c := 235) fun _ => rfl, fb 217 32 rfl, fb 217 34 rfl, fb 217 36 rfl]
    refine TxR_congr (fun c h1 h2 h3 h4 => fa.row fun _ => ?_) hX
    simp only [m130, nbeq h3]; rfl
  have hpl : fL_plainly wd (askM A w i d) = (if wd = 0 then (900 - 100 * (asksM B d k m a) 218 8) + 20 * (asksM B d k m a) 236 3 else if wd = 1 then (asksM B d k m a) 236 1 else 1) := by
    unfold fL_plainly
    rw [ka 9 (by omega), ka 3 (by omega), ka 1 (by omega), hv 9 (by omega), hv 3 (by omega), hv 1 (by omega), ← kb 3 (by omega), ← kb 1 (by omega)]
    have : kvB B d k m a 9 = asksM B d k m a 218 8 := by
      rw [fb.row (c := 218) fun _ => rfl]; rfl
    rw [this]
  obtain ⟨⟨v, A'⟩, e1, ⟨v', B'⟩, e2, e3, e4, e5, e6⟩ := tells_sim hX2.1 (fun j hj => by rw [ka j hj, kb j hj]; exact hv j hj) hm hpl
  have e3 : v = v' := e3
  subst e3
  refine ⟨v, A', B', ?_, ?_, e4, ?_, ?_⟩
  · rw [ask_eq, jix_nI (by omega), ed, jix_nI (by omega)]
    have ii : inb (nI i) 24 := (inb_nI (by omega)).mpr hi
    have id : inb (nI d) 12 := (inb_nI (by omega)).mpr hd
    simp only [if_pos ii, if_pos id]
    rw [e1]; rfl
  · unfold tellB fM_opensNow fM_givesNow fM_tiresNow
    rcases hm with ⟨rfl, rfl⟩ | ⟨rfl, rfl⟩ | ⟨rfl, rfl⟩
    · rw [if_pos rfl]
      rw [if_pos rfl] at e2
      rw [e2]; rfl
    · rw [if_neg (by decide), if_pos rfl]
      rw [if_neg (by decide), if_pos rfl] at e2
      rw [e2]; rfl
    · rw [if_neg (by decide), if_neg (by decide)]
      rw [if_neg (by decide), if_neg (by decide)] at e2
      rw [e2]; rfl
  · refine FB.trans (fa.sub fun c j q => ?_) (e5.sub fun c j q => ?_)
    · have q : (!Nat.beq c 130 && !Nat.beq c 131) = true := q
      rw [Bool.and_eq_true] at q; exact q.1
    · have q : (!Nat.beq c 130 && !Nat.beq c 131) = true := q
      rw [Bool.and_eq_true] at q; exact q.2
  · refine FB.trans (fb.sub fun c j q => ?_) (e6.sub fun c j q => ?_)
    · have q : (!Nat.beq c 236 && !Nat.beq c 237) = true := q
      rw [Bool.and_eq_true] at q; exact q.1
    · have q : (!Nat.beq c 236 && !Nat.beq c 237) = true := q
      rw [Bool.and_eq_true] at q; exact q.2
/-- a world in its day, on both sides -/
def DR (w : Nat) (β : Nat → Int32) (A B : Mm) (n m r h : Nat) : Prop := WD A w (B 218) (B 221) n ∧ WB A w (B 218) m ∧ WS A w (B 218) r h ∧ Th w β A B ∧ RX A B
theorem kv_rel {A B : Mm} {w i d n r h : Nat} {ρ : Nat → Int32} (hD : WD A w (B 218) (B 221) n) (hS : WS A w (B 218) r h) (hd : d < 12) (a10 : A (w + 10) i = ρ (56 + 5 * i)) (a11 : A (w + 11) i = ρ (57 + 5 * i)) (a12 : A (w + 12) i = ρ (58 + 5 * i)) :
    ∀ j, j < 11 → kvA A w i d j = kvB B d (ρ (56 + 5 * i)) (ρ (57 + 5 * i)) (ρ (58 + 5 * i)) j := by
  obtain ⟨s1, s2, s3, s4, s5, s6, s7, s8, s9, s10, s11, s12, s13, s14⟩ := hS
  obtain ⟨q1, q2, q3, q4, q5⟩ := hD.2.2 d hd
  refine lt11 a10 a11 a12 q1 q2 q3 ?_ s8 s11 s12 s13
  show A w 5 = 99 - B 218 4
  rw [s6, s7, health_nI s2]
def mOA (w c k : Nat) : Bool := !(Nat.beq c w && Nat.beq k 12)
def mOB (c k : Nat) : Bool := !(Nat.beq c 218 && Nat.beq k 1)
theorem mOA_of {w c k : Nat} (h : c ≠ w ∨ k ≠ 12) : mOA w c k = true := by
  have e : (Nat.beq c w && Nat.beq k 12) = false := by
    rcases h with q | q
    · rw [nbeq q]; rfl
    · rw [nbeq q, Bool.and_false]
  simp only [mOA, e]; rfl
theorem mOB_of {c k : Nat} (h : c ≠ 218 ∨ k ≠ 1) : mOB c k = true := by
  have e : (Nat.beq c 218 && Nat.beq k 1) = false := by
    rcases h with q | q
    · rw [nbeq q]; rfl
    · rw [nbeq q, Bool.and_false]
  simp only [mOB, e]; rfl
theorem draw_eq (B : Mm) : fM_draw 1000 B = some (jrem (jushr (1664525 * B 218 1 + 1013904223) 8) 1000, mput B 218 1 (1664525 * B 218 1 + 1013904223)) := by
  unfold fM_draw
  generalize 1664525 * B 218 1 + 1013904223 = X
  dsimp only
  rw [mput_same, if_pos (show ¬ (1000 : Int32) = 0 by decide)]
theorem open_c {A : Mm} {y : Nat} (t1 : A 1 13 = 0) : fW_isOpened 1 (nI y) A = if nI y ≤ jrem (jushr (1664525 * A 1 12 + 1013904223) 8) 1000 then (0, mput A 1 12 (1664525 * A 1 12 + 1013904223)) else (1, mput A 1 12 (1664525 * A 1 12 + 1013904223)) := by
  unfold fW_isOpened
  rw [if_pos t1]
  simp only [mput_same]
theorem open_m {B : Mm} {y : Nat} (t2 : B 217 5 = 0) {J X : Int32} (hd : fM_draw 1000 B = some (J, mput B 218 1 X)) : fM_isOpen (nI y) B = if nI y ≤ J then some (0, mput B 218 1 X) else some (1, mput B 218 1 X) := by
  unfold fM_isOpen
  rw [if_pos t2, hd]
  rfl
theorem open_sim {A B : Mm} {w r h y : Nat} (hy : y ≤ 1000) (hT : Th w β A B) (hS : WS A w (B 218) r h) :
    ∃ o A' B', fW_isOpened w (nI y) A = (o, A') ∧ fM_isOpen (nI y) B = some (o, B') ∧ (o = 0 ∨ o = 1) ∧ WS A' w (B' 218) r h ∧ Th w β A' B' ∧ FB (mOA w) A A' ∧ FB mOB B B' := by
  obtain ⟨s1, s2, s3, s4, s5, s6, s7, s8, s9, s10, s11, s12, s13, s14⟩ := hS
  rcases hT with ⟨rfl, t1, t2, t3⟩ | ⟨rfl, t1, t2, t3⟩
  · have hS' : ∀ v, WS (mput A 1 12 v) 1 (mput B 218 1 v 218) r h := by
      intro v
      refine ⟨s1, s2, fun k hk => ?_, ?_⟩
      · simp (disch := omega) only [mput_q]; exact s3 k hk
      · simp [mput]; exact ⟨s4, s5, s6, s7, s8, s9, s10, s11, s12, s13⟩
    have hT' : ∀ v, Th 1 β (mput A 1 12 v) (mput B 218 1 v) := by
      intro v
      left
      refine ⟨rfl, ?_, ?_, fun k hk => ?_⟩
      · simp (disch := omega) only [mput_q]; exact t1
      · simp (disch := omega) only [mput_q]; exact t2
      · simp (disch := omega) only [mput_q]; exact t3 k hk
    have ec := open_c (y := y) t1
    have dr := draw_eq B
    rw [s14] at ec
    generalize 1664525 * B 218 1 + 1013904223 = X at *
    generalize jrem (jushr X 8) 1000 = J at *
    have em := open_m (y := y) t2 dr
    by_cases q : nI y ≤ J
    · rw [if_pos q] at ec em
      exact ⟨0, _, _, ec, em, Or.inl rfl, hS' _, hT' _, fb_put (fb_rfl _ _) rfl, fb_put (fb_rfl _ _) rfl⟩
    · rw [if_neg q] at ec em
      exact ⟨1, _, _, ec, em, Or.inr rfl, hS' _, hT' _, fb_put (fb_rfl _ _) rfl, fb_put (fb_rfl _ _) rfl⟩
  · have hS' : WS A 16 (B 218) r h := ⟨s1, s2, s3, s4, s5, s6, s7, s8, s9, s10, s11, s12, s13, s14⟩
    unfold fW_isOpened fM_isOpen
    have a1 : ¬ A 16 13 = 0 := by rw [t1]; decide
    have b1 : ¬ B 217 5 = 0 := by rw [t2]; decide
    have e2 : (2 : Int32) * nI y = nI (2 * y) := by rw [lit_nI, nI_mul']
    rw [if_neg a1, if_neg b1, e2]
    by_cases q : y < 500
    · rw [if_pos (by rw [lit_nI, nI_lt' (by omega) (by omega)]; exact q), if_pos (by rw [lit_nI, nI_lt' (by omega) (by omega)]; omega)]
      exact ⟨0, A, B, rfl, rfl, Or.inl rfl, hS', Or.inr ⟨rfl, t1, t2, t3⟩, fb_rfl _ _, fb_rfl _ _⟩
    · rw [if_neg (by rw [lit_nI, nI_lt' (by omega) (by omega)]; exact q), if_neg (by rw [lit_nI, nI_lt' (by omega) (by omega)]; omega)]
      exact ⟨1, A, B, rfl, rfl, Or.inr rfl, hS', Or.inr ⟨rfl, t1, t2, t3⟩, fb_rfl _ _, fb_rfl _ _⟩
end PmBring2
