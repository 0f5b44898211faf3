section PmRel
def Fc (x : Int32) : Prop := -9 ≤ x.toInt ∧ x.toInt ≤ 9
def Fdp (f p : Int32) : Prop := Fc f ∧ 0 ≤ p.toInt
def Lok (d k m : Int32) : Prop := (∃ a, a < 12 ∧ d = nI a) ∧ (∃ b, b < 7 ∧ k = nI b) ∧ (∃ c, 1 ≤ c ∧ c ≤ 99 ∧ m = nI c)
/-- a world of the class at w, and a row of the model's -/
def WD (A : Mm) (w : Nat) (ρ lv : Nat → Int32) (n : Nat) : Prop :=
  n ≤ 12 ∧ A (w + 1) 0 = nI n ∧ ∀ d, d < 12 → A (w + 2) d = ρ (18 + d) ∧ A (w + 3) d = lv d ∧ A (w + 4) d = ρ (30 + d) ∧ A (w + 5) d = ρ (42 + d) ∧ Fdp (ρ (18 + d)) (ρ (30 + d))
def WL (A : Mm) (w : Nat) (ρ : Nat → Int32) (i : Nat) : Prop :=
  A (w + 8) i = ρ (54 + 5 * i) ∧ A (w + 9) i = ρ (55 + 5 * i) ∧ A (w + 10) i = ρ (56 + 5 * i) ∧ A (w + 11) i = ρ (57 + 5 * i) ∧ A (w + 12) i = ρ (58 + 5 * i) ∧ Lok (ρ (55 + 5 * i)) (ρ (56 + 5 * i)) (ρ (57 + 5 * i))
def WB (A : Mm) (w : Nat) (ρ : Nat → Int32) (m : Nat) : Prop :=
  m ≤ 24 ∧ A (w + 7) 0 = nI m ∧ ρ 10 = nI m ∧ A (w + 7) 1 = ρ 9 ∧ ∀ i, i < m → WL A w ρ i
def WS (A : Mm) (w : Nat) (ρ : Nat → Int32) (r h : Nat) : Prop :=
  r ≤ 150 ∧ h ≤ 99 ∧ (∀ k, k < 7 → A (w + 13) k = ρ (11 + k)) ∧ A w 4 = nI r ∧ ρ 2 = nI r ∧ A w 5 = nI h ∧ ρ 4 = nI (99 - h) ∧
  A w 6 = ρ 5 ∧ A w 7 = ρ 6 ∧ A w 8 = ρ 7 ∧ A w 9 = ρ 3 ∧ A w 10 = ρ 8 ∧ A w 11 = ρ 0 ∧ A w 12 = ρ 1
def WR (A : Mm) (w : Nat) (ρ lv : Nat → Int32) (n : Nat) : Prop := ∃ m r h, WD A w ρ lv n ∧ WB A w ρ m ∧ WS A w ρ r h
def mW (w : Nat) (c k : Nat) : Bool := (Nat.beq c w && Nat.ble 4 k && Nat.ble k 12) || (Nat.ble (w + 1) c && Nat.ble c (w + 13) && !Nat.beq c (w + 6))
theorem mW_row {w c : Nat} (h1 : w + 1 ≤ c) (h2 : c ≤ w + 13) (h3 : c ≠ w + 6) (k : Nat) : mW w c k = true := by
  simp only [mW, Bool.or_eq_true, Bool.and_eq_true, Bool.not_eq_true', Nat.ble_eq]
  right
  refine ⟨⟨h1, h2⟩, ?_⟩
  cases h : Nat.beq c (w + 6)
  · rfl
  · exact absurd (Nat.eq_of_beq_eq_true h) h3
theorem mW_sc {w k : Nat} (h1 : 4 ≤ k) (h2 : k ≤ 12) : mW w w k = true := by
  simp only [mW, Bool.or_eq_true, Bool.and_eq_true, Nat.ble_eq]
  left
  exact ⟨⟨Nat.beq_refl w, h1⟩, h2⟩
theorem WR_congr {A A' : Mm} {w n : Nat} {ρ lv : Nat → Int32} (f : FB (mW w) A A') (h : WR A w ρ lv n) : WR A' w ρ lv n := by
  have e1 : ∀ c, w + 1 ≤ c → c ≤ w + 13 → c ≠ w + 6 → A' c = A c := fun c a b d => f.row (mW_row a b d)
  have e2 : ∀ k, 4 ≤ k → k ≤ 12 → A' w k = A w k := fun k a b => f w k (mW_sc a b)
  unfold WR WD WB WL WS at *
  rw [e1 (w + 1) (by omega) (by omega) (by omega), e1 (w + 2) (by omega) (by omega) (by omega), e1 (w + 3) (by omega) (by omega) (by omega), e1 (w + 4) (by omega) (by omega) (by omega), e1 (w + 5) (by omega) (by omega) (by omega), e1 (w + 7) (by omega) (by omega) (by omega), e1 (w + 8) (by omega) (by omega) (by omega), e1 (w + 9) (by omega) (by omega) (by omega), e1 (w + 10) (by omega) (by omega) (by omega), e1 (w + 11) (by omega) (by omega) (by omega), e1 (w + 12) (by omega) (by omega) (by omega), e1 (w + 13) (by omega) (by omega) (by omega), e2 4 (by omega) (by omega), e2 5 (by omega) (by omega), e2 6 (by omega) (by omega), e2 7 (by omega) (by omega), e2 8 (by omega) (by omega), e2 9 (by omega) (by omega), e2 10 (by omega) (by omega), e2 11 (by omega) (by omega), e2 12 (by omega) (by omega)]
  exact h
theorem WR_rho {A : Mm} {w n : Nat} {ρ ρ' lv lv' : Nat → Int32} (f : ∀ k, k < 174 → ρ' k = ρ k) (g : ∀ k, k < 12 → lv' k = lv k) (h : WR A w ρ lv n) : WR A w ρ' lv' n := by
  obtain ⟨m, r, hh, ⟨d1, d2, d3⟩, ⟨b1, b2, b3, b4, b5⟩, s1, s2, s3, s4, s5, s6, s7, s8, s9, s10, s11, s12, s13, s14⟩ := h
  refine ⟨m, r, hh, ⟨d1, d2, fun d hd => ?_⟩, ⟨b1, b2, ?_, ?_, fun i hi => ?_⟩, s1, s2, fun k hk => ?_, s4, ?_, s6, ?_, ?_, ?_, ?_, ?_, ?_, ?_, ?_⟩
  · rw [f (18 + d) (by omega), f (30 + d) (by omega), f (42 + d) (by omega), g d hd]; exact d3 d hd
  · rw [f 10 (by omega)]; exact b3
  · rw [f 9 (by omega)]; exact b4
  · unfold WL
    rw [f (54 + 5 * i) (by omega), f (55 + 5 * i) (by omega), f (56 + 5 * i) (by omega), f (57 + 5 * i) (by omega), f (58 + 5 * i) (by omega)]; exact b5 i hi
  · rw [f (11 + k) (by omega)]; exact s3 k hk
  all_goals (rw [f _ (by omega)]; assumption)
/-- what is told in the law: steps of the class, codes of the model -/
def Enc (s o a : Int32) : Prop := (∃ v, v < 10000 ∧ o = 0 ∧ a = nI v ∧ s = nI v) ∨ (∃ v, v < 11 ∧ o = 1 ∧ a = nI v ∧ s = nI (10000 + v)) ∨ (o = 2 ∧ s = 20004) ∨ (o = 3 ∧ s = 20005) ∨ (o = 4 ∧ s = 20006) ∨ (o = 5 ∧ s = 20007) ∨ (o = 6 ∧ s = 20008) ∨ (o = 7 ∧ s = 20009) ∨ (o = 8 ∧ s = 20010) ∨ (o = 9 ∧ s = 20003) ∨ (o = 10 ∧ s = 20002) ∨ (o = 11 ∧ s = 20001)
/-- kinds of what lies on the law's stack: 0 a number, 1 a truth, 2 a number that is not 0 -/
def tst (o a : Int32) (σ : List Nat) : Option (List Nat) :=
  if o = 0 then (if a = 0 then some (0 :: σ) else some (2 :: σ))
  else if o = 1 then some (0 :: σ)
  else match σ with
    | [] => none
    | y :: τ =>
      if o = 9 then (if y = 1 then some (1 :: τ) else none)
      else match τ with
        | [] => none
        | x :: υ =>
          if o = 2 ∨ o = 3 ∨ o = 4 then (if x ≠ 1 ∧ y ≠ 1 then some (0 :: υ) else none)
          else if o = 5 then (if x ≠ 1 ∧ y = 2 then some (0 :: υ) else none)
          else if o = 6 ∨ o = 7 ∨ o = 8 then (if x ≠ 1 ∧ y ≠ 1 then some (1 :: υ) else none)
          else if o = 10 ∨ o = 11 then (if x = 1 ∧ y = 1 then some (1 :: υ) else none)
          else none
/-- codes from f on, n of them, lead from σ to τ, never above 32 -/
def Trn (op ar : Nat → Int32) : Nat → Nat → List Nat → List Nat → Prop
  | _, 0, σ, τ => σ = τ
  | f, n + 1, σ, τ => ∃ υ, tst (op f) (ar f) σ = some υ ∧ υ.length ≤ 32 ∧ Trn op ar (f + 1) n υ τ
def LwL (A : Mm) (t : Nat) (lw lf lg lh op ar : Nat → Int32) (i f g h : Nat) : Prop :=
  f ≤ g ∧ g ≤ h ∧ h ≤ 400 ∧ A (t + 2) i = lw i ∧ A (t + 3) i = nI f ∧ lf i = nI f ∧ A (t + 4) i = nI g ∧ lg i = nI g ∧ A (t + 5) i = nI h ∧ lh i = nI h ∧
  (∀ k, f ≤ k → k < h → Enc (A (t + 6) k) (op k) (ar k)) ∧ (∃ z, z ≠ 1 ∧ Trn op ar f (g - f) [] [z]) ∧ (g = h ∨ Trn op ar g (h - g) [] [1])
def LwR (A : Mm) (t : Nat) (nl : Int32) (lw lf lg lh op ar : Nat → Int32) : Prop :=
  A (t + 1) 0 = nl ∧ ∃ p, p ≤ 16 ∧ nl = nI p ∧ ∀ i, i < p → ∃ f g h, LwL A t lw lf lg lh op ar i f g h
def PoR (A : Mm) (t : Nat) (np : Int32) (po : Nat → Int32) : Prop :=
  A t 1 = np ∧ ∃ p, p ≤ 16 ∧ np = nI p ∧ ∀ i, i < p → A (t + 9) i = po (4 * i) ∧ A (t + 10) i = po (4 * i + 1) ∧ A (t + 11) i = po (4 * i + 2) ∧ A (t + 12) i = po (4 * i + 3) ∧ Lok (po (4 * i + 1)) (po (4 * i + 2)) (po (4 * i + 3))
def WkR (A : Mm) (t : Nat) (nw : Int32) (wa : Nat → Int32) : Prop :=
  A t 6 = nw ∧ ∃ p, p ≤ 16 ∧ nw = nI p ∧ ∀ i, i < p → A (t + 13) i = wa i ∧ ∃ d, d < 12 ∧ wa i = nI d
def StR (A : Mm) (t : Nat) (ns : Int32) (st : Nat → Int32) : Prop :=
  A t 8 = ns ∧ ∀ k, k < 144 → A (t + 14) k = st k ∧ ∃ s, s ≤ 99 ∧ st k = nI s
def TxR (A : Mm) (t : Nat) (nl np nw ns : Int32) (lw lf lg lh op ar po wa st : Nat → Int32) : Prop :=
  LwR A t nl lw lf lg lh op ar ∧ PoR A t np po ∧ WkR A t nw wa ∧ StR A t ns st
/-- how often v stands in the first p -/
def cnt (f : Nat → Int32) (v : Int32) : Nat → Nat
  | 0 => 0
  | p + 1 => cnt f v p + (if f p = v then 1 else 0)
def ToR (A : Mm) (t : Nat) (c0 c1 c2 c3 c4 : Int32) (bl ne st wo an fs fb : Nat → Int32) : Prop :=
  (A t 0 = c0 ∧ ∃ p, p ≤ 8 ∧ c0 = nI p ∧ ∀ i, i < p → A (t + 1) i = bl i ∧ -50 ≤ (bl i).toInt ∧ (bl i).toInt ≤ 50) ∧
  (A t 2 = c1 ∧ (∃ p, p ≤ 16 ∧ c1 = nI p) ∧ ∀ d, d < 12 → A (t + 2) d = ne d) ∧
  (∀ k, k < 26 → A (t + 3) k = st k ∧ ∃ v, v ≤ 9 ∧ st k = nI v) ∧
  (A t 5 = c2 ∧ ∃ p, p ≤ 8 ∧ c2 = nI p ∧ (∀ i, i < p → ∃ l, l < 26 ∧ wo i = nI l) ∧ ∀ l, l < 26 → A (t + 4) l = nI (cnt wo (nI l) p)) ∧
  (A t 7 = c3 ∧ (∃ p, p ≤ 12 ∧ c3 = nI p) ∧ ∀ k, k < 49 → A (t + 5) k = an k) ∧
  (A t 9 = c4 ∧ ∃ p, p ≤ 8 ∧ c4 = nI p ∧ ∀ i, i < p → A (t + 6) i = fs i ∧ A (t + 7) i = fb i ∧ (∃ s, s < 64 ∧ fs i = nI s) ∧ -2 ≤ (fb i).toInt ∧ (fb i).toInt ≤ 2)
/-! the parts of the whole relation -/
def RW (A B : Mm) (n : Nat) : Prop := WR A 1 (B 218) (B 221) n ∧ B 217 6 = nI n ∧ ∀ k, k < 600 → A 15 k = B 222 k
def RP (A B : Mm) (n : Nat) : Prop := ∃ p q, p ≤ 6 ∧ q < 6 ∧ A 31 0 = nI p ∧ A 31 1 = nI q ∧ B 217 3 = nI p ∧ ∀ j, j < p → WR A (33 + 15 * ((q + 6 - j) % 6)) (fun k => B 219 (174 * (p - 1 - j) + k)) (B 221) n
def RX (A B : Mm) : Prop := TxR A 123 (B 225 0) (B 217 32) (B 217 34) (B 217 36) (B 226) (B 227) (B 228) (B 229) (B 230) (B 231) (B 233) (B 234) (B 235)
def RE (A B : Mm) : Prop := ToR A 138 (B 217 45) (B 217 49) (B 217 53) (B 217 55) (B 217 57) (B 241) (B 244) (B 246) (B 247) (B 248) (B 249) (B 250)
def RT (A B : Mm) : Prop := ∃ L, L ≤ 400 ∧ A 0 10 = nI L ∧ B 217 10 = nI L ∧ ∀ k, k < L → ∃ v, v < 256 ∧ B 223 k = nI v ∧ A 178 k = jbyte (nI v)
def RF (A B : Mm) : Prop := A 146 1 = B 217 30 ∧ A 146 2 = B 217 31
def RI1 (A B : Mm) (n : Nat) : Prop := WR A 179 (B 251) (fun k => B 251 (183 + 2 * k)) n ∧ B 251 174 = nI n ∧ (∀ k, k < 600 → A 193 k = B 251 (538 + k)) ∧
  TxR A 194 (B 251 1138) (B 251 175) (B 251 176) (B 251 177) (fun k => B 251 (1139 + 4 * k)) (fun k => B 251 (1140 + 4 * k)) (fun k => B 251 (1141 + 4 * k)) (fun k => B 251 (1142 + 4 * k)) (fun k => B 251 (1203 + 2 * k)) (fun k => B 251 (1204 + 2 * k)) (fun k => B 251 (314 + k)) (fun k => B 251 (378 + k)) (fun k => B 251 (394 + k)) ∧
  ToR A 209 (B 251 178) (B 251 179) (B 251 180) (B 251 181) (B 251 182) (fun k => B 251 (207 + 4 * k)) (fun k => B 251 (184 + 2 * k)) (fun k => B 251 (239 + k)) (fun k => B 251 (208 + 4 * k)) (fun k => B 251 (265 + k)) (fun k => B 251 (209 + 4 * k)) (fun k => B 251 (210 + 4 * k))
def RI (A B : Mm) : Prop := A 0 14 = B 217 61 ∧ (B 217 61 = 0 ∨ B 217 61 = 1 ∧ ∃ n, RI1 A B n)
/-- the model's list of words -/
def mWords : List Int32 := [32] ++ (rnWords.take 98 ++ (rnWords.drop 140 ++ (rnWords.drop 98).take 42))
def RM (A B : Mm) : Prop := A 1 13 = 0 ∧ A 16 13 = 1 ∧ B 217 5 = 0 ∧ ∀ k, k < 153 → B 224 k = mWords.getD k 0
def RR (A B : Mm) : Prop := (∃ n, RW A B n ∧ RP A B n) ∧ RX A B ∧ RE A B ∧ RT A B ∧ RF A B ∧ RI A B ∧ RM A B
/-- which cells it speaks of -/
def aW (c k : Nat) : Bool := mW 1 c k || Nat.beq c 15
def bW (c k : Nat) : Bool := Nat.beq c 218 || Nat.beq c 221 || Nat.beq c 222 || (Nat.beq c 217 && Nat.beq k 6)
def aP (c k : Nat) : Bool := Nat.beq c 31 || (Nat.ble 33 c && Nat.ble c 122)
def bP (c k : Nat) : Bool := Nat.beq c 219 || Nat.beq c 221 || (Nat.beq c 217 && Nat.beq k 3)
def aX (c k : Nat) : Bool := Nat.ble 123 c && Nat.ble c 137 && !Nat.beq c 130 && !Nat.beq c 131
def bX (c k : Nat) : Bool := (Nat.ble 225 c && Nat.ble c 235 && !Nat.beq c 232) || (Nat.beq c 217 && (Nat.beq k 32 || Nat.beq k 34 || Nat.beq k 36))
def aE (c k : Nat) : Bool := Nat.ble 138 c && Nat.ble c 145
def bE (c k : Nat) : Bool := Nat.beq c 241 || Nat.beq c 244 || (Nat.ble 246 c && Nat.ble c 250) || (Nat.beq c 217 && (Nat.beq k 45 || Nat.beq k 49 || Nat.beq k 53 || Nat.beq k 55 || Nat.beq k 57))
def aT (c k : Nat) : Bool := Nat.beq c 178 || (Nat.beq c 0 && Nat.beq k 10)
def bT (c k : Nat) : Bool := Nat.beq c 223 || (Nat.beq c 217 && Nat.beq k 10)
def aF (c k : Nat) : Bool := Nat.beq c 146 && (Nat.beq k 1 || Nat.beq k 2)
def bF (c k : Nat) : Bool := Nat.beq c 217 && (Nat.beq k 30 || Nat.beq k 31)
def aI (c k : Nat) : Bool := (Nat.ble 179 c && Nat.ble c 216) || (Nat.beq c 0 && Nat.beq k 14)
def bI (c k : Nat) : Bool := Nat.beq c 251 || (Nat.beq c 217 && Nat.beq k 61)
def aM (c k : Nat) : Bool := (Nat.beq c 1 || Nat.beq c 16) && Nat.beq k 13
def bM (c k : Nat) : Bool := Nat.beq c 224 || (Nat.beq c 217 && Nat.beq k 5)
theorem RW_congr {A A' B B' : Mm} {n : Nat} (a : FB aW A A') (b : FB bW B B') (h : RW A B n) : RW A' B' n := by
  have h1 : FB (mW 1) A A' := a.sub fun c j q => by unfold aW; rw [q]; rfl
  unfold RW at *
  rw [b.row (c := 218) fun _ => rfl, b.row (c := 221) fun _ => rfl, b.row (c := 222) fun _ => rfl, b 217 6 rfl, a.row (c := 15) fun _ => by simp [aW]]
  exact ⟨WR_congr h1 h.1, h.2⟩
theorem RP_congr {A A' B B' : Mm} {n : Nat} (a : FB aP A A') (b : FB bP B B') (h : RP A B n) : RP A' B' n := by
  obtain ⟨p, q, h1, h2, h3, h4, h5, h6⟩ := h
  refine ⟨p, q, h1, h2, by rw [a 31 0 rfl]; exact h3, by rw [a 31 1 rfl]; exact h4, by rw [b 217 3 rfl]; exact h5, fun j hj => ?_⟩
  rw [b.row (c := 219) fun _ => rfl, b.row (c := 221) fun _ => rfl]
  refine WR_congr (a.sub fun c k e => ?_) (h6 j hj)
  have : (q + 6 - j) % 6 < 6 := Nat.mod_lt _ (by omega)
  generalize (q + 6 - j) % 6 = z at *
  simp only [mW, aP, Bool.or_eq_true, Bool.and_eq_true, Nat.ble_eq, Nat.beq_eq] at *
  omega
theorem TxR_congr {A A' : Mm} {t : Nat} {nl np nw ns : Int32} {lw lf lg lh op ar po wa st : Nat → Int32} (a : ∀ c, t ≤ c → c ≤ t + 14 → c ≠ t + 7 → c ≠ t + 8 → A' c = A c) (h : TxR A t nl np nw ns lw lf lg lh op ar po wa st) : TxR A' t nl np nw ns lw lf lg lh op ar po wa st := by
  unfold TxR LwR LwL PoR WkR StR at *
  rw [a t (by omega) (by omega) (by omega) (by omega), a (t + 1) (by omega) (by omega) (by omega) (by omega), a (t + 2) (by omega) (by omega) (by omega) (by omega), a (t + 3) (by omega) (by omega) (by omega) (by omega), a (t + 4) (by omega) (by omega) (by omega) (by omega), a (t + 5) (by omega) (by omega) (by omega) (by omega), a (t + 6) (by omega) (by omega) (by omega) (by omega), a (t + 9) (by omega) (by omega) (by omega) (by omega), a (t + 10) (by omega) (by omega) (by omega) (by omega), a (t + 11) (by omega) (by omega) (by omega) (by omega), a (t + 12) (by omega) (by omega) (by omega) (by omega), a (t + 13) (by omega) (by omega) (by omega) (by omega), a (t + 14) (by omega) (by omega) (by omega) (by omega)]
  exact h
theorem RX_congr {A A' B B' : Mm} (a : FB aX A A') (b : FB bX B B') (h : RX A B) : RX A' B' := by
  unfold RX at *
  rw [b.row (c := 225) fun _ => rfl, b.row (c := 226) fun _ => rfl, b.row (c := 227) fun _ => rfl, b.row (c := 228) fun _ => rfl, b.row (c := 229) fun _ => rfl, b.row (c := 230) fun _ => rfl, b.row (c := 231) fun _ => rfl, b.row (c := 233) fun _ => rfl, b.row (c := 234) fun _ => rfl, b.row (c := 235) fun _ => rfl, b 217 32 rfl, b 217 34 rfl, b 217 36 rfl]
  refine TxR_congr (fun c h1 h2 h3 h4 => a.row fun k => ?_) h
  simp only [aX, Bool.and_eq_true, Nat.ble_eq, Bool.not_eq_true']
  refine ⟨⟨⟨h1, h2⟩, ?_⟩, ?_⟩
  · cases e : Nat.beq c 130
    · rfl
    · exact absurd (Nat.eq_of_beq_eq_true e) h3
  · cases e : Nat.beq c 131
    · rfl
    · exact absurd (Nat.eq_of_beq_eq_true e) h4
theorem ToR_congr {A A' : Mm} {t : Nat} {c0 c1 c2 c3 c4 : Int32} {bl ne st wo an fs fb : Nat → Int32} (a : ∀ c, t ≤ c → c ≤ t + 7 → A' c = A c) (h : ToR A t c0 c1 c2 c3 c4 bl ne st wo an fs fb) : ToR A' t c0 c1 c2 c3 c4 bl ne st wo an fs fb := by
  unfold ToR at *
  rw [a t (by omega) (by omega), a (t + 1) (by omega) (by omega), a (t + 2) (by omega) (by omega), a (t + 3) (by omega) (by omega), a (t + 4) (by omega) (by omega), a (t + 5) (by omega) (by omega), a (t + 6) (by omega) (by omega), a (t + 7) (by omega) (by omega)]
  exact h
theorem RE_congr {A A' B B' : Mm} (a : FB aE A A') (b : FB bE B B') (h : RE A B) : RE A' B' := by
  unfold RE at *
  rw [b.row (c := 241) fun _ => rfl, b.row (c := 244) fun _ => rfl, b.row (c := 246) fun _ => rfl, b.row (c := 247) fun _ => rfl, b.row (c := 248) fun _ => rfl, b.row (c := 249) fun _ => rfl, b.row (c := 250) fun _ => rfl, b 217 45 rfl, b 217 49 rfl, b 217 53 rfl, b 217 55 rfl, b 217 57 rfl]
  refine ToR_congr (fun c h1 h2 => a.row fun k => ?_) h
  simp only [aE, Bool.and_eq_true, Nat.ble_eq]
  omega
theorem RT_congr {A A' B B' : Mm} (a : FB aT A A') (b : FB bT B B') (h : RT A B) : RT A' B' := by
  unfold RT at *
  rw [a 0 10 rfl, b 217 10 rfl, a.row (c := 178) fun _ => rfl, b.row (c := 223) fun _ => rfl]
  exact h
theorem RF_congr {A A' B B' : Mm} (a : FB aF A A') (b : FB bF B B') (h : RF A B) : RF A' B' := by
  unfold RF at *
  rw [a 146 1 rfl, a 146 2 rfl, b 217 30 rfl, b 217 31 rfl]
  exact h
theorem RI_congr {A A' B B' : Mm} (a : FB aI A A') (b : FB bI B B') (h : RI A B) : RI A' B' := by
  have e : ∀ c, 179 ≤ c → c ≤ 216 → A' c = A c := fun c h1 h2 => a.row fun k => by
    simp only [aI, Bool.or_eq_true, Bool.and_eq_true, Nat.ble_eq]; omega
  unfold RI at *
  rw [a 0 14 rfl, b 217 61 rfl]
  refine ⟨h.1, h.2.imp id fun q => ⟨q.1, ?_⟩⟩
  obtain ⟨n, k1, k2, k3, k4, k5⟩ := q.2
  refine ⟨n, ?_⟩
  unfold RI1
  rw [b.row (c := 251) fun _ => rfl, e 193 (by omega) (by omega)]
  refine ⟨WR_congr (a.sub fun c k q => ?_) k1, k2, k3, TxR_congr (fun c h1 h2 _ _ => e c (by omega) (by omega)) k4, ToR_congr (fun c h1 h2 => e c (by omega) (by omega)) k5⟩
  simp only [mW, aI, Bool.or_eq_true, Bool.and_eq_true, Nat.ble_eq, Nat.beq_eq] at *
  omega
theorem RM_congr {A A' B B' : Mm} (a : FB aM A A') (b : FB bM B B') (h : RM A B) : RM A' B' := by
  unfold RM at *
  rw [a 1 13 rfl, a 16 13 rfl, b 217 5 rfl, b.row (c := 224) fun _ => rfl]
  exact h
/-- all cells that the relation speaks of, and those of the other side -/
def aR (c k : Nat) : Bool := aW c k || aP c k || aX c k || aE c k || aT c k || aF c k || aI c k || aM c k || mK c k
def bR (c k : Nat) : Bool := bW c k || bP c k || bX c k || bE c k || bT c k || bF c k || bI c k || bM c k || mM c k
theorem RR_congr {A A' B B' : Mm} (a : FB aR A A') (b : FB bR B B') (h : RR A B) : RR A' B' := by
  obtain ⟨⟨n, h1, h2⟩, h3, h4, h5, h6, h7, h8⟩ := h
  exact ⟨⟨n, RW_congr (a.sub fun c k q => by simp [aR, q]) (b.sub fun c k q => by simp [bR, q]) h1, RP_congr (a.sub fun c k q => by simp [aR, q]) (b.sub fun c k q => by simp [bR, q]) h2⟩,
    RX_congr (a.sub fun c k q => by simp [aR, q]) (b.sub fun c k q => by simp [bR, q]) h3, RE_congr (a.sub fun c k q => by simp [aR, q]) (b.sub fun c k q => by simp [bR, q]) h4,
    RT_congr (a.sub fun c k q => by simp [aR, q]) (b.sub fun c k q => by simp [bR, q]) h5, RF_congr (a.sub fun c k q => by simp [aR, q]) (b.sub fun c k q => by simp [bR, q]) h6,
    RI_congr (a.sub fun c k q => by simp [aR, q]) (b.sub fun c k q => by simp [bR, q]) h7, RM_congr (a.sub fun c k q => by simp [aR, q]) (b.sub fun c k q => by simp [bR, q]) h8⟩
/-- how many letters came at most: now, in what is kept, in the image -/
def CN (N : Nat) (B : Mm) : Prop := (∃ c, c ≤ N ∧ B 218 9 = nI c) ∧ (∀ j, j < 6 → ∃ c, c ≤ N ∧ B 219 (174 * j + 9) = nI c) ∧ (∃ c, c ≤ N ∧ B 251 9 = nI c)
def CNs (B B' : Mm) : Prop := ∀ N, N < 2000000 → CN N B → CN (N + 1000) B'
theorem CNs_of {B B' : Mm} (h1 : B' 218 9 = B 218 9) (h2 : B' 219 = B 219) (h3 : B' 251 9 = B 251 9) : CNs B B' := by
  rintro N - ⟨⟨c, c1, c2⟩, d, e, e1, e2⟩
  refine ⟨⟨c, by omega, h1.trans c2⟩, fun j hj => ?_, e, by omega, h3.trans e2⟩
  obtain ⟨f, f1, f2⟩ := d j hj
  exact ⟨f, by omega, by rw [h2]; exact f2⟩
/-- both answer alike, and the relation goes on -/
def Sim (A B : Mm) (x y : Option (Int32 × Mm)) : Prop := Go x (fun p => Go y (fun q => p.1 = q.1 ∧ RR p.2 q.2 ∧ KF A p.2 ∧ MF B q.2 ∧ CNs B q.2))
end PmRel
