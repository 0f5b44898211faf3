section RnS
/-- the references: they never change once the two objects are made (but the desk) -/
def rnRL : List (List (Nat × Nat)) := [
  [(0, 1), (1, 16), (2, 31), (3, 123), (4, 138), (5, 146), (6, 168), (7, 173), (8, 177), (9, 178), (11, 179), (12, 194), (13, 209)],
  [(0, 2), (1, 8), (2, 14), (3, 15)],
  [(1, 3), (2, 4), (3, 5), (4, 6), (5, 7)],
  [],
  [],
  [],
  [],
  [],
  [(2, 9), (3, 10), (4, 11), (5, 12), (6, 13)],
  [],
  [],
  [],
  [],
  [],
  [],
  [],
  [(0, 17), (1, 23), (2, 29), (3, 30)],
  [(1, 18), (2, 19), (3, 20), (4, 21), (5, 22)],
  [],
  [],
  [],
  [],
  [],
  [(2, 24), (3, 25), (4, 26), (5, 27), (6, 28)],
  [],
  [],
  [],
  [],
  [],
  [],
  [],
  [(2, 32)],
  [(0, 33), (1, 48), (2, 63), (3, 78), (4, 93), (5, 108)],
  [(0, 34), (1, 40), (2, 46), (3, 47)],
  [(1, 35), (2, 36), (3, 37), (4, 38), (5, 39)],
  [],
  [],
  [],
  [],
  [],
  [(2, 41), (3, 42), (4, 43), (5, 44), (6, 45)],
  [],
  [],
  [],
  [],
  [],
  [],
  [],
  [(0, 49), (1, 55), (2, 61), (3, 62)],
  [(1, 50), (2, 51), (3, 52), (4, 53), (5, 54)],
  [],
  [],
  [],
  [],
  [],
  [(2, 56), (3, 57), (4, 58), (5, 59), (6, 60)],
  [],
  [],
  [],
  [],
  [],
  [],
  [],
  [(0, 64), (1, 70), (2, 76), (3, 77)],
  [(1, 65), (2, 66), (3, 67), (4, 68), (5, 69)],
  [],
  [],
  [],
  [],
  [],
  [(2, 71), (3, 72), (4, 73), (5, 74), (6, 75)],
  [],
  [],
  [],
  [],
  [],
  [],
  [],
  [(0, 79), (1, 85), (2, 91), (3, 92)],
  [(1, 80), (2, 81), (3, 82), (4, 83), (5, 84)],
  [],
  [],
  [],
  [],
  [],
  [(2, 86), (3, 87), (4, 88), (5, 89), (6, 90)],
  [],
  [],
  [],
  [],
  [],
  [],
  [],
  [(0, 94), (1, 100), (2, 106), (3, 107)],
  [(1, 95), (2, 96), (3, 97), (4, 98), (5, 99)],
  [],
  [],
  [],
  [],
  [],
  [(2, 101), (3, 102), (4, 103), (5, 104), (6, 105)],
  [],
  [],
  [],
  [],
  [],
  [],
  [],
  [(0, 109), (1, 115), (2, 121), (3, 122)],
  [(1, 110), (2, 111), (3, 112), (4, 113), (5, 114)],
  [],
  [],
  [],
  [],
  [],
  [(2, 116), (3, 117), (4, 118), (5, 119), (6, 120)],
  [],
  [],
  [],
  [],
  [],
  [],
  [],
  [(0, 124), (2, 132), (3, 133), (4, 134), (5, 135), (7, 136), (9, 137)],
  [(2, 125), (3, 126), (4, 127), (5, 128), (6, 129), (7, 130), (8, 131)],
  [],
  [],
  [],
  [],
  [],
  [],
  [],
  [],
  [],
  [],
  [],
  [],
  [],
  [(1, 139), (3, 140), (4, 141), (6, 142), (8, 143), (10, 144), (11, 145)],
  [],
  [],
  [],
  [],
  [],
  [],
  [],
  [(0, 147), (3, 162), (6, 167)],
  [(0, 148), (2, 156), (3, 157), (4, 158), (5, 159), (7, 160), (9, 161)],
  [(2, 149), (3, 150), (4, 151), (5, 152), (6, 153), (7, 154), (8, 155)],
  [],
  [],
  [],
  [],
  [],
  [],
  [],
  [],
  [],
  [],
  [],
  [],
  [],
  [(1, 163), (2, 164), (3, 165), (4, 166)],
  [],
  [],
  [],
  [],
  [],
  [(0, 169), (1, 170), (2, 171), (3, 172)],
  [],
  [],
  [],
  [],
  [(0, 174), (1, 175), (2, 176)],
  [],
  [],
  [],
  [],
  [],
  [(0, 180), (1, 186), (2, 192), (3, 193)],
  [(1, 181), (2, 182), (3, 183), (4, 184), (5, 185)],
  [],
  [],
  [],
  [],
  [],
  [(2, 187), (3, 188), (4, 189), (5, 190), (6, 191)],
  [],
  [],
  [],
  [],
  [],
  [],
  [],
  [(0, 195), (2, 203), (3, 204), (4, 205), (5, 206), (7, 207), (9, 208)],
  [(2, 196), (3, 197), (4, 198), (5, 199), (6, 200), (7, 201), (8, 202)],
  [],
  [],
  [],
  [],
  [],
  [],
  [],
  [],
  [],
  [],
  [],
  [],
  [],
  [(1, 210), (3, 211), (4, 212), (6, 213), (8, 214), (10, 215), (11, 216)],
  [],
  [],
  [],
  [],
  [],
  [],
  [],
  [(1, 218), (2, 219), (4, 220), (7, 221), (8, 222), (9, 223), (15, 224), (16, 225), (17, 226), (18, 227), (19, 228), (20, 229), (21, 230), (22, 231), (26, 232), (33, 233), (35, 234), (37, 235), (38, 236), (39, 237), (41, 238), (43, 239), (44, 240), (46, 241), (47, 242), (48, 243), (50, 244), (51, 245), (52, 246), (54, 247), (56, 248), (58, 249), (59, 250), (63, 251)],
  [],
  [],
  [],
  [],
  [],
  [],
  [],
  [],
  [],
  [],
  [],
  [],
  [],
  [],
  [],
  [],
  [],
  [],
  [],
  [],
  [],
  [],
  [],
  [],
  [],
  [],
  [],
  [],
  [],
  [],
  [],
  [],
  [],
  []]
def rnRF (a k : Nat) : Option Nat := (rnRL.getD a []).lookup k
/-- the desk's field holds its first row (177, of length 0) or the large one (252): the int slot says which -/
def rfm (M : Mm) (a k : Nat) : Option Nat := if a = 0 ∧ k = 8 then (if M 0 8 = 0 then some 177 else some 252) else rnRF a k
def nxm (M : Mm) : Nat := if M 0 8 = 0 then 252 else 253
abbrev S (M : Mm) : Sg := (M, rfm M, nxm M)
theorem S_lt {M : Mm} {a : Nat} (h : a < 252) : a < (S M).2.2 := by show a < nxm M; unfold nxm; split <;> omega
theorem S_eq {M N : Mm} (h : N 0 8 = M 0 8) : ((N, (S M).2) : Sg) = S N := by
  have h1 : rfm M = rfm N := by funext a k; unfold rfm; rw [h]
  have h2 : nxm M = nxm N := by unfold nxm; rw [h]
  show ((N, rfm M, nxm M) : Sg) = (N, rfm N, nxm N)
  rw [h1, h2]
variable {P : Px} {d : Nat} {K : Kx} {pc e : Nat} {ops : List (Nat × Instr × Nat)} {lv lv2 : List (Nat × Value)} {st st2 : List Value} {M : Mm} {r : Option Value × Sg} {a b k n i ci : Nat}
def okG (ci k n : Nat) : Bool := decide (ci < 20) && decide (k < n) && decide (rnKd ci k < 2)
def okR (ci k n : Nat) : Bool := decide (ci < 20) && decide (k < n) && decide (¬ rnKd ci k < 2)
def okP (ci k n : Nat) : Bool := decide (ci < 20) && decide (k < n) && decide (rnKd ci k = 0) && !(rnFin ci k)
def okZ (ci k n : Nat) : Bool := decide (ci < 20) && decide (k < n) && decide (rnKd ci k = 1) && !(rnFin ci k)
abbrev shp (a t n : Nat) : Prop := rnSh a = (t, n) ∧ a < 252
theorem ss_getI (hf : rnF (kOc K) i = some (ci, k) ∧ okG ci k n = true) (hs : shp a ci n) (kk : SB P d K ops e lv (.int (M a k) :: st) (S M) r) : SB P d K ((pc, .getfield i, 3) :: ops) e lv (.ref a :: st) (S M) r := sb_getI hf.1 hs.1 (S_lt hs.2) hf.2 kk
theorem ss_getR (hf : rnF (kOc K) i = some (ci, k) ∧ okR ci k n = true) (hs : shp a ci n) (hr : rnRF a k = some b ∧ ¬ (a = 0 ∧ k = 8)) (kk : SB P d K ops e lv (.ref b :: st) (S M) r) : SB P d K ((pc, .getfield i, 3) :: ops) e lv (.ref a :: st) (S M) r := sb_getR hf.1 hs.1 (S_lt hs.2) hf.2 (by show rfm M a k = some b; unfold rfm; rw [if_neg hr.2]; exact hr.1) kk
theorem ss_putI {v : Int32} (hf : rnF (kOc K) i = some (ci, k) ∧ okP ci k n = true) (hs : shp a ci n) (hk : ¬ (a = 0 ∧ k = 8)) (kk : SB P d K ops e lv st (S (mput M a k v)) r) : SB P d K ((pc, .putfield i, 3) :: ops) e lv (.int v :: .ref a :: st) (S M) r := sb_putI hf.1 hs.1 (S_lt hs.2) hf.2 (by rw [S_eq (mput_ne _ _ _ _ _ _ (fun h => hk ⟨h.1.symm, h.2.symm⟩))]; exact kk)
theorem ss_putZ {v : Int32} (hf : rnF (kOc K) i = some (ci, k) ∧ okZ ci k n = true) (hs : shp a ci n) (hk : ¬ (a = 0 ∧ k = 8)) (hv : v = 0 ∨ v = 1) (kk : SB P d K ops e lv st (S (mput M a k v)) r) : SB P d K ((pc, .putfield i, 3) :: ops) e lv (.int v :: .ref a :: st) (S M) r := sb_putZ hf.1 hs.1 (S_lt hs.2) hv hf.2 (by rw [S_eq (mput_ne _ _ _ _ _ _ (fun h => hk ⟨h.1.symm, h.2.symm⟩))]; exact kk)
theorem ss_iald {x : Int32} (hs : shp a 20 n) (hx : inb x n) (kk : SB P d K ops e lv (.int (M a x.toNatClampNeg) :: st) (S M) r) : SB P d K ((pc, .iaload, 1) :: ops) e lv (.int x :: .ref a :: st) (S M) r := sb_iald hs.1 (S_lt hs.2) hx kk
theorem ss_bald {x : Int32} (hs : shp a 21 n) (hx : inb x n) (kk : SB P d K ops e lv (.int (M a x.toNatClampNeg) :: st) (S M) r) : SB P d K ((pc, .baload, 1) :: ops) e lv (.int x :: .ref a :: st) (S M) r := sb_bald hs.1 (S_lt hs.2) hx kk
theorem ss_lald {x : Int32} (hs : shp a 22 n) (hx : inb x n) (kk : SB P d K ops e lv (.long (mgl M a x.toNatClampNeg) :: st) (S M) r) : SB P d K ((pc, .laload, 1) :: ops) e lv (.int x :: .ref a :: st) (S M) r := sb_lald hs.1 (S_lt hs.2) hx kk
theorem ss_alen {t : Nat} {v : Int32} (hs : shp a t n) (ht : t = 20 ∨ t = 21 ∨ t = 22) (hv : nI n = v) (kk : SB P d K ops e lv (.int v :: st) (S M) r) : SB P d K ((pc, .arraylength, 1) :: ops) e lv (.ref a :: st) (S M) r := sb_alen hs.1 (S_lt hs.2) ht hv kk
theorem ss_iast {x v : Int32} (hs : shp a 20 n) (h0 : a ≠ 0) (hx : inb x n) (kk : SB P d K ops e lv st (S (mput M a x.toNatClampNeg v)) r) : SB P d K ((pc, .iastore, 1) :: ops) e lv (.int v :: .int x :: .ref a :: st) (S M) r := sb_iast hs.1 (S_lt hs.2) hx (by rw [S_eq (mput_ne _ _ _ _ _ _ (fun h => h0 h.1.symm))]; exact kk)
theorem ss_bast {x v : Int32} (hs : shp a 21 n) (h0 : a ≠ 0) (hx : inb x n) (kk : SB P d K ops e lv st (S (mput M a x.toNatClampNeg v.toInt8.toInt32)) r) : SB P d K ((pc, .bastore, 1) :: ops) e lv (.int v :: .int x :: .ref a :: st) (S M) r := sb_bast hs.1 (S_lt hs.2) hx (by rw [S_eq (mput_ne _ _ _ _ _ _ (fun h => h0 h.1.symm))]; exact kk)
theorem ss_last {x : Int32} {v : Int64} (hs : shp a 22 n) (h0 : a ≠ 0) (hx : inb x n) (kk : SB P d K ops e lv st (S (mpl M a x.toNatClampNeg v)) r) : SB P d K ((pc, .lastore, 1) :: ops) e lv (.long v :: .int x :: .ref a :: st) (S M) r := sb_last hs.1 (S_lt hs.2) hx (by rw [S_eq (by rw [mpl_row _ _ _ _ _ (Ne.symm h0)])]; exact kk)
theorem ss_copy {n0 n1 : Nat} {sp dp z : Int32} (hl : Cond.methodLink (rnOwn (kOc K)) i arraycopyName ∈ lw_tbl) (hna : Cond.native arraycopyName ∈ lw_tbl) (hst : Cond.static arraycopyName ∈ lw_tbl) (hin : Cond.initialized "java/lang/System" ∈ lw_tbl) (hs0 : shp a 20 n0) (hs1 : shp b 20 n1) (hb0 : b ≠ 0) (hg : ¬ sp < 0 ∧ ¬ dp < 0 ∧ ¬ z < 0 ∧ sp.toNatClampNeg + z.toNatClampNeg ≤ n0 ∧ dp.toNatClampNeg + z.toNatClampNeg ≤ n1) (hd : 1 ≤ d) (hr : Nat.ble (rnCat st) 4 = true)
    (k : SB P d K ops e lv st (S (mcp M a b sp.toNatClampNeg dp.toNatClampNeg z.toNatClampNeg)) r) : SB P d K ((pc, .invokestatic i, 3) :: ops) e lv (.int z :: .int dp :: .ref b :: .int sp :: .ref a :: st) (S M) r :=
  sb_copy hl hna hst hin hs0.1 (S_lt hs0.2) hs1.1 (S_lt hs1.2) hg.1 hg.2.1 hg.2.2.1 hg.2.2.2.1 hg.2.2.2.2 hd hr (by rw [S_eq (by simp [mcp, Ne.symm hb0])]; exact k)
theorem ss_iinc {j : Nat} {z : Int} {c x : Int32} (hc : Int32.ofInt z = c) (hx : lvG lv j = some (.int x)) (hj : j < kML K) (hu : (lvU lv && lvF lv j) = true) (k : SB P d K ops e (lvS lv j (.int (x + c))) st (S M) r) : SB P d K ((pc, .iinc j z, 3) :: ops) e lv st (S M) r := sb_iinc hx hj hu (by rw [hc]; exact k)
theorem ss_ialdL {x : Int32} (k : Nat) (hs : shp a 20 n) (hx : x = nI k ∧ k < 100000) (hk : Nat.ble (k + 1) n = true) (kk : SB P d K ops e lv (.int (M a k) :: st) (S M) r) : SB P d K ((pc, .iaload, 1) :: ops) e lv (.int x :: .ref a :: st) (S M) r := by
  have hl : k < n := Nat.le_of_ble_eq_true hk
  have e1 : x.toNatClampNeg = k := by rw [hx.1]; exact nI_clamp (by have := hx.2; omega)
  refine ss_iald hs (fun h => ?_) (by rw [e1]; exact kk)
  rcases h with h | h
  · rw [hx.1] at h; exact nI_pos (by have := hx.2; omega) h
  · rw [e1] at h; omega
theorem ss_iastL {x v : Int32} (k : Nat) (hs : shp a 20 n) (h0 : a ≠ 0) (hx : x = nI k ∧ k < 100000) (hk : Nat.ble (k + 1) n = true) (kk : SB P d K ops e lv st (S (mput M a k v)) r) : SB P d K ((pc, .iastore, 1) :: ops) e lv (.int v :: .int x :: .ref a :: st) (S M) r := by
  have hl : k < n := Nat.le_of_ble_eq_true hk
  have e1 : x.toNatClampNeg = k := by rw [hx.1]; exact nI_clamp (by have := hx.2; omega)
  refine ss_iast hs h0 (fun h => ?_) (by rw [e1]; exact kk)
  rcases h with h | h
  · rw [hx.1] at h; exact nI_pos (by have := hx.2; omega) h
  · rw [e1] at h; omega
theorem h0 : shp 0 11 15 := by decide +kernel
theorem h1 : shp 1 10 14 := by decide +kernel
theorem h2 : shp 2 1 6 := by decide +kernel
theorem h3 : shp 3 20 12 := by decide +kernel
theorem h4 : shp 4 20 12 := by decide +kernel
theorem h5 : shp 5 20 12 := by decide +kernel
theorem h6 : shp 6 20 12 := by decide +kernel
theorem h7 : shp 7 20 12 := by decide +kernel
theorem h8 : shp 8 0 7 := by decide +kernel
theorem h9 : shp 9 20 24 := by decide +kernel
theorem h10 : shp 10 20 24 := by decide +kernel
theorem h11 : shp 11 20 24 := by decide +kernel
theorem h12 : shp 12 20 24 := by decide +kernel
theorem h13 : shp 13 20 24 := by decide +kernel
theorem h14 : shp 14 20 7 := by decide +kernel
theorem h15 : shp 15 20 600 := by decide +kernel
theorem h16 : shp 16 10 14 := by decide +kernel
theorem h17 : shp 17 1 6 := by decide +kernel
theorem h18 : shp 18 20 12 := by decide +kernel
theorem h19 : shp 19 20 12 := by decide +kernel
theorem h20 : shp 20 20 12 := by decide +kernel
theorem h21 : shp 21 20 12 := by decide +kernel
theorem h22 : shp 22 20 12 := by decide +kernel
theorem h23 : shp 23 0 7 := by decide +kernel
theorem h24 : shp 24 20 24 := by decide +kernel
theorem h25 : shp 25 20 24 := by decide +kernel
theorem h26 : shp 26 20 24 := by decide +kernel
theorem h27 : shp 27 20 24 := by decide +kernel
theorem h28 : shp 28 20 24 := by decide +kernel
theorem h29 : shp 29 20 7 := by decide +kernel
theorem h30 : shp 30 20 0 := by decide +kernel
theorem h31 : shp 31 4 3 := by decide +kernel
theorem h32 : shp 32 23 6 := by decide +kernel
theorem h33 : shp 33 10 14 := by decide +kernel
theorem h34 : shp 34 1 6 := by decide +kernel
theorem h35 : shp 35 20 12 := by decide +kernel
theorem h36 : shp 36 20 12 := by decide +kernel
theorem h37 : shp 37 20 12 := by decide +kernel
theorem h38 : shp 38 20 12 := by decide +kernel
theorem h39 : shp 39 20 12 := by decide +kernel
theorem h40 : shp 40 0 7 := by decide +kernel
theorem h41 : shp 41 20 24 := by decide +kernel
theorem h42 : shp 42 20 24 := by decide +kernel
theorem h43 : shp 43 20 24 := by decide +kernel
theorem h44 : shp 44 20 24 := by decide +kernel
theorem h45 : shp 45 20 24 := by decide +kernel
theorem h46 : shp 46 20 7 := by decide +kernel
theorem h47 : shp 47 20 0 := by decide +kernel
theorem h48 : shp 48 10 14 := by decide +kernel
theorem h49 : shp 49 1 6 := by decide +kernel
theorem h50 : shp 50 20 12 := by decide +kernel
theorem h51 : shp 51 20 12 := by decide +kernel
theorem h52 : shp 52 20 12 := by decide +kernel
theorem h53 : shp 53 20 12 := by decide +kernel
theorem h54 : shp 54 20 12 := by decide +kernel
theorem h55 : shp 55 0 7 := by decide +kernel
theorem h56 : shp 56 20 24 := by decide +kernel
theorem h57 : shp 57 20 24 := by decide +kernel
theorem h58 : shp 58 20 24 := by decide +kernel
theorem h59 : shp 59 20 24 := by decide +kernel
theorem h60 : shp 60 20 24 := by decide +kernel
theorem h61 : shp 61 20 7 := by decide +kernel
theorem h62 : shp 62 20 0 := by decide +kernel
theorem h63 : shp 63 10 14 := by decide +kernel
theorem h64 : shp 64 1 6 := by decide +kernel
theorem h65 : shp 65 20 12 := by decide +kernel
theorem h66 : shp 66 20 12 := by decide +kernel
theorem h67 : shp 67 20 12 := by decide +kernel
theorem h68 : shp 68 20 12 := by decide +kernel
theorem h69 : shp 69 20 12 := by decide +kernel
theorem h70 : shp 70 0 7 := by decide +kernel
theorem h71 : shp 71 20 24 := by decide +kernel
theorem h72 : shp 72 20 24 := by decide +kernel
theorem h73 : shp 73 20 24 := by decide +kernel
theorem h74 : shp 74 20 24 := by decide +kernel
theorem h75 : shp 75 20 24 := by decide +kernel
theorem h76 : shp 76 20 7 := by decide +kernel
theorem h77 : shp 77 20 0 := by decide +kernel
theorem h78 : shp 78 10 14 := by decide +kernel
theorem h79 : shp 79 1 6 := by decide +kernel
theorem h80 : shp 80 20 12 := by decide +kernel
theorem h81 : shp 81 20 12 := by decide +kernel
theorem h82 : shp 82 20 12 := by decide +kernel
theorem h83 : shp 83 20 12 := by decide +kernel
theorem h84 : shp 84 20 12 := by decide +kernel
theorem h85 : shp 85 0 7 := by decide +kernel
theorem h86 : shp 86 20 24 := by decide +kernel
theorem h87 : shp 87 20 24 := by decide +kernel
theorem h88 : shp 88 20 24 := by decide +kernel
theorem h89 : shp 89 20 24 := by decide +kernel
theorem h90 : shp 90 20 24 := by decide +kernel
theorem h91 : shp 91 20 7 := by decide +kernel
theorem h92 : shp 92 20 0 := by decide +kernel
theorem h93 : shp 93 10 14 := by decide +kernel
theorem h94 : shp 94 1 6 := by decide +kernel
theorem h95 : shp 95 20 12 := by decide +kernel
theorem h96 : shp 96 20 12 := by decide +kernel
theorem h97 : shp 97 20 12 := by decide +kernel
theorem h98 : shp 98 20 12 := by decide +kernel
theorem h99 : shp 99 20 12 := by decide +kernel
theorem h100 : shp 100 0 7 := by decide +kernel
theorem h101 : shp 101 20 24 := by decide +kernel
theorem h102 : shp 102 20 24 := by decide +kernel
theorem h103 : shp 103 20 24 := by decide +kernel
theorem h104 : shp 104 20 24 := by decide +kernel
theorem h105 : shp 105 20 24 := by decide +kernel
theorem h106 : shp 106 20 7 := by decide +kernel
theorem h107 : shp 107 20 0 := by decide +kernel
theorem h108 : shp 108 10 14 := by decide +kernel
theorem h109 : shp 109 1 6 := by decide +kernel
theorem h110 : shp 110 20 12 := by decide +kernel
theorem h111 : shp 111 20 12 := by decide +kernel
theorem h112 : shp 112 20 12 := by decide +kernel
theorem h113 : shp 113 20 12 := by decide +kernel
theorem h114 : shp 114 20 12 := by decide +kernel
theorem h115 : shp 115 0 7 := by decide +kernel
theorem h116 : shp 116 20 24 := by decide +kernel
theorem h117 : shp 117 20 24 := by decide +kernel
theorem h118 : shp 118 20 24 := by decide +kernel
theorem h119 : shp 119 20 24 := by decide +kernel
theorem h120 : shp 120 20 24 := by decide +kernel
theorem h121 : shp 121 20 7 := by decide +kernel
theorem h122 : shp 122 20 0 := by decide +kernel
theorem h123 : shp 123 6 10 := by decide +kernel
theorem h124 : shp 124 2 9 := by decide +kernel
theorem h125 : shp 125 20 16 := by decide +kernel
theorem h126 : shp 126 20 16 := by decide +kernel
theorem h127 : shp 127 20 16 := by decide +kernel
theorem h128 : shp 128 20 16 := by decide +kernel
theorem h129 : shp 129 20 400 := by decide +kernel
theorem h130 : shp 130 20 11 := by decide +kernel
theorem h131 : shp 131 20 32 := by decide +kernel
theorem h132 : shp 132 20 16 := by decide +kernel
theorem h133 : shp 133 20 16 := by decide +kernel
theorem h134 : shp 134 20 16 := by decide +kernel
theorem h135 : shp 135 20 16 := by decide +kernel
theorem h136 : shp 136 20 16 := by decide +kernel
theorem h137 : shp 137 20 144 := by decide +kernel
theorem h138 : shp 138 8 12 := by decide +kernel
theorem h139 : shp 139 20 8 := by decide +kernel
theorem h140 : shp 140 20 12 := by decide +kernel
theorem h141 : shp 141 20 26 := by decide +kernel
theorem h142 : shp 142 20 26 := by decide +kernel
theorem h143 : shp 143 20 49 := by decide +kernel
theorem h144 : shp 144 20 8 := by decide +kernel
theorem h145 : shp 145 20 8 := by decide +kernel
theorem h146 : shp 146 5 9 := by decide +kernel
theorem h147 : shp 147 6 10 := by decide +kernel
theorem h148 : shp 148 2 9 := by decide +kernel
theorem h149 : shp 149 20 16 := by decide +kernel
theorem h150 : shp 150 20 16 := by decide +kernel
theorem h151 : shp 151 20 16 := by decide +kernel
theorem h152 : shp 152 20 16 := by decide +kernel
theorem h153 : shp 153 20 400 := by decide +kernel
theorem h154 : shp 154 20 11 := by decide +kernel
theorem h155 : shp 155 20 32 := by decide +kernel
theorem h156 : shp 156 20 16 := by decide +kernel
theorem h157 : shp 157 20 16 := by decide +kernel
theorem h158 : shp 158 20 16 := by decide +kernel
theorem h159 : shp 159 20 16 := by decide +kernel
theorem h160 : shp 160 20 16 := by decide +kernel
theorem h161 : shp 161 20 144 := by decide +kernel
theorem h162 : shp 162 7 5 := by decide +kernel
theorem h163 : shp 163 20 401 := by decide +kernel
theorem h164 : shp 164 20 401 := by decide +kernel
theorem h165 : shp 165 20 401 := by decide +kernel
theorem h166 : shp 166 20 401 := by decide +kernel
theorem h167 : shp 167 20 32 := by decide +kernel
theorem h168 : shp 168 3 4 := by decide +kernel
theorem h169 : shp 169 20 256 := by decide +kernel
theorem h170 : shp 170 20 12 := by decide +kernel
theorem h171 : shp 171 22 6 := by decide +kernel
theorem h172 : shp 172 20 6 := by decide +kernel
theorem h173 : shp 173 9 3 := by decide +kernel
theorem h174 : shp 174 20 144 := by decide +kernel
theorem h175 : shp 175 20 8 := by decide +kernel
theorem h176 : shp 176 20 12 := by decide +kernel
theorem h177 : shp 177 20 0 := by decide +kernel
theorem h178 : shp 178 21 400 := by decide +kernel
theorem h179 : shp 179 10 14 := by decide +kernel
theorem h180 : shp 180 1 6 := by decide +kernel
theorem h181 : shp 181 20 12 := by decide +kernel
theorem h182 : shp 182 20 12 := by decide +kernel
theorem h183 : shp 183 20 12 := by decide +kernel
theorem h184 : shp 184 20 12 := by decide +kernel
theorem h185 : shp 185 20 12 := by decide +kernel
theorem h186 : shp 186 0 7 := by decide +kernel
theorem h187 : shp 187 20 24 := by decide +kernel
theorem h188 : shp 188 20 24 := by decide +kernel
theorem h189 : shp 189 20 24 := by decide +kernel
theorem h190 : shp 190 20 24 := by decide +kernel
theorem h191 : shp 191 20 24 := by decide +kernel
theorem h192 : shp 192 20 7 := by decide +kernel
theorem h193 : shp 193 20 600 := by decide +kernel
theorem h194 : shp 194 6 10 := by decide +kernel
theorem h195 : shp 195 2 9 := by decide +kernel
theorem h196 : shp 196 20 16 := by decide +kernel
theorem h197 : shp 197 20 16 := by decide +kernel
theorem h198 : shp 198 20 16 := by decide +kernel
theorem h199 : shp 199 20 16 := by decide +kernel
theorem h200 : shp 200 20 400 := by decide +kernel
theorem h201 : shp 201 20 11 := by decide +kernel
theorem h202 : shp 202 20 32 := by decide +kernel
theorem h203 : shp 203 20 16 := by decide +kernel
theorem h204 : shp 204 20 16 := by decide +kernel
theorem h205 : shp 205 20 16 := by decide +kernel
theorem h206 : shp 206 20 16 := by decide +kernel
theorem h207 : shp 207 20 16 := by decide +kernel
theorem h208 : shp 208 20 144 := by decide +kernel
theorem h209 : shp 209 8 12 := by decide +kernel
theorem h210 : shp 210 20 8 := by decide +kernel
theorem h211 : shp 211 20 12 := by decide +kernel
theorem h212 : shp 212 20 26 := by decide +kernel
theorem h213 : shp 213 20 26 := by decide +kernel
theorem h214 : shp 214 20 49 := by decide +kernel
theorem h215 : shp 215 20 8 := by decide +kernel
theorem h216 : shp 216 20 8 := by decide +kernel
theorem h217 : shp 217 12 64 := by decide +kernel
theorem h218 : shp 218 20 174 := by decide +kernel
theorem h219 : shp 219 20 1044 := by decide +kernel
theorem h220 : shp 220 20 174 := by decide +kernel
theorem h221 : shp 221 20 12 := by decide +kernel
theorem h222 : shp 222 20 600 := by decide +kernel
theorem h223 : shp 223 20 400 := by decide +kernel
theorem h224 : shp 224 20 153 := by decide +kernel
theorem h225 : shp 225 20 2 := by decide +kernel
theorem h226 : shp 226 20 48 := by decide +kernel
theorem h227 : shp 227 20 48 := by decide +kernel
theorem h228 : shp 228 20 48 := by decide +kernel
theorem h229 : shp 229 20 48 := by decide +kernel
theorem h230 : shp 230 20 1200 := by decide +kernel
theorem h231 : shp 231 20 1200 := by decide +kernel
theorem h232 : shp 232 20 40 := by decide +kernel
theorem h233 : shp 233 20 128 := by decide +kernel
theorem h234 : shp 234 20 32 := by decide +kernel
theorem h235 : shp 235 20 288 := by decide +kernel
theorem h236 : shp 236 20 11 := by decide +kernel
theorem h237 : shp 237 20 420 := by decide +kernel
theorem h238 : shp 238 20 144 := by decide +kernel
theorem h239 : shp 239 20 12 := by decide +kernel
theorem h240 : shp 240 20 2048 := by decide +kernel
theorem h241 : shp 241 20 8 := by decide +kernel
theorem h242 : shp 242 20 256 := by decide +kernel
theorem h243 : shp 243 20 10025 := by decide +kernel
theorem h244 : shp 244 20 12 := by decide +kernel
theorem h245 : shp 245 20 4096 := by decide +kernel
theorem h246 : shp 246 20 26 := by decide +kernel
theorem h247 : shp 247 20 8 := by decide +kernel
theorem h248 : shp 248 20 49 := by decide +kernel
theorem h249 : shp 249 20 8 := by decide +kernel
theorem h250 : shp 250 20 8 := by decide +kernel
theorem h251 : shp 251 20 2300 := by decide +kernel
def Wd (w : Nat) : Prop := w ∈ [1, 16, 33, 48, 63, 78, 93, 108, 179]
def Bg (w : Nat) : Prop := w ∈ [8, 23, 40, 55, 70, 85, 100, 115, 186]
def Dr (w : Nat) : Prop := w ∈ [2, 17, 34, 49, 64, 79, 94, 109, 180]
def Tx (w : Nat) : Prop := w ∈ [123, 147, 194]
def Lw (w : Nat) : Prop := w ∈ [124, 148, 195]
def Td (w : Nat) : Prop := w ∈ [138, 209]
/-- how long a world's book is -/
def kbl (w : Nat) : Nat := if w = 1 ∨ w = 179 then 600 else 0
theorem hWd0 {w : Nat} (h : Wd w) : shp w 10 14 := (show ∀ w ∈ [1, 16, 33, 48, 63, 78, 93, 108, 179], shp w 10 14 by decide +kernel) w h
theorem hWd1 {w : Nat} (h : Wd w) : shp (w + 1) 1 6 := (show ∀ w ∈ [1, 16, 33, 48, 63, 78, 93, 108, 179], shp (w + 1) 1 6 by decide +kernel) w h
theorem hWd2 {w : Nat} (h : Wd w) : shp (w + 2) 20 12 := (show ∀ w ∈ [1, 16, 33, 48, 63, 78, 93, 108, 179], shp (w + 2) 20 12 by decide +kernel) w h
theorem hWd3 {w : Nat} (h : Wd w) : shp (w + 3) 20 12 := (show ∀ w ∈ [1, 16, 33, 48, 63, 78, 93, 108, 179], shp (w + 3) 20 12 by decide +kernel) w h
theorem hWd4 {w : Nat} (h : Wd w) : shp (w + 4) 20 12 := (show ∀ w ∈ [1, 16, 33, 48, 63, 78, 93, 108, 179], shp (w + 4) 20 12 by decide +kernel) w h
theorem hWd5 {w : Nat} (h : Wd w) : shp (w + 5) 20 12 := (show ∀ w ∈ [1, 16, 33, 48, 63, 78, 93, 108, 179], shp (w + 5) 20 12 by decide +kernel) w h
theorem hWd6 {w : Nat} (h : Wd w) : shp (w + 6) 20 12 := (show ∀ w ∈ [1, 16, 33, 48, 63, 78, 93, 108, 179], shp (w + 6) 20 12 by decide +kernel) w h
theorem hWd7 {w : Nat} (h : Wd w) : shp (w + 7) 0 7 := (show ∀ w ∈ [1, 16, 33, 48, 63, 78, 93, 108, 179], shp (w + 7) 0 7 by decide +kernel) w h
theorem hWd8 {w : Nat} (h : Wd w) : shp (w + 8) 20 24 := (show ∀ w ∈ [1, 16, 33, 48, 63, 78, 93, 108, 179], shp (w + 8) 20 24 by decide +kernel) w h
theorem hWd9 {w : Nat} (h : Wd w) : shp (w + 9) 20 24 := (show ∀ w ∈ [1, 16, 33, 48, 63, 78, 93, 108, 179], shp (w + 9) 20 24 by decide +kernel) w h
theorem hWd10 {w : Nat} (h : Wd w) : shp (w + 10) 20 24 := (show ∀ w ∈ [1, 16, 33, 48, 63, 78, 93, 108, 179], shp (w + 10) 20 24 by decide +kernel) w h
theorem hWd11 {w : Nat} (h : Wd w) : shp (w + 11) 20 24 := (show ∀ w ∈ [1, 16, 33, 48, 63, 78, 93, 108, 179], shp (w + 11) 20 24 by decide +kernel) w h
theorem hWd12 {w : Nat} (h : Wd w) : shp (w + 12) 20 24 := (show ∀ w ∈ [1, 16, 33, 48, 63, 78, 93, 108, 179], shp (w + 12) 20 24 by decide +kernel) w h
theorem hWd13 {w : Nat} (h : Wd w) : shp (w + 13) 20 7 := (show ∀ w ∈ [1, 16, 33, 48, 63, 78, 93, 108, 179], shp (w + 13) 20 7 by decide +kernel) w h
theorem hWd14 {w : Nat} (h : Wd w) : shp (w + 14) 20 (kbl w) := (show ∀ w ∈ [1, 16, 33, 48, 63, 78, 93, 108, 179], shp (w + 14) 20 (kbl w) by decide +kernel) w h
theorem hBg0 {w : Nat} (h : Bg w) : shp w 0 7 := (show ∀ w ∈ [8, 23, 40, 55, 70, 85, 100, 115, 186], shp w 0 7 by decide +kernel) w h
theorem hBg1 {w : Nat} (h : Bg w) : shp (w + 1) 20 24 := (show ∀ w ∈ [8, 23, 40, 55, 70, 85, 100, 115, 186], shp (w + 1) 20 24 by decide +kernel) w h
theorem hBg2 {w : Nat} (h : Bg w) : shp (w + 2) 20 24 := (show ∀ w ∈ [8, 23, 40, 55, 70, 85, 100, 115, 186], shp (w + 2) 20 24 by decide +kernel) w h
theorem hBg3 {w : Nat} (h : Bg w) : shp (w + 3) 20 24 := (show ∀ w ∈ [8, 23, 40, 55, 70, 85, 100, 115, 186], shp (w + 3) 20 24 by decide +kernel) w h
theorem hBg4 {w : Nat} (h : Bg w) : shp (w + 4) 20 24 := (show ∀ w ∈ [8, 23, 40, 55, 70, 85, 100, 115, 186], shp (w + 4) 20 24 by decide +kernel) w h
theorem hBg5 {w : Nat} (h : Bg w) : shp (w + 5) 20 24 := (show ∀ w ∈ [8, 23, 40, 55, 70, 85, 100, 115, 186], shp (w + 5) 20 24 by decide +kernel) w h
theorem hDr0 {w : Nat} (h : Dr w) : shp w 1 6 := (show ∀ w ∈ [2, 17, 34, 49, 64, 79, 94, 109, 180], shp w 1 6 by decide +kernel) w h
theorem hDr1 {w : Nat} (h : Dr w) : shp (w + 1) 20 12 := (show ∀ w ∈ [2, 17, 34, 49, 64, 79, 94, 109, 180], shp (w + 1) 20 12 by decide +kernel) w h
theorem hDr2 {w : Nat} (h : Dr w) : shp (w + 2) 20 12 := (show ∀ w ∈ [2, 17, 34, 49, 64, 79, 94, 109, 180], shp (w + 2) 20 12 by decide +kernel) w h
theorem hDr3 {w : Nat} (h : Dr w) : shp (w + 3) 20 12 := (show ∀ w ∈ [2, 17, 34, 49, 64, 79, 94, 109, 180], shp (w + 3) 20 12 by decide +kernel) w h
theorem hDr4 {w : Nat} (h : Dr w) : shp (w + 4) 20 12 := (show ∀ w ∈ [2, 17, 34, 49, 64, 79, 94, 109, 180], shp (w + 4) 20 12 by decide +kernel) w h
theorem hDr5 {w : Nat} (h : Dr w) : shp (w + 5) 20 12 := (show ∀ w ∈ [2, 17, 34, 49, 64, 79, 94, 109, 180], shp (w + 5) 20 12 by decide +kernel) w h
theorem hTx0 {w : Nat} (h : Tx w) : shp w 6 10 := (show ∀ w ∈ [123, 147, 194], shp w 6 10 by decide +kernel) w h
theorem hTx1 {w : Nat} (h : Tx w) : shp (w + 1) 2 9 := (show ∀ w ∈ [123, 147, 194], shp (w + 1) 2 9 by decide +kernel) w h
theorem hTx2 {w : Nat} (h : Tx w) : shp (w + 2) 20 16 := (show ∀ w ∈ [123, 147, 194], shp (w + 2) 20 16 by decide +kernel) w h
theorem hTx3 {w : Nat} (h : Tx w) : shp (w + 3) 20 16 := (show ∀ w ∈ [123, 147, 194], shp (w + 3) 20 16 by decide +kernel) w h
theorem hTx4 {w : Nat} (h : Tx w) : shp (w + 4) 20 16 := (show ∀ w ∈ [123, 147, 194], shp (w + 4) 20 16 by decide +kernel) w h
theorem hTx5 {w : Nat} (h : Tx w) : shp (w + 5) 20 16 := (show ∀ w ∈ [123, 147, 194], shp (w + 5) 20 16 by decide +kernel) w h
theorem hTx6 {w : Nat} (h : Tx w) : shp (w + 6) 20 400 := (show ∀ w ∈ [123, 147, 194], shp (w + 6) 20 400 by decide +kernel) w h
theorem hTx7 {w : Nat} (h : Tx w) : shp (w + 7) 20 11 := (show ∀ w ∈ [123, 147, 194], shp (w + 7) 20 11 by decide +kernel) w h
theorem hTx8 {w : Nat} (h : Tx w) : shp (w + 8) 20 32 := (show ∀ w ∈ [123, 147, 194], shp (w + 8) 20 32 by decide +kernel) w h
theorem hTx9 {w : Nat} (h : Tx w) : shp (w + 9) 20 16 := (show ∀ w ∈ [123, 147, 194], shp (w + 9) 20 16 by decide +kernel) w h
theorem hTx10 {w : Nat} (h : Tx w) : shp (w + 10) 20 16 := (show ∀ w ∈ [123, 147, 194], shp (w + 10) 20 16 by decide +kernel) w h
theorem hTx11 {w : Nat} (h : Tx w) : shp (w + 11) 20 16 := (show ∀ w ∈ [123, 147, 194], shp (w + 11) 20 16 by decide +kernel) w h
theorem hTx12 {w : Nat} (h : Tx w) : shp (w + 12) 20 16 := (show ∀ w ∈ [123, 147, 194], shp (w + 12) 20 16 by decide +kernel) w h
theorem hTx13 {w : Nat} (h : Tx w) : shp (w + 13) 20 16 := (show ∀ w ∈ [123, 147, 194], shp (w + 13) 20 16 by decide +kernel) w h
theorem hTx14 {w : Nat} (h : Tx w) : shp (w + 14) 20 144 := (show ∀ w ∈ [123, 147, 194], shp (w + 14) 20 144 by decide +kernel) w h
theorem hLw0 {w : Nat} (h : Lw w) : shp w 2 9 := (show ∀ w ∈ [124, 148, 195], shp w 2 9 by decide +kernel) w h
theorem hLw1 {w : Nat} (h : Lw w) : shp (w + 1) 20 16 := (show ∀ w ∈ [124, 148, 195], shp (w + 1) 20 16 by decide +kernel) w h
theorem hLw2 {w : Nat} (h : Lw w) : shp (w + 2) 20 16 := (show ∀ w ∈ [124, 148, 195], shp (w + 2) 20 16 by decide +kernel) w h
theorem hLw3 {w : Nat} (h : Lw w) : shp (w + 3) 20 16 := (show ∀ w ∈ [124, 148, 195], shp (w + 3) 20 16 by decide +kernel) w h
theorem hLw4 {w : Nat} (h : Lw w) : shp (w + 4) 20 16 := (show ∀ w ∈ [124, 148, 195], shp (w + 4) 20 16 by decide +kernel) w h
theorem hLw5 {w : Nat} (h : Lw w) : shp (w + 5) 20 400 := (show ∀ w ∈ [124, 148, 195], shp (w + 5) 20 400 by decide +kernel) w h
theorem hLw6 {w : Nat} (h : Lw w) : shp (w + 6) 20 11 := (show ∀ w ∈ [124, 148, 195], shp (w + 6) 20 11 by decide +kernel) w h
theorem hLw7 {w : Nat} (h : Lw w) : shp (w + 7) 20 32 := (show ∀ w ∈ [124, 148, 195], shp (w + 7) 20 32 by decide +kernel) w h
theorem hTd0 {w : Nat} (h : Td w) : shp w 8 12 := (show ∀ w ∈ [138, 209], shp w 8 12 by decide +kernel) w h
theorem hTd1 {w : Nat} (h : Td w) : shp (w + 1) 20 8 := (show ∀ w ∈ [138, 209], shp (w + 1) 20 8 by decide +kernel) w h
theorem hTd2 {w : Nat} (h : Td w) : shp (w + 2) 20 12 := (show ∀ w ∈ [138, 209], shp (w + 2) 20 12 by decide +kernel) w h
theorem hTd3 {w : Nat} (h : Td w) : shp (w + 3) 20 26 := (show ∀ w ∈ [138, 209], shp (w + 3) 20 26 by decide +kernel) w h
theorem hTd4 {w : Nat} (h : Td w) : shp (w + 4) 20 26 := (show ∀ w ∈ [138, 209], shp (w + 4) 20 26 by decide +kernel) w h
theorem hTd5 {w : Nat} (h : Td w) : shp (w + 5) 20 49 := (show ∀ w ∈ [138, 209], shp (w + 5) 20 49 by decide +kernel) w h
theorem hTd6 {w : Nat} (h : Td w) : shp (w + 6) 20 8 := (show ∀ w ∈ [138, 209], shp (w + 6) 20 8 by decide +kernel) w h
theorem hTd7 {w : Nat} (h : Td w) : shp (w + 7) 20 8 := (show ∀ w ∈ [138, 209], shp (w + 7) 20 8 by decide +kernel) w h
theorem r0_0 : rnRF 0 0 = some 1 ∧ ¬ (0 = 0 ∧ 0 = 8) := by decide +kernel
theorem r0_1 : rnRF 0 1 = some 16 ∧ ¬ (0 = 0 ∧ 1 = 8) := by decide +kernel
theorem r0_2 : rnRF 0 2 = some 31 ∧ ¬ (0 = 0 ∧ 2 = 8) := by decide +kernel
theorem r0_3 : rnRF 0 3 = some 123 ∧ ¬ (0 = 0 ∧ 3 = 8) := by decide +kernel
theorem r0_4 : rnRF 0 4 = some 138 ∧ ¬ (0 = 0 ∧ 4 = 8) := by decide +kernel
theorem r0_5 : rnRF 0 5 = some 146 ∧ ¬ (0 = 0 ∧ 5 = 8) := by decide +kernel
theorem r0_6 : rnRF 0 6 = some 168 ∧ ¬ (0 = 0 ∧ 6 = 8) := by decide +kernel
theorem r0_7 : rnRF 0 7 = some 173 ∧ ¬ (0 = 0 ∧ 7 = 8) := by decide +kernel
theorem r0_9 : rnRF 0 9 = some 178 ∧ ¬ (0 = 0 ∧ 9 = 8) := by decide +kernel
theorem r0_11 : rnRF 0 11 = some 179 ∧ ¬ (0 = 0 ∧ 11 = 8) := by decide +kernel
theorem r0_12 : rnRF 0 12 = some 194 ∧ ¬ (0 = 0 ∧ 12 = 8) := by decide +kernel
theorem r0_13 : rnRF 0 13 = some 209 ∧ ¬ (0 = 0 ∧ 13 = 8) := by decide +kernel
theorem r1_0 : rnRF 1 0 = some 2 ∧ ¬ (1 = 0 ∧ 0 = 8) := by decide +kernel
theorem r1_1 : rnRF 1 1 = some 8 ∧ ¬ (1 = 0 ∧ 1 = 8) := by decide +kernel
theorem r1_2 : rnRF 1 2 = some 14 ∧ ¬ (1 = 0 ∧ 2 = 8) := by decide +kernel
theorem r1_3 : rnRF 1 3 = some 15 ∧ ¬ (1 = 0 ∧ 3 = 8) := by decide +kernel
theorem r2_1 : rnRF 2 1 = some 3 ∧ ¬ (2 = 0 ∧ 1 = 8) := by decide +kernel
theorem r2_2 : rnRF 2 2 = some 4 ∧ ¬ (2 = 0 ∧ 2 = 8) := by decide +kernel
theorem r2_3 : rnRF 2 3 = some 5 ∧ ¬ (2 = 0 ∧ 3 = 8) := by decide +kernel
theorem r2_4 : rnRF 2 4 = some 6 ∧ ¬ (2 = 0 ∧ 4 = 8) := by decide +kernel
theorem r2_5 : rnRF 2 5 = some 7 ∧ ¬ (2 = 0 ∧ 5 = 8) := by decide +kernel
theorem r8_2 : rnRF 8 2 = some 9 ∧ ¬ (8 = 0 ∧ 2 = 8) := by decide +kernel
theorem r8_3 : rnRF 8 3 = some 10 ∧ ¬ (8 = 0 ∧ 3 = 8) := by decide +kernel
theorem r8_4 : rnRF 8 4 = some 11 ∧ ¬ (8 = 0 ∧ 4 = 8) := by decide +kernel
theorem r8_5 : rnRF 8 5 = some 12 ∧ ¬ (8 = 0 ∧ 5 = 8) := by decide +kernel
theorem r8_6 : rnRF 8 6 = some 13 ∧ ¬ (8 = 0 ∧ 6 = 8) := by decide +kernel
theorem r16_0 : rnRF 16 0 = some 17 ∧ ¬ (16 = 0 ∧ 0 = 8) := by decide +kernel
theorem r16_1 : rnRF 16 1 = some 23 ∧ ¬ (16 = 0 ∧ 1 = 8) := by decide +kernel
theorem r16_2 : rnRF 16 2 = some 29 ∧ ¬ (16 = 0 ∧ 2 = 8) := by decide +kernel
theorem r16_3 : rnRF 16 3 = some 30 ∧ ¬ (16 = 0 ∧ 3 = 8) := by decide +kernel
theorem r17_1 : rnRF 17 1 = some 18 ∧ ¬ (17 = 0 ∧ 1 = 8) := by decide +kernel
theorem r17_2 : rnRF 17 2 = some 19 ∧ ¬ (17 = 0 ∧ 2 = 8) := by decide +kernel
theorem r17_3 : rnRF 17 3 = some 20 ∧ ¬ (17 = 0 ∧ 3 = 8) := by decide +kernel
theorem r17_4 : rnRF 17 4 = some 21 ∧ ¬ (17 = 0 ∧ 4 = 8) := by decide +kernel
theorem r17_5 : rnRF 17 5 = some 22 ∧ ¬ (17 = 0 ∧ 5 = 8) := by decide +kernel
theorem r23_2 : rnRF 23 2 = some 24 ∧ ¬ (23 = 0 ∧ 2 = 8) := by decide +kernel
theorem r23_3 : rnRF 23 3 = some 25 ∧ ¬ (23 = 0 ∧ 3 = 8) := by decide +kernel
theorem r23_4 : rnRF 23 4 = some 26 ∧ ¬ (23 = 0 ∧ 4 = 8) := by decide +kernel
theorem r23_5 : rnRF 23 5 = some 27 ∧ ¬ (23 = 0 ∧ 5 = 8) := by decide +kernel
theorem r23_6 : rnRF 23 6 = some 28 ∧ ¬ (23 = 0 ∧ 6 = 8) := by decide +kernel
theorem r31_2 : rnRF 31 2 = some 32 ∧ ¬ (31 = 0 ∧ 2 = 8) := by decide +kernel
theorem r33_0 : rnRF 33 0 = some 34 ∧ ¬ (33 = 0 ∧ 0 = 8) := by decide +kernel
theorem r33_1 : rnRF 33 1 = some 40 ∧ ¬ (33 = 0 ∧ 1 = 8) := by decide +kernel
theorem r33_2 : rnRF 33 2 = some 46 ∧ ¬ (33 = 0 ∧ 2 = 8) := by decide +kernel
theorem r33_3 : rnRF 33 3 = some 47 ∧ ¬ (33 = 0 ∧ 3 = 8) := by decide +kernel
theorem r34_1 : rnRF 34 1 = some 35 ∧ ¬ (34 = 0 ∧ 1 = 8) := by decide +kernel
theorem r34_2 : rnRF 34 2 = some 36 ∧ ¬ (34 = 0 ∧ 2 = 8) := by decide +kernel
theorem r34_3 : rnRF 34 3 = some 37 ∧ ¬ (34 = 0 ∧ 3 = 8) := by decide +kernel
theorem r34_4 : rnRF 34 4 = some 38 ∧ ¬ (34 = 0 ∧ 4 = 8) := by decide +kernel
theorem r34_5 : rnRF 34 5 = some 39 ∧ ¬ (34 = 0 ∧ 5 = 8) := by decide +kernel
theorem r40_2 : rnRF 40 2 = some 41 ∧ ¬ (40 = 0 ∧ 2 = 8) := by decide +kernel
theorem r40_3 : rnRF 40 3 = some 42 ∧ ¬ (40 = 0 ∧ 3 = 8) := by decide +kernel
theorem r40_4 : rnRF 40 4 = some 43 ∧ ¬ (40 = 0 ∧ 4 = 8) := by decide +kernel
theorem r40_5 : rnRF 40 5 = some 44 ∧ ¬ (40 = 0 ∧ 5 = 8) := by decide +kernel
theorem r40_6 : rnRF 40 6 = some 45 ∧ ¬ (40 = 0 ∧ 6 = 8) := by decide +kernel
theorem r48_0 : rnRF 48 0 = some 49 ∧ ¬ (48 = 0 ∧ 0 = 8) := by decide +kernel
theorem r48_1 : rnRF 48 1 = some 55 ∧ ¬ (48 = 0 ∧ 1 = 8) := by decide +kernel
theorem r48_2 : rnRF 48 2 = some 61 ∧ ¬ (48 = 0 ∧ 2 = 8) := by decide +kernel
theorem r48_3 : rnRF 48 3 = some 62 ∧ ¬ (48 = 0 ∧ 3 = 8) := by decide +kernel
theorem r49_1 : rnRF 49 1 = some 50 ∧ ¬ (49 = 0 ∧ 1 = 8) := by decide +kernel
theorem r49_2 : rnRF 49 2 = some 51 ∧ ¬ (49 = 0 ∧ 2 = 8) := by decide +kernel
theorem r49_3 : rnRF 49 3 = some 52 ∧ ¬ (49 = 0 ∧ 3 = 8) := by decide +kernel
theorem r49_4 : rnRF 49 4 = some 53 ∧ ¬ (49 = 0 ∧ 4 = 8) := by decide +kernel
theorem r49_5 : rnRF 49 5 = some 54 ∧ ¬ (49 = 0 ∧ 5 = 8) := by decide +kernel
theorem r55_2 : rnRF 55 2 = some 56 ∧ ¬ (55 = 0 ∧ 2 = 8) := by decide +kernel
theorem r55_3 : rnRF 55 3 = some 57 ∧ ¬ (55 = 0 ∧ 3 = 8) := by decide +kernel
theorem r55_4 : rnRF 55 4 = some 58 ∧ ¬ (55 = 0 ∧ 4 = 8) := by decide +kernel
theorem r55_5 : rnRF 55 5 = some 59 ∧ ¬ (55 = 0 ∧ 5 = 8) := by decide +kernel
theorem r55_6 : rnRF 55 6 = some 60 ∧ ¬ (55 = 0 ∧ 6 = 8) := by decide +kernel
theorem r63_0 : rnRF 63 0 = some 64 ∧ ¬ (63 = 0 ∧ 0 = 8) := by decide +kernel
theorem r63_1 : rnRF 63 1 = some 70 ∧ ¬ (63 = 0 ∧ 1 = 8) := by decide +kernel
theorem r63_2 : rnRF 63 2 = some 76 ∧ ¬ (63 = 0 ∧ 2 = 8) := by decide +kernel
theorem r63_3 : rnRF 63 3 = some 77 ∧ ¬ (63 = 0 ∧ 3 = 8) := by decide +kernel
theorem r64_1 : rnRF 64 1 = some 65 ∧ ¬ (64 = 0 ∧ 1 = 8) := by decide +kernel
theorem r64_2 : rnRF 64 2 = some 66 ∧ ¬ (64 = 0 ∧ 2 = 8) := by decide +kernel
theorem r64_3 : rnRF 64 3 = some 67 ∧ ¬ (64 = 0 ∧ 3 = 8) := by decide +kernel
theorem r64_4 : rnRF 64 4 = some 68 ∧ ¬ (64 = 0 ∧ 4 = 8) := by decide +kernel
theorem r64_5 : rnRF 64 5 = some 69 ∧ ¬ (64 = 0 ∧ 5 = 8) := by decide +kernel
theorem r70_2 : rnRF 70 2 = some 71 ∧ ¬ (70 = 0 ∧ 2 = 8) := by decide +kernel
theorem r70_3 : rnRF 70 3 = some 72 ∧ ¬ (70 = 0 ∧ 3 = 8) := by decide +kernel
theorem r70_4 : rnRF 70 4 = some 73 ∧ ¬ (70 = 0 ∧ 4 = 8) := by decide +kernel
theorem r70_5 : rnRF 70 5 = some 74 ∧ ¬ (70 = 0 ∧ 5 = 8) := by decide +kernel
theorem r70_6 : rnRF 70 6 = some 75 ∧ ¬ (70 = 0 ∧ 6 = 8) := by decide +kernel
theorem r78_0 : rnRF 78 0 = some 79 ∧ ¬ (78 = 0 ∧ 0 = 8) := by decide +kernel
theorem r78_1 : rnRF 78 1 = some 85 ∧ ¬ (78 = 0 ∧ 1 = 8) := by decide +kernel
theorem r78_2 : rnRF 78 2 = some 91 ∧ ¬ (78 = 0 ∧ 2 = 8) := by decide +kernel
theorem r78_3 : rnRF 78 3 = some 92 ∧ ¬ (78 = 0 ∧ 3 = 8) := by decide +kernel
theorem r79_1 : rnRF 79 1 = some 80 ∧ ¬ (79 = 0 ∧ 1 = 8) := by decide +kernel
theorem r79_2 : rnRF 79 2 = some 81 ∧ ¬ (79 = 0 ∧ 2 = 8) := by decide +kernel
theorem r79_3 : rnRF 79 3 = some 82 ∧ ¬ (79 = 0 ∧ 3 = 8) := by decide +kernel
theorem r79_4 : rnRF 79 4 = some 83 ∧ ¬ (79 = 0 ∧ 4 = 8) := by decide +kernel
theorem r79_5 : rnRF 79 5 = some 84 ∧ ¬ (79 = 0 ∧ 5 = 8) := by decide +kernel
theorem r85_2 : rnRF 85 2 = some 86 ∧ ¬ (85 = 0 ∧ 2 = 8) := by decide +kernel
theorem r85_3 : rnRF 85 3 = some 87 ∧ ¬ (85 = 0 ∧ 3 = 8) := by decide +kernel
theorem r85_4 : rnRF 85 4 = some 88 ∧ ¬ (85 = 0 ∧ 4 = 8) := by decide +kernel
theorem r85_5 : rnRF 85 5 = some 89 ∧ ¬ (85 = 0 ∧ 5 = 8) := by decide +kernel
theorem r85_6 : rnRF 85 6 = some 90 ∧ ¬ (85 = 0 ∧ 6 = 8) := by decide +kernel
theorem r93_0 : rnRF 93 0 = some 94 ∧ ¬ (93 = 0 ∧ 0 = 8) := by decide +kernel
theorem r93_1 : rnRF 93 1 = some 100 ∧ ¬ (93 = 0 ∧ 1 = 8) := by decide +kernel
theorem r93_2 : rnRF 93 2 = some 106 ∧ ¬ (93 = 0 ∧ 2 = 8) := by decide +kernel
theorem r93_3 : rnRF 93 3 = some 107 ∧ ¬ (93 = 0 ∧ 3 = 8) := by decide +kernel
theorem r94_1 : rnRF 94 1 = some 95 ∧ ¬ (94 = 0 ∧ 1 = 8) := by decide +kernel
theorem r94_2 : rnRF 94 2 = some 96 ∧ ¬ (94 = 0 ∧ 2 = 8) := by decide +kernel
theorem r94_3 : rnRF 94 3 = some 97 ∧ ¬ (94 = 0 ∧ 3 = 8) := by decide +kernel
theorem r94_4 : rnRF 94 4 = some 98 ∧ ¬ (94 = 0 ∧ 4 = 8) := by decide +kernel
theorem r94_5 : rnRF 94 5 = some 99 ∧ ¬ (94 = 0 ∧ 5 = 8) := by decide +kernel
theorem r100_2 : rnRF 100 2 = some 101 ∧ ¬ (100 = 0 ∧ 2 = 8) := by decide +kernel
theorem r100_3 : rnRF 100 3 = some 102 ∧ ¬ (100 = 0 ∧ 3 = 8) := by decide +kernel
theorem r100_4 : rnRF 100 4 = some 103 ∧ ¬ (100 = 0 ∧ 4 = 8) := by decide +kernel
theorem r100_5 : rnRF 100 5 = some 104 ∧ ¬ (100 = 0 ∧ 5 = 8) := by decide +kernel
theorem r100_6 : rnRF 100 6 = some 105 ∧ ¬ (100 = 0 ∧ 6 = 8) := by decide +kernel
theorem r108_0 : rnRF 108 0 = some 109 ∧ ¬ (108 = 0 ∧ 0 = 8) := by decide +kernel
theorem r108_1 : rnRF 108 1 = some 115 ∧ ¬ (108 = 0 ∧ 1 = 8) := by decide +kernel
theorem r108_2 : rnRF 108 2 = some 121 ∧ ¬ (108 = 0 ∧ 2 = 8) := by decide +kernel
theorem r108_3 : rnRF 108 3 = some 122 ∧ ¬ (108 = 0 ∧ 3 = 8) := by decide +kernel
theorem r109_1 : rnRF 109 1 = some 110 ∧ ¬ (109 = 0 ∧ 1 = 8) := by decide +kernel
theorem r109_2 : rnRF 109 2 = some 111 ∧ ¬ (109 = 0 ∧ 2 = 8) := by decide +kernel
theorem r109_3 : rnRF 109 3 = some 112 ∧ ¬ (109 = 0 ∧ 3 = 8) := by decide +kernel
theorem r109_4 : rnRF 109 4 = some 113 ∧ ¬ (109 = 0 ∧ 4 = 8) := by decide +kernel
theorem r109_5 : rnRF 109 5 = some 114 ∧ ¬ (109 = 0 ∧ 5 = 8) := by decide +kernel
theorem r115_2 : rnRF 115 2 = some 116 ∧ ¬ (115 = 0 ∧ 2 = 8) := by decide +kernel
theorem r115_3 : rnRF 115 3 = some 117 ∧ ¬ (115 = 0 ∧ 3 = 8) := by decide +kernel
theorem r115_4 : rnRF 115 4 = some 118 ∧ ¬ (115 = 0 ∧ 4 = 8) := by decide +kernel
theorem r115_5 : rnRF 115 5 = some 119 ∧ ¬ (115 = 0 ∧ 5 = 8) := by decide +kernel
theorem r115_6 : rnRF 115 6 = some 120 ∧ ¬ (115 = 0 ∧ 6 = 8) := by decide +kernel
theorem r123_0 : rnRF 123 0 = some 124 ∧ ¬ (123 = 0 ∧ 0 = 8) := by decide +kernel
theorem r123_2 : rnRF 123 2 = some 132 ∧ ¬ (123 = 0 ∧ 2 = 8) := by decide +kernel
theorem r123_3 : rnRF 123 3 = some 133 ∧ ¬ (123 = 0 ∧ 3 = 8) := by decide +kernel
theorem r123_4 : rnRF 123 4 = some 134 ∧ ¬ (123 = 0 ∧ 4 = 8) := by decide +kernel
theorem r123_5 : rnRF 123 5 = some 135 ∧ ¬ (123 = 0 ∧ 5 = 8) := by decide +kernel
theorem r123_7 : rnRF 123 7 = some 136 ∧ ¬ (123 = 0 ∧ 7 = 8) := by decide +kernel
theorem r123_9 : rnRF 123 9 = some 137 ∧ ¬ (123 = 0 ∧ 9 = 8) := by decide +kernel
theorem r124_2 : rnRF 124 2 = some 125 ∧ ¬ (124 = 0 ∧ 2 = 8) := by decide +kernel
theorem r124_3 : rnRF 124 3 = some 126 ∧ ¬ (124 = 0 ∧ 3 = 8) := by decide +kernel
theorem r124_4 : rnRF 124 4 = some 127 ∧ ¬ (124 = 0 ∧ 4 = 8) := by decide +kernel
theorem r124_5 : rnRF 124 5 = some 128 ∧ ¬ (124 = 0 ∧ 5 = 8) := by decide +kernel
theorem r124_6 : rnRF 124 6 = some 129 ∧ ¬ (124 = 0 ∧ 6 = 8) := by decide +kernel
theorem r124_7 : rnRF 124 7 = some 130 ∧ ¬ (124 = 0 ∧ 7 = 8) := by decide +kernel
theorem r124_8 : rnRF 124 8 = some 131 ∧ ¬ (124 = 0 ∧ 8 = 8) := by decide +kernel
theorem r138_1 : rnRF 138 1 = some 139 ∧ ¬ (138 = 0 ∧ 1 = 8) := by decide +kernel
theorem r138_3 : rnRF 138 3 = some 140 ∧ ¬ (138 = 0 ∧ 3 = 8) := by decide +kernel
theorem r138_4 : rnRF 138 4 = some 141 ∧ ¬ (138 = 0 ∧ 4 = 8) := by decide +kernel
theorem r138_6 : rnRF 138 6 = some 142 ∧ ¬ (138 = 0 ∧ 6 = 8) := by decide +kernel
theorem r138_8 : rnRF 138 8 = some 143 ∧ ¬ (138 = 0 ∧ 8 = 8) := by decide +kernel
theorem r138_10 : rnRF 138 10 = some 144 ∧ ¬ (138 = 0 ∧ 10 = 8) := by decide +kernel
theorem r138_11 : rnRF 138 11 = some 145 ∧ ¬ (138 = 0 ∧ 11 = 8) := by decide +kernel
theorem r146_0 : rnRF 146 0 = some 147 ∧ ¬ (146 = 0 ∧ 0 = 8) := by decide +kernel
theorem r146_3 : rnRF 146 3 = some 162 ∧ ¬ (146 = 0 ∧ 3 = 8) := by decide +kernel
theorem r146_6 : rnRF 146 6 = some 167 ∧ ¬ (146 = 0 ∧ 6 = 8) := by decide +kernel
theorem r147_0 : rnRF 147 0 = some 148 ∧ ¬ (147 = 0 ∧ 0 = 8) := by decide +kernel
theorem r147_2 : rnRF 147 2 = some 156 ∧ ¬ (147 = 0 ∧ 2 = 8) := by decide +kernel
theorem r147_3 : rnRF 147 3 = some 157 ∧ ¬ (147 = 0 ∧ 3 = 8) := by decide +kernel
theorem r147_4 : rnRF 147 4 = some 158 ∧ ¬ (147 = 0 ∧ 4 = 8) := by decide +kernel
theorem r147_5 : rnRF 147 5 = some 159 ∧ ¬ (147 = 0 ∧ 5 = 8) := by decide +kernel
theorem r147_7 : rnRF 147 7 = some 160 ∧ ¬ (147 = 0 ∧ 7 = 8) := by decide +kernel
theorem r147_9 : rnRF 147 9 = some 161 ∧ ¬ (147 = 0 ∧ 9 = 8) := by decide +kernel
theorem r148_2 : rnRF 148 2 = some 149 ∧ ¬ (148 = 0 ∧ 2 = 8) := by decide +kernel
theorem r148_3 : rnRF 148 3 = some 150 ∧ ¬ (148 = 0 ∧ 3 = 8) := by decide +kernel
theorem r148_4 : rnRF 148 4 = some 151 ∧ ¬ (148 = 0 ∧ 4 = 8) := by decide +kernel
theorem r148_5 : rnRF 148 5 = some 152 ∧ ¬ (148 = 0 ∧ 5 = 8) := by decide +kernel
theorem r148_6 : rnRF 148 6 = some 153 ∧ ¬ (148 = 0 ∧ 6 = 8) := by decide +kernel
theorem r148_7 : rnRF 148 7 = some 154 ∧ ¬ (148 = 0 ∧ 7 = 8) := by decide +kernel
theorem r148_8 : rnRF 148 8 = some 155 ∧ ¬ (148 = 0 ∧ 8 = 8) := by decide +kernel
theorem r162_1 : rnRF 162 1 = some 163 ∧ ¬ (162 = 0 ∧ 1 = 8) := by decide +kernel
theorem r162_2 : rnRF 162 2 = some 164 ∧ ¬ (162 = 0 ∧ 2 = 8) := by decide +kernel
theorem r162_3 : rnRF 162 3 = some 165 ∧ ¬ (162 = 0 ∧ 3 = 8) := by decide +kernel
theorem r162_4 : rnRF 162 4 = some 166 ∧ ¬ (162 = 0 ∧ 4 = 8) := by decide +kernel
theorem r168_0 : rnRF 168 0 = some 169 ∧ ¬ (168 = 0 ∧ 0 = 8) := by decide +kernel
theorem r168_1 : rnRF 168 1 = some 170 ∧ ¬ (168 = 0 ∧ 1 = 8) := by decide +kernel
theorem r168_2 : rnRF 168 2 = some 171 ∧ ¬ (168 = 0 ∧ 2 = 8) := by decide +kernel
theorem r168_3 : rnRF 168 3 = some 172 ∧ ¬ (168 = 0 ∧ 3 = 8) := by decide +kernel
theorem r173_0 : rnRF 173 0 = some 174 ∧ ¬ (173 = 0 ∧ 0 = 8) := by decide +kernel
theorem r173_1 : rnRF 173 1 = some 175 ∧ ¬ (173 = 0 ∧ 1 = 8) := by decide +kernel
theorem r173_2 : rnRF 173 2 = some 176 ∧ ¬ (173 = 0 ∧ 2 = 8) := by decide +kernel
theorem r179_0 : rnRF 179 0 = some 180 ∧ ¬ (179 = 0 ∧ 0 = 8) := by decide +kernel
theorem r179_1 : rnRF 179 1 = some 186 ∧ ¬ (179 = 0 ∧ 1 = 8) := by decide +kernel
theorem r179_2 : rnRF 179 2 = some 192 ∧ ¬ (179 = 0 ∧ 2 = 8) := by decide +kernel
theorem r179_3 : rnRF 179 3 = some 193 ∧ ¬ (179 = 0 ∧ 3 = 8) := by decide +kernel
theorem r180_1 : rnRF 180 1 = some 181 ∧ ¬ (180 = 0 ∧ 1 = 8) := by decide +kernel
theorem r180_2 : rnRF 180 2 = some 182 ∧ ¬ (180 = 0 ∧ 2 = 8) := by decide +kernel
theorem r180_3 : rnRF 180 3 = some 183 ∧ ¬ (180 = 0 ∧ 3 = 8) := by decide +kernel
theorem r180_4 : rnRF 180 4 = some 184 ∧ ¬ (180 = 0 ∧ 4 = 8) := by decide +kernel
theorem r180_5 : rnRF 180 5 = some 185 ∧ ¬ (180 = 0 ∧ 5 = 8) := by decide +kernel
theorem r186_2 : rnRF 186 2 = some 187 ∧ ¬ (186 = 0 ∧ 2 = 8) := by decide +kernel
theorem r186_3 : rnRF 186 3 = some 188 ∧ ¬ (186 = 0 ∧ 3 = 8) := by decide +kernel
theorem r186_4 : rnRF 186 4 = some 189 ∧ ¬ (186 = 0 ∧ 4 = 8) := by decide +kernel
theorem r186_5 : rnRF 186 5 = some 190 ∧ ¬ (186 = 0 ∧ 5 = 8) := by decide +kernel
theorem r186_6 : rnRF 186 6 = some 191 ∧ ¬ (186 = 0 ∧ 6 = 8) := by decide +kernel
theorem r194_0 : rnRF 194 0 = some 195 ∧ ¬ (194 = 0 ∧ 0 = 8) := by decide +kernel
theorem r194_2 : rnRF 194 2 = some 203 ∧ ¬ (194 = 0 ∧ 2 = 8) := by decide +kernel
theorem r194_3 : rnRF 194 3 = some 204 ∧ ¬ (194 = 0 ∧ 3 = 8) := by decide +kernel
theorem r194_4 : rnRF 194 4 = some 205 ∧ ¬ (194 = 0 ∧ 4 = 8) := by decide +kernel
theorem r194_5 : rnRF 194 5 = some 206 ∧ ¬ (194 = 0 ∧ 5 = 8) := by decide +kernel
theorem r194_7 : rnRF 194 7 = some 207 ∧ ¬ (194 = 0 ∧ 7 = 8) := by decide +kernel
theorem r194_9 : rnRF 194 9 = some 208 ∧ ¬ (194 = 0 ∧ 9 = 8) := by decide +kernel
theorem r195_2 : rnRF 195 2 = some 196 ∧ ¬ (195 = 0 ∧ 2 = 8) := by decide +kernel
theorem r195_3 : rnRF 195 3 = some 197 ∧ ¬ (195 = 0 ∧ 3 = 8) := by decide +kernel
theorem r195_4 : rnRF 195 4 = some 198 ∧ ¬ (195 = 0 ∧ 4 = 8) := by decide +kernel
theorem r195_5 : rnRF 195 5 = some 199 ∧ ¬ (195 = 0 ∧ 5 = 8) := by decide +kernel
theorem r195_6 : rnRF 195 6 = some 200 ∧ ¬ (195 = 0 ∧ 6 = 8) := by decide +kernel
theorem r195_7 : rnRF 195 7 = some 201 ∧ ¬ (195 = 0 ∧ 7 = 8) := by decide +kernel
theorem r195_8 : rnRF 195 8 = some 202 ∧ ¬ (195 = 0 ∧ 8 = 8) := by decide +kernel
theorem r209_1 : rnRF 209 1 = some 210 ∧ ¬ (209 = 0 ∧ 1 = 8) := by decide +kernel
theorem r209_3 : rnRF 209 3 = some 211 ∧ ¬ (209 = 0 ∧ 3 = 8) := by decide +kernel
theorem r209_4 : rnRF 209 4 = some 212 ∧ ¬ (209 = 0 ∧ 4 = 8) := by decide +kernel
theorem r209_6 : rnRF 209 6 = some 213 ∧ ¬ (209 = 0 ∧ 6 = 8) := by decide +kernel
theorem r209_8 : rnRF 209 8 = some 214 ∧ ¬ (209 = 0 ∧ 8 = 8) := by decide +kernel
theorem r209_10 : rnRF 209 10 = some 215 ∧ ¬ (209 = 0 ∧ 10 = 8) := by decide +kernel
theorem r209_11 : rnRF 209 11 = some 216 ∧ ¬ (209 = 0 ∧ 11 = 8) := by decide +kernel
theorem r217_1 : rnRF 217 1 = some 218 ∧ ¬ (217 = 0 ∧ 1 = 8) := by decide +kernel
theorem r217_2 : rnRF 217 2 = some 219 ∧ ¬ (217 = 0 ∧ 2 = 8) := by decide +kernel
theorem r217_4 : rnRF 217 4 = some 220 ∧ ¬ (217 = 0 ∧ 4 = 8) := by decide +kernel
theorem r217_7 : rnRF 217 7 = some 221 ∧ ¬ (217 = 0 ∧ 7 = 8) := by decide +kernel
theorem r217_8 : rnRF 217 8 = some 222 ∧ ¬ (217 = 0 ∧ 8 = 8) := by decide +kernel
theorem r217_9 : rnRF 217 9 = some 223 ∧ ¬ (217 = 0 ∧ 9 = 8) := by decide +kernel
theorem r217_15 : rnRF 217 15 = some 224 ∧ ¬ (217 = 0 ∧ 15 = 8) := by decide +kernel
theorem r217_16 : rnRF 217 16 = some 225 ∧ ¬ (217 = 0 ∧ 16 = 8) := by decide +kernel
theorem r217_17 : rnRF 217 17 = some 226 ∧ ¬ (217 = 0 ∧ 17 = 8) := by decide +kernel
theorem r217_18 : rnRF 217 18 = some 227 ∧ ¬ (217 = 0 ∧ 18 = 8) := by decide +kernel
theorem r217_19 : rnRF 217 19 = some 228 ∧ ¬ (217 = 0 ∧ 19 = 8) := by decide +kernel
theorem r217_20 : rnRF 217 20 = some 229 ∧ ¬ (217 = 0 ∧ 20 = 8) := by decide +kernel
theorem r217_21 : rnRF 217 21 = some 230 ∧ ¬ (217 = 0 ∧ 21 = 8) := by decide +kernel
theorem r217_22 : rnRF 217 22 = some 231 ∧ ¬ (217 = 0 ∧ 22 = 8) := by decide +kernel
theorem r217_26 : rnRF 217 26 = some 232 ∧ ¬ (217 = 0 ∧ 26 = 8) := by decide +kernel
theorem r217_33 : rnRF 217 33 = some 233 ∧ ¬ (217 = 0 ∧ 33 = 8) := by decide +kernel
theorem r217_35 : rnRF 217 35 = some 234 ∧ ¬ (217 = 0 ∧ 35 = 8) := by decide +kernel
theorem r217_37 : rnRF 217 37 = some 235 ∧ ¬ (217 = 0 ∧ 37 = 8) := by decide +kernel
theorem r217_38 : rnRF 217 38 = some 236 ∧ ¬ (217 = 0 ∧ 38 = 8) := by decide +kernel
theorem r217_39 : rnRF 217 39 = some 237 ∧ ¬ (217 = 0 ∧ 39 = 8) := by decide +kernel
theorem r217_41 : rnRF 217 41 = some 238 ∧ ¬ (217 = 0 ∧ 41 = 8) := by decide +kernel
theorem r217_43 : rnRF 217 43 = some 239 ∧ ¬ (217 = 0 ∧ 43 = 8) := by decide +kernel
theorem r217_44 : rnRF 217 44 = some 240 ∧ ¬ (217 = 0 ∧ 44 = 8) := by decide +kernel
theorem r217_46 : rnRF 217 46 = some 241 ∧ ¬ (217 = 0 ∧ 46 = 8) := by decide +kernel
theorem r217_47 : rnRF 217 47 = some 242 ∧ ¬ (217 = 0 ∧ 47 = 8) := by decide +kernel
theorem r217_48 : rnRF 217 48 = some 243 ∧ ¬ (217 = 0 ∧ 48 = 8) := by decide +kernel
theorem r217_50 : rnRF 217 50 = some 244 ∧ ¬ (217 = 0 ∧ 50 = 8) := by decide +kernel
theorem r217_51 : rnRF 217 51 = some 245 ∧ ¬ (217 = 0 ∧ 51 = 8) := by decide +kernel
theorem r217_52 : rnRF 217 52 = some 246 ∧ ¬ (217 = 0 ∧ 52 = 8) := by decide +kernel
theorem r217_54 : rnRF 217 54 = some 247 ∧ ¬ (217 = 0 ∧ 54 = 8) := by decide +kernel
theorem r217_56 : rnRF 217 56 = some 248 ∧ ¬ (217 = 0 ∧ 56 = 8) := by decide +kernel
theorem r217_58 : rnRF 217 58 = some 249 ∧ ¬ (217 = 0 ∧ 58 = 8) := by decide +kernel
theorem r217_59 : rnRF 217 59 = some 250 ∧ ¬ (217 = 0 ∧ 59 = 8) := by decide +kernel
theorem r217_63 : rnRF 217 63 = some 251 ∧ ¬ (217 = 0 ∧ 63 = 8) := by decide +kernel
theorem rWd0 {w : Nat} (h : Wd w) : rnRF w 0 = some (w + 1) ∧ ¬ (w = 0 ∧ 0 = 8) := (show ∀ w ∈ [1, 16, 33, 48, 63, 78, 93, 108, 179], rnRF w 0 = some (w + 1) ∧ ¬ (w = 0 ∧ 0 = 8) by decide +kernel) w h
theorem rWd1 {w : Nat} (h : Wd w) : rnRF w 1 = some (w + 7) ∧ ¬ (w = 0 ∧ 1 = 8) := (show ∀ w ∈ [1, 16, 33, 48, 63, 78, 93, 108, 179], rnRF w 1 = some (w + 7) ∧ ¬ (w = 0 ∧ 1 = 8) by decide +kernel) w h
theorem rWd2 {w : Nat} (h : Wd w) : rnRF w 2 = some (w + 13) ∧ ¬ (w = 0 ∧ 2 = 8) := (show ∀ w ∈ [1, 16, 33, 48, 63, 78, 93, 108, 179], rnRF w 2 = some (w + 13) ∧ ¬ (w = 0 ∧ 2 = 8) by decide +kernel) w h
theorem rWd3 {w : Nat} (h : Wd w) : rnRF w 3 = some (w + 14) ∧ ¬ (w = 0 ∧ 3 = 8) := (show ∀ w ∈ [1, 16, 33, 48, 63, 78, 93, 108, 179], rnRF w 3 = some (w + 14) ∧ ¬ (w = 0 ∧ 3 = 8) by decide +kernel) w h
theorem rBg2 {w : Nat} (h : Bg w) : rnRF w 2 = some (w + 1) ∧ ¬ (w = 0 ∧ 2 = 8) := (show ∀ w ∈ [8, 23, 40, 55, 70, 85, 100, 115, 186], rnRF w 2 = some (w + 1) ∧ ¬ (w = 0 ∧ 2 = 8) by decide +kernel) w h
theorem rBg3 {w : Nat} (h : Bg w) : rnRF w 3 = some (w + 2) ∧ ¬ (w = 0 ∧ 3 = 8) := (show ∀ w ∈ [8, 23, 40, 55, 70, 85, 100, 115, 186], rnRF w 3 = some (w + 2) ∧ ¬ (w = 0 ∧ 3 = 8) by decide +kernel) w h
theorem rBg4 {w : Nat} (h : Bg w) : rnRF w 4 = some (w + 3) ∧ ¬ (w = 0 ∧ 4 = 8) := (show ∀ w ∈ [8, 23, 40, 55, 70, 85, 100, 115, 186], rnRF w 4 = some (w + 3) ∧ ¬ (w = 0 ∧ 4 = 8) by decide +kernel) w h
theorem rBg5 {w : Nat} (h : Bg w) : rnRF w 5 = some (w + 4) ∧ ¬ (w = 0 ∧ 5 = 8) := (show ∀ w ∈ [8, 23, 40, 55, 70, 85, 100, 115, 186], rnRF w 5 = some (w + 4) ∧ ¬ (w = 0 ∧ 5 = 8) by decide +kernel) w h
theorem rBg6 {w : Nat} (h : Bg w) : rnRF w 6 = some (w + 5) ∧ ¬ (w = 0 ∧ 6 = 8) := (show ∀ w ∈ [8, 23, 40, 55, 70, 85, 100, 115, 186], rnRF w 6 = some (w + 5) ∧ ¬ (w = 0 ∧ 6 = 8) by decide +kernel) w h
theorem rDr1 {w : Nat} (h : Dr w) : rnRF w 1 = some (w + 1) ∧ ¬ (w = 0 ∧ 1 = 8) := (show ∀ w ∈ [2, 17, 34, 49, 64, 79, 94, 109, 180], rnRF w 1 = some (w + 1) ∧ ¬ (w = 0 ∧ 1 = 8) by decide +kernel) w h
theorem rDr2 {w : Nat} (h : Dr w) : rnRF w 2 = some (w + 2) ∧ ¬ (w = 0 ∧ 2 = 8) := (show ∀ w ∈ [2, 17, 34, 49, 64, 79, 94, 109, 180], rnRF w 2 = some (w + 2) ∧ ¬ (w = 0 ∧ 2 = 8) by decide +kernel) w h
theorem rDr3 {w : Nat} (h : Dr w) : rnRF w 3 = some (w + 3) ∧ ¬ (w = 0 ∧ 3 = 8) := (show ∀ w ∈ [2, 17, 34, 49, 64, 79, 94, 109, 180], rnRF w 3 = some (w + 3) ∧ ¬ (w = 0 ∧ 3 = 8) by decide +kernel) w h
theorem rDr4 {w : Nat} (h : Dr w) : rnRF w 4 = some (w + 4) ∧ ¬ (w = 0 ∧ 4 = 8) := (show ∀ w ∈ [2, 17, 34, 49, 64, 79, 94, 109, 180], rnRF w 4 = some (w + 4) ∧ ¬ (w = 0 ∧ 4 = 8) by decide +kernel) w h
theorem rDr5 {w : Nat} (h : Dr w) : rnRF w 5 = some (w + 5) ∧ ¬ (w = 0 ∧ 5 = 8) := (show ∀ w ∈ [2, 17, 34, 49, 64, 79, 94, 109, 180], rnRF w 5 = some (w + 5) ∧ ¬ (w = 0 ∧ 5 = 8) by decide +kernel) w h
theorem rTx0 {w : Nat} (h : Tx w) : rnRF w 0 = some (w + 1) ∧ ¬ (w = 0 ∧ 0 = 8) := (show ∀ w ∈ [123, 147, 194], rnRF w 0 = some (w + 1) ∧ ¬ (w = 0 ∧ 0 = 8) by decide +kernel) w h
theorem rTx2 {w : Nat} (h : Tx w) : rnRF w 2 = some (w + 9) ∧ ¬ (w = 0 ∧ 2 = 8) := (show ∀ w ∈ [123, 147, 194], rnRF w 2 = some (w + 9) ∧ ¬ (w = 0 ∧ 2 = 8) by decide +kernel) w h
theorem rTx3 {w : Nat} (h : Tx w) : rnRF w 3 = some (w + 10) ∧ ¬ (w = 0 ∧ 3 = 8) := (show ∀ w ∈ [123, 147, 194], rnRF w 3 = some (w + 10) ∧ ¬ (w = 0 ∧ 3 = 8) by decide +kernel) w h
theorem rTx4 {w : Nat} (h : Tx w) : rnRF w 4 = some (w + 11) ∧ ¬ (w = 0 ∧ 4 = 8) := (show ∀ w ∈ [123, 147, 194], rnRF w 4 = some (w + 11) ∧ ¬ (w = 0 ∧ 4 = 8) by decide +kernel) w h
theorem rTx5 {w : Nat} (h : Tx w) : rnRF w 5 = some (w + 12) ∧ ¬ (w = 0 ∧ 5 = 8) := (show ∀ w ∈ [123, 147, 194], rnRF w 5 = some (w + 12) ∧ ¬ (w = 0 ∧ 5 = 8) by decide +kernel) w h
theorem rTx7 {w : Nat} (h : Tx w) : rnRF w 7 = some (w + 13) ∧ ¬ (w = 0 ∧ 7 = 8) := (show ∀ w ∈ [123, 147, 194], rnRF w 7 = some (w + 13) ∧ ¬ (w = 0 ∧ 7 = 8) by decide +kernel) w h
theorem rTx9 {w : Nat} (h : Tx w) : rnRF w 9 = some (w + 14) ∧ ¬ (w = 0 ∧ 9 = 8) := (show ∀ w ∈ [123, 147, 194], rnRF w 9 = some (w + 14) ∧ ¬ (w = 0 ∧ 9 = 8) by decide +kernel) w h
theorem rLw2 {w : Nat} (h : Lw w) : rnRF w 2 = some (w + 1) ∧ ¬ (w = 0 ∧ 2 = 8) := (show ∀ w ∈ [124, 148, 195], rnRF w 2 = some (w + 1) ∧ ¬ (w = 0 ∧ 2 = 8) by decide +kernel) w h
theorem rLw3 {w : Nat} (h : Lw w) : rnRF w 3 = some (w + 2) ∧ ¬ (w = 0 ∧ 3 = 8) := (show ∀ w ∈ [124, 148, 195], rnRF w 3 = some (w + 2) ∧ ¬ (w = 0 ∧ 3 = 8) by decide +kernel) w h
theorem rLw4 {w : Nat} (h : Lw w) : rnRF w 4 = some (w + 3) ∧ ¬ (w = 0 ∧ 4 = 8) := (show ∀ w ∈ [124, 148, 195], rnRF w 4 = some (w + 3) ∧ ¬ (w = 0 ∧ 4 = 8) by decide +kernel) w h
theorem rLw5 {w : Nat} (h : Lw w) : rnRF w 5 = some (w + 4) ∧ ¬ (w = 0 ∧ 5 = 8) := (show ∀ w ∈ [124, 148, 195], rnRF w 5 = some (w + 4) ∧ ¬ (w = 0 ∧ 5 = 8) by decide +kernel) w h
theorem rLw6 {w : Nat} (h : Lw w) : rnRF w 6 = some (w + 5) ∧ ¬ (w = 0 ∧ 6 = 8) := (show ∀ w ∈ [124, 148, 195], rnRF w 6 = some (w + 5) ∧ ¬ (w = 0 ∧ 6 = 8) by decide +kernel) w h
theorem rLw7 {w : Nat} (h : Lw w) : rnRF w 7 = some (w + 6) ∧ ¬ (w = 0 ∧ 7 = 8) := (show ∀ w ∈ [124, 148, 195], rnRF w 7 = some (w + 6) ∧ ¬ (w = 0 ∧ 7 = 8) by decide +kernel) w h
theorem rLw8 {w : Nat} (h : Lw w) : rnRF w 8 = some (w + 7) ∧ ¬ (w = 0 ∧ 8 = 8) := (show ∀ w ∈ [124, 148, 195], rnRF w 8 = some (w + 7) ∧ ¬ (w = 0 ∧ 8 = 8) by decide +kernel) w h
theorem rTd1 {w : Nat} (h : Td w) : rnRF w 1 = some (w + 1) ∧ ¬ (w = 0 ∧ 1 = 8) := (show ∀ w ∈ [138, 209], rnRF w 1 = some (w + 1) ∧ ¬ (w = 0 ∧ 1 = 8) by decide +kernel) w h
theorem rTd3 {w : Nat} (h : Td w) : rnRF w 3 = some (w + 2) ∧ ¬ (w = 0 ∧ 3 = 8) := (show ∀ w ∈ [138, 209], rnRF w 3 = some (w + 2) ∧ ¬ (w = 0 ∧ 3 = 8) by decide +kernel) w h
theorem rTd4 {w : Nat} (h : Td w) : rnRF w 4 = some (w + 3) ∧ ¬ (w = 0 ∧ 4 = 8) := (show ∀ w ∈ [138, 209], rnRF w 4 = some (w + 3) ∧ ¬ (w = 0 ∧ 4 = 8) by decide +kernel) w h
theorem rTd6 {w : Nat} (h : Td w) : rnRF w 6 = some (w + 4) ∧ ¬ (w = 0 ∧ 6 = 8) := (show ∀ w ∈ [138, 209], rnRF w 6 = some (w + 4) ∧ ¬ (w = 0 ∧ 6 = 8) by decide +kernel) w h
theorem rTd8 {w : Nat} (h : Td w) : rnRF w 8 = some (w + 5) ∧ ¬ (w = 0 ∧ 8 = 8) := (show ∀ w ∈ [138, 209], rnRF w 8 = some (w + 5) ∧ ¬ (w = 0 ∧ 8 = 8) by decide +kernel) w h
theorem rTd10 {w : Nat} (h : Td w) : rnRF w 10 = some (w + 6) ∧ ¬ (w = 0 ∧ 10 = 8) := (show ∀ w ∈ [138, 209], rnRF w 10 = some (w + 6) ∧ ¬ (w = 0 ∧ 10 = 8) by decide +kernel) w h
theorem rTd11 {w : Nat} (h : Td w) : rnRF w 11 = some (w + 7) ∧ ¬ (w = 0 ∧ 11 = 8) := (show ∀ w ∈ [138, 209], rnRF w 11 = some (w + 7) ∧ ¬ (w = 0 ∧ 11 = 8) by decide +kernel) w h
theorem Wd_Dr {w : Nat} (h : Wd w) : Dr (w + 1) := (show ∀ w ∈ [1, 16, 33, 48, 63, 78, 93, 108, 179], w + 1 ∈ [2, 17, 34, 49, 64, 79, 94, 109, 180] by decide +kernel) w h
theorem Wd_Bg {w : Nat} (h : Wd w) : Bg (w + 7) := (show ∀ w ∈ [1, 16, 33, 48, 63, 78, 93, 108, 179], w + 7 ∈ [8, 23, 40, 55, 70, 85, 100, 115, 186] by decide +kernel) w h
theorem Tx_Lw {w : Nat} (h : Tx w) : Lw (w + 1) := (show ∀ w ∈ [123, 147, 194], w + 1 ∈ [124, 148, 195] by decide +kernel) w h
theorem g11_16 : rnF 11 16 = some (11, 0) ∧ okR 11 0 15 = true := by decide +kernel
theorem g11_20 : rnF 11 20 = some (11, 1) ∧ okR 11 1 15 = true := by decide +kernel
theorem g11_26 : rnF 11 26 = some (11, 2) ∧ okR 11 2 15 = true := by decide +kernel
theorem g11_33 : rnF 11 33 = some (11, 3) ∧ okR 11 3 15 = true := by decide +kernel
theorem g11_40 : rnF 11 40 = some (11, 4) ∧ okR 11 4 15 = true := by decide +kernel
theorem g11_47 : rnF 11 47 = some (11, 5) ∧ okR 11 5 15 = true := by decide +kernel
theorem g11_54 : rnF 11 54 = some (11, 6) ∧ okR 11 6 15 = true := by decide +kernel
theorem g11_59 : rnF 11 59 = some (11, 7) ∧ okR 11 7 15 = true := by decide +kernel
theorem g11_63 : rnF 11 63 = some (11, 8) ∧ okR 11 8 15 = true := by decide +kernel
theorem g11_67 : rnF 11 67 = some (11, 9) ∧ okR 11 9 15 = true := by decide +kernel
theorem g11_71 : rnF 11 71 = some (11, 11) ∧ okR 11 11 15 = true := by decide +kernel
theorem g11_74 : rnF 11 74 = some (11, 12) ∧ okR 11 12 15 = true := by decide +kernel
theorem g11_77 : rnF 11 77 = some (11, 13) ∧ okR 11 13 15 = true := by decide +kernel
theorem g11_80 : rnF 11 80 = some (10, 12) ∧ okG 10 12 14 = true := by decide +kernel
theorem p11_80 : rnF 11 80 = some (10, 12) ∧ okP 10 12 14 = true := by decide +kernel
theorem g11_95 : rnF 11 95 = some (10, 0) ∧ okR 10 0 14 = true := by decide +kernel
theorem g11_99 : rnF 11 99 = some (1, 0) ∧ okG 1 0 6 = true := by decide +kernel
theorem p11_99 : rnF 11 99 = some (1, 0) ∧ okP 1 0 6 = true := by decide +kernel
theorem g11_121 : rnF 11 121 = some (10, 1) ∧ okR 10 1 14 = true := by decide +kernel
theorem g11_125 : rnF 11 125 = some (0, 0) ∧ okG 0 0 7 = true := by decide +kernel
theorem p11_125 : rnF 11 125 = some (0, 0) ∧ okP 0 0 7 = true := by decide +kernel
theorem g11_141 : rnF 11 141 = some (10, 5) ∧ okG 10 5 14 = true := by decide +kernel
theorem p11_141 : rnF 11 141 = some (10, 5) ∧ okP 10 5 14 = true := by decide +kernel
theorem g11_144 : rnF 11 144 = some (6, 0) ∧ okR 6 0 10 = true := by decide +kernel
theorem g11_152 : rnF 11 152 = some (10, 10) ∧ okG 10 10 14 = true := by decide +kernel
theorem p11_152 : rnF 11 152 = some (10, 10) ∧ okP 10 10 14 = true := by decide +kernel
theorem g11_155 : rnF 11 155 = some (10, 11) ∧ okG 10 11 14 = true := by decide +kernel
theorem p11_155 : rnF 11 155 = some (10, 11) ∧ okP 10 11 14 = true := by decide +kernel
theorem g11_162 : rnF 11 162 = some (11, 10) ∧ okG 11 10 15 = true := by decide +kernel
theorem p11_162 : rnF 11 162 = some (11, 10) ∧ okP 11 10 15 = true := by decide +kernel
theorem g11_176 : rnF 11 176 = some (5, 0) ∧ okR 5 0 9 = true := by decide +kernel
theorem g11_186 : rnF 11 186 = some (5, 1) ∧ okG 5 1 9 = true := by decide +kernel
theorem p11_186 : rnF 11 186 = some (5, 1) ∧ okP 5 1 9 = true := by decide +kernel
theorem g11_189 : rnF 11 189 = some (5, 2) ∧ okG 5 2 9 = true := by decide +kernel
theorem p11_189 : rnF 11 189 = some (5, 2) ∧ okP 5 2 9 = true := by decide +kernel
theorem g11_192 : rnF 11 192 = some (1, 1) ∧ okR 1 1 6 = true := by decide +kernel
theorem g11_195 : rnF 11 195 = some (1, 2) ∧ okR 1 2 6 = true := by decide +kernel
theorem g11_198 : rnF 11 198 = some (1, 3) ∧ okR 1 3 6 = true := by decide +kernel
theorem g11_201 : rnF 11 201 = some (1, 4) ∧ okR 1 4 6 = true := by decide +kernel
theorem g11_211 : rnF 11 211 = some (0, 2) ∧ okR 0 2 7 = true := by decide +kernel
theorem g11_214 : rnF 11 214 = some (0, 3) ∧ okR 0 3 7 = true := by decide +kernel
theorem g11_217 : rnF 11 217 = some (0, 4) ∧ okR 0 4 7 = true := by decide +kernel
theorem g11_220 : rnF 11 220 = some (0, 5) ∧ okR 0 5 7 = true := by decide +kernel
theorem g11_223 : rnF 11 223 = some (0, 6) ∧ okR 0 6 7 = true := by decide +kernel
theorem g11_232 : rnF 11 232 = some (10, 2) ∧ okR 10 2 14 = true := by decide +kernel
theorem g11_235 : rnF 11 235 = some (10, 4) ∧ okG 10 4 14 = true := by decide +kernel
theorem p11_235 : rnF 11 235 = some (10, 4) ∧ okP 10 4 14 = true := by decide +kernel
theorem g11_238 : rnF 11 238 = some (10, 3) ∧ okR 10 3 14 = true := by decide +kernel
theorem g11_244 : rnF 11 244 = some (10, 6) ∧ okG 10 6 14 = true := by decide +kernel
theorem p11_244 : rnF 11 244 = some (10, 6) ∧ okP 10 6 14 = true := by decide +kernel
theorem g11_247 : rnF 11 247 = some (10, 8) ∧ okG 10 8 14 = true := by decide +kernel
theorem p11_247 : rnF 11 247 = some (10, 8) ∧ okP 10 8 14 = true := by decide +kernel
theorem g11_279 : rnF 11 279 = some (8, 3) ∧ okR 8 3 12 = true := by decide +kernel
theorem g11_288 : rnF 11 288 = some (8, 4) ∧ okR 8 4 12 = true := by decide +kernel
theorem g11_341 : rnF 11 341 = some (11, 14) ∧ okG 11 14 15 = true := by decide +kernel
theorem p11_341 : rnF 11 341 = some (11, 14) ∧ okZ 11 14 15 = true := by decide +kernel
theorem g11_345 : rnF 11 345 = some (10, 7) ∧ okG 10 7 14 = true := by decide +kernel
theorem p11_345 : rnF 11 345 = some (10, 7) ∧ okP 10 7 14 = true := by decide +kernel
theorem g11_348 : rnF 11 348 = some (10, 9) ∧ okG 10 9 14 = true := by decide +kernel
theorem p11_348 : rnF 11 348 = some (10, 9) ∧ okP 10 9 14 = true := by decide +kernel
theorem g11_351 : rnF 11 351 = some (4, 0) ∧ okG 4 0 3 = true := by decide +kernel
theorem p11_351 : rnF 11 351 = some (4, 0) ∧ okP 4 0 3 = true := by decide +kernel
theorem g0_9 : rnF 0 9 = some (0, 2) ∧ okR 0 2 7 = true := by decide +kernel
theorem g0_15 : rnF 0 15 = some (0, 3) ∧ okR 0 3 7 = true := by decide +kernel
theorem g0_18 : rnF 0 18 = some (0, 4) ∧ okR 0 4 7 = true := by decide +kernel
theorem g0_21 : rnF 0 21 = some (0, 5) ∧ okR 0 5 7 = true := by decide +kernel
theorem g0_24 : rnF 0 24 = some (0, 6) ∧ okR 0 6 7 = true := by decide +kernel
theorem g0_27 : rnF 0 27 = some (0, 0) ∧ okG 0 0 7 = true := by decide +kernel
theorem p0_27 : rnF 0 27 = some (0, 0) ∧ okP 0 0 7 = true := by decide +kernel
theorem g0_31 : rnF 0 31 = some (0, 1) ∧ okG 0 1 7 = true := by decide +kernel
theorem p0_31 : rnF 0 31 = some (0, 1) ∧ okP 0 1 7 = true := by decide +kernel
theorem g1_9 : rnF 1 9 = some (1, 1) ∧ okR 1 1 6 = true := by decide +kernel
theorem g1_15 : rnF 1 15 = some (1, 2) ∧ okR 1 2 6 = true := by decide +kernel
theorem g1_18 : rnF 1 18 = some (1, 3) ∧ okR 1 3 6 = true := by decide +kernel
theorem g1_21 : rnF 1 21 = some (1, 4) ∧ okR 1 4 6 = true := by decide +kernel
theorem g1_24 : rnF 1 24 = some (1, 5) ∧ okR 1 5 6 = true := by decide +kernel
theorem g1_27 : rnF 1 27 = some (1, 0) ∧ okG 1 0 6 = true := by decide +kernel
theorem p1_27 : rnF 1 27 = some (1, 0) ∧ okP 1 0 6 = true := by decide +kernel
theorem g2_11 : rnF 2 11 = some (2, 2) ∧ okR 2 2 9 = true := by decide +kernel
theorem g2_15 : rnF 2 15 = some (2, 3) ∧ okR 2 3 9 = true := by decide +kernel
theorem g2_18 : rnF 2 18 = some (2, 4) ∧ okR 2 4 9 = true := by decide +kernel
theorem g2_21 : rnF 2 21 = some (2, 5) ∧ okR 2 5 9 = true := by decide +kernel
theorem g2_24 : rnF 2 24 = some (2, 6) ∧ okR 2 6 9 = true := by decide +kernel
theorem g2_27 : rnF 2 27 = some (2, 7) ∧ okR 2 7 9 = true := by decide +kernel
theorem g2_30 : rnF 2 30 = some (2, 8) ∧ okR 2 8 9 = true := by decide +kernel
theorem g2_37 : rnF 2 37 = some (2, 0) ∧ okG 2 0 9 = true := by decide +kernel
theorem p2_37 : rnF 2 37 = some (2, 0) ∧ okP 2 0 9 = true := by decide +kernel
theorem g2_49 : rnF 2 49 = some (2, 1) ∧ okG 2 1 9 = true := by decide +kernel
theorem p2_49 : rnF 2 49 = some (2, 1) ∧ okP 2 1 9 = true := by decide +kernel
theorem g3_11 : rnF 3 11 = some (3, 0) ∧ okR 3 0 4 = true := by decide +kernel
theorem g3_17 : rnF 3 17 = some (3, 1) ∧ okR 3 1 4 = true := by decide +kernel
theorem g3_20 : rnF 3 20 = some (3, 2) ∧ okR 3 2 4 = true := by decide +kernel
theorem g3_24 : rnF 3 24 = some (3, 3) ∧ okR 3 3 4 = true := by decide +kernel
theorem g3_27 : rnF 3 27 = some (8, 0) ∧ okG 8 0 12 = true := by decide +kernel
theorem p3_27 : rnF 3 27 = some (8, 0) ∧ okP 8 0 12 = true := by decide +kernel
theorem g3_31 : rnF 3 31 = some (8, 1) ∧ okR 8 1 12 = true := by decide +kernel
theorem g3_50 : rnF 3 50 = some (8, 3) ∧ okR 8 3 12 = true := by decide +kernel
theorem g3_64 : rnF 3 64 = some (8, 5) ∧ okG 8 5 12 = true := by decide +kernel
theorem p3_64 : rnF 3 64 = some (8, 5) ∧ okP 8 5 12 = true := by decide +kernel
theorem g3_67 : rnF 3 67 = some (8, 6) ∧ okR 8 6 12 = true := by decide +kernel
theorem g3_70 : rnF 3 70 = some (8, 4) ∧ okR 8 4 12 = true := by decide +kernel
theorem g3_73 : rnF 3 73 = some (8, 8) ∧ okR 8 8 12 = true := by decide +kernel
theorem g3_83 : rnF 3 83 = some (8, 9) ∧ okG 8 9 12 = true := by decide +kernel
theorem p3_83 : rnF 3 83 = some (8, 9) ∧ okP 8 9 12 = true := by decide +kernel
theorem g3_86 : rnF 3 86 = some (8, 10) ∧ okR 8 10 12 = true := by decide +kernel
theorem g3_89 : rnF 3 89 = some (8, 11) ∧ okR 8 11 12 = true := by decide +kernel
theorem g4_11 : rnF 4 11 = some (4, 2) ∧ okR 4 2 3 = true := by decide +kernel
theorem g4_18 : rnF 4 18 = some (4, 1) ∧ okG 4 1 3 = true := by decide +kernel
theorem p4_18 : rnF 4 18 = some (4, 1) ∧ okP 4 1 3 = true := by decide +kernel
theorem g4_26 : rnF 4 26 = some (4, 0) ∧ okG 4 0 3 = true := by decide +kernel
theorem p4_26 : rnF 4 26 = some (4, 0) ∧ okP 4 0 3 = true := by decide +kernel
theorem g5_12 : rnF 5 12 = some (5, 0) ∧ okR 5 0 9 = true := by decide +kernel
theorem g5_18 : rnF 5 18 = some (5, 2) ∧ okG 5 2 9 = true := by decide +kernel
theorem p5_18 : rnF 5 18 = some (5, 2) ∧ okP 5 2 9 = true := by decide +kernel
theorem g5_25 : rnF 5 25 = some (5, 3) ∧ okR 5 3 9 = true := by decide +kernel
theorem g5_29 : rnF 5 29 = some (5, 6) ∧ okR 5 6 9 = true := by decide +kernel
theorem g5_33 : rnF 5 33 = some (5, 1) ∧ okG 5 1 9 = true := by decide +kernel
theorem p5_33 : rnF 5 33 = some (5, 1) ∧ okP 5 1 9 = true := by decide +kernel
theorem g5_44 : rnF 5 44 = some (5, 4) ∧ okG 5 4 9 = true := by decide +kernel
theorem p5_44 : rnF 5 44 = some (5, 4) ∧ okP 5 4 9 = true := by decide +kernel
theorem g5_47 : rnF 5 47 = some (5, 5) ∧ okG 5 5 9 = true := by decide +kernel
theorem p5_47 : rnF 5 47 = some (5, 5) ∧ okP 5 5 9 = true := by decide +kernel
theorem g5_80 : rnF 5 80 = some (6, 0) ∧ okR 6 0 10 = true := by decide +kernel
theorem g5_84 : rnF 5 84 = some (2, 2) ∧ okR 2 2 9 = true := by decide +kernel
theorem g5_89 : rnF 5 89 = some (2, 3) ∧ okR 2 3 9 = true := by decide +kernel
theorem g5_92 : rnF 5 92 = some (2, 1) ∧ okG 2 1 9 = true := by decide +kernel
theorem p5_92 : rnF 5 92 = some (2, 1) ∧ okP 2 1 9 = true := by decide +kernel
theorem g5_98 : rnF 5 98 = some (2, 4) ∧ okR 2 4 9 = true := by decide +kernel
theorem g5_104 : rnF 5 104 = some (2, 5) ∧ okR 2 5 9 = true := by decide +kernel
theorem g5_110 : rnF 5 110 = some (2, 0) ∧ okG 2 0 9 = true := by decide +kernel
theorem p5_110 : rnF 5 110 = some (2, 0) ∧ okP 2 0 9 = true := by decide +kernel
theorem g5_113 : rnF 5 113 = some (6, 2) ∧ okR 6 2 10 = true := by decide +kernel
theorem g5_120 : rnF 5 120 = some (6, 3) ∧ okR 6 3 10 = true := by decide +kernel
theorem g5_123 : rnF 5 123 = some (6, 4) ∧ okR 6 4 10 = true := by decide +kernel
theorem g5_129 : rnF 5 129 = some (6, 5) ∧ okR 6 5 10 = true := by decide +kernel
theorem g5_132 : rnF 5 132 = some (6, 1) ∧ okG 6 1 10 = true := by decide +kernel
theorem p5_132 : rnF 5 132 = some (6, 1) ∧ okP 6 1 10 = true := by decide +kernel
theorem g5_135 : rnF 5 135 = some (6, 7) ∧ okR 6 7 10 = true := by decide +kernel
theorem g5_138 : rnF 5 138 = some (6, 6) ∧ okG 6 6 10 = true := by decide +kernel
theorem p5_138 : rnF 5 138 = some (6, 6) ∧ okP 6 6 10 = true := by decide +kernel
theorem g5_141 : rnF 5 141 = some (7, 2) ∧ okR 7 2 5 = true := by decide +kernel
theorem g5_148 : rnF 5 148 = some (6, 8) ∧ okG 6 8 10 = true := by decide +kernel
theorem p5_148 : rnF 5 148 = some (6, 8) ∧ okP 6 8 10 = true := by decide +kernel
theorem g5_151 : rnF 5 151 = some (5, 7) ∧ okG 5 7 9 = true := by decide +kernel
theorem p5_151 : rnF 5 151 = some (5, 7) ∧ okP 5 7 9 = true := by decide +kernel
theorem g5_154 : rnF 5 154 = some (5, 8) ∧ okG 5 8 9 = true := by decide +kernel
theorem p5_154 : rnF 5 154 = some (5, 8) ∧ okP 5 8 9 = true := by decide +kernel
theorem g5_189 : rnF 5 189 = some (7, 0) ∧ okG 7 0 5 = true := by decide +kernel
theorem p5_189 : rnF 5 189 = some (7, 0) ∧ okP 7 0 5 = true := by decide +kernel
theorem g5_192 : rnF 5 192 = some (7, 1) ∧ okR 7 1 5 = true := by decide +kernel
theorem g5_194 : rnF 5 194 = some (7, 3) ∧ okR 7 3 5 = true := by decide +kernel
theorem g6_12 : rnF 6 12 = some (6, 0) ∧ okR 6 0 10 = true := by decide +kernel
theorem g6_18 : rnF 6 18 = some (6, 2) ∧ okR 6 2 10 = true := by decide +kernel
theorem g6_22 : rnF 6 22 = some (6, 3) ∧ okR 6 3 10 = true := by decide +kernel
theorem g6_25 : rnF 6 25 = some (6, 4) ∧ okR 6 4 10 = true := by decide +kernel
theorem g6_28 : rnF 6 28 = some (6, 5) ∧ okR 6 5 10 = true := by decide +kernel
theorem g6_31 : rnF 6 31 = some (6, 7) ∧ okR 6 7 10 = true := by decide +kernel
theorem g6_34 : rnF 6 34 = some (6, 9) ∧ okR 6 9 10 = true := by decide +kernel
theorem g6_37 : rnF 6 37 = some (2, 0) ∧ okG 2 0 9 = true := by decide +kernel
theorem p6_37 : rnF 6 37 = some (2, 0) ∧ okP 2 0 9 = true := by decide +kernel
theorem g6_41 : rnF 6 41 = some (6, 1) ∧ okG 6 1 10 = true := by decide +kernel
theorem p6_41 : rnF 6 41 = some (6, 1) ∧ okP 6 1 10 = true := by decide +kernel
theorem g6_44 : rnF 6 44 = some (6, 6) ∧ okG 6 6 10 = true := by decide +kernel
theorem p6_44 : rnF 6 44 = some (6, 6) ∧ okP 6 6 10 = true := by decide +kernel
theorem g6_47 : rnF 6 47 = some (6, 8) ∧ okG 6 8 10 = true := by decide +kernel
theorem p6_47 : rnF 6 47 = some (6, 8) ∧ okP 6 8 10 = true := by decide +kernel
theorem g7_11 : rnF 7 11 = some (7, 1) ∧ okR 7 1 5 = true := by decide +kernel
theorem g7_15 : rnF 7 15 = some (7, 2) ∧ okR 7 2 5 = true := by decide +kernel
theorem g7_18 : rnF 7 18 = some (7, 3) ∧ okR 7 3 5 = true := by decide +kernel
theorem g7_21 : rnF 7 21 = some (7, 4) ∧ okR 7 4 5 = true := by decide +kernel
theorem g7_24 : rnF 7 24 = some (7, 0) ∧ okG 7 0 5 = true := by decide +kernel
theorem p7_24 : rnF 7 24 = some (7, 0) ∧ okP 7 0 5 = true := by decide +kernel
theorem g8_11 : rnF 8 11 = some (8, 1) ∧ okR 8 1 12 = true := by decide +kernel
theorem g8_15 : rnF 8 15 = some (8, 3) ∧ okR 8 3 12 = true := by decide +kernel
theorem g8_18 : rnF 8 18 = some (8, 4) ∧ okR 8 4 12 = true := by decide +kernel
theorem g8_21 : rnF 8 21 = some (8, 6) ∧ okR 8 6 12 = true := by decide +kernel
theorem g8_24 : rnF 8 24 = some (8, 8) ∧ okR 8 8 12 = true := by decide +kernel
theorem g8_27 : rnF 8 27 = some (8, 10) ∧ okR 8 10 12 = true := by decide +kernel
theorem g8_30 : rnF 8 30 = some (8, 11) ∧ okR 8 11 12 = true := by decide +kernel
theorem g8_33 : rnF 8 33 = some (8, 0) ∧ okG 8 0 12 = true := by decide +kernel
theorem p8_33 : rnF 8 33 = some (8, 0) ∧ okP 8 0 12 = true := by decide +kernel
theorem g8_41 : rnF 8 41 = some (8, 2) ∧ okG 8 2 12 = true := by decide +kernel
theorem p8_41 : rnF 8 41 = some (8, 2) ∧ okP 8 2 12 = true := by decide +kernel
theorem g8_50 : rnF 8 50 = some (8, 5) ∧ okG 8 5 12 = true := by decide +kernel
theorem p8_50 : rnF 8 50 = some (8, 5) ∧ okP 8 5 12 = true := by decide +kernel
theorem g8_53 : rnF 8 53 = some (8, 7) ∧ okG 8 7 12 = true := by decide +kernel
theorem p8_53 : rnF 8 53 = some (8, 7) ∧ okP 8 7 12 = true := by decide +kernel
theorem g8_60 : rnF 8 60 = some (8, 9) ∧ okG 8 9 12 = true := by decide +kernel
theorem p8_60 : rnF 8 60 = some (8, 9) ∧ okP 8 9 12 = true := by decide +kernel
theorem g9_11 : rnF 9 11 = some (9, 0) ∧ okR 9 0 3 = true := by decide +kernel
theorem g9_15 : rnF 9 15 = some (9, 1) ∧ okR 9 1 3 = true := by decide +kernel
theorem g9_18 : rnF 9 18 = some (9, 2) ∧ okR 9 2 3 = true := by decide +kernel
theorem g9_21 : rnF 9 21 = some (10, 0) ∧ okR 10 0 14 = true := by decide +kernel
theorem g9_27 : rnF 9 27 = some (1, 0) ∧ okG 1 0 6 = true := by decide +kernel
theorem p9_27 : rnF 9 27 = some (1, 0) ∧ okP 1 0 6 = true := by decide +kernel
theorem g9_33 : rnF 9 33 = some (10, 1) ∧ okR 10 1 14 = true := by decide +kernel
theorem g9_80 : rnF 9 80 = some (0, 0) ∧ okG 0 0 7 = true := by decide +kernel
theorem p9_80 : rnF 9 80 = some (0, 0) ∧ okP 0 0 7 = true := by decide +kernel
theorem g9_83 : rnF 9 83 = some (0, 5) ∧ okR 0 5 7 = true := by decide +kernel
theorem g9_89 : rnF 9 89 = some (1, 1) ∧ okR 1 1 6 = true := by decide +kernel
theorem g10_12 : rnF 10 12 = some (10, 0) ∧ okR 10 0 14 = true := by decide +kernel
theorem g10_21 : rnF 10 21 = some (10, 1) ∧ okR 10 1 14 = true := by decide +kernel
theorem g10_25 : rnF 10 25 = some (10, 2) ∧ okR 10 2 14 = true := by decide +kernel
theorem g10_29 : rnF 10 29 = some (10, 5) ∧ okG 10 5 14 = true := by decide +kernel
theorem p10_29 : rnF 10 29 = some (10, 5) ∧ okP 10 5 14 = true := by decide +kernel
theorem g10_33 : rnF 10 33 = some (10, 13) ∧ okG 10 13 14 = true := by decide +kernel
theorem g10_37 : rnF 10 37 = some (10, 3) ∧ okR 10 3 14 = true := by decide +kernel
theorem g10_44 : rnF 10 44 = some (10, 8) ∧ okG 10 8 14 = true := by decide +kernel
theorem p10_44 : rnF 10 44 = some (10, 8) ∧ okP 10 8 14 = true := by decide +kernel
theorem g10_69 : rnF 10 69 = some (10, 9) ∧ okG 10 9 14 = true := by decide +kernel
theorem p10_69 : rnF 10 69 = some (10, 9) ∧ okP 10 9 14 = true := by decide +kernel
theorem g10_77 : rnF 10 77 = some (0, 2) ∧ okR 0 2 7 = true := by decide +kernel
theorem g10_80 : rnF 10 80 = some (0, 3) ∧ okR 0 3 7 = true := by decide +kernel
theorem g10_87 : rnF 10 87 = some (2, 7) ∧ okR 2 7 9 = true := by decide +kernel
theorem g10_90 : rnF 10 90 = some (0, 4) ∧ okR 0 4 7 = true := by decide +kernel
theorem g10_93 : rnF 10 93 = some (0, 5) ∧ okR 0 5 7 = true := by decide +kernel
theorem g10_96 : rnF 10 96 = some (0, 6) ∧ okR 0 6 7 = true := by decide +kernel
theorem g10_99 : rnF 10 99 = some (1, 1) ∧ okR 1 1 6 = true := by decide +kernel
theorem g10_102 : rnF 10 102 = some (1, 2) ∧ okR 1 2 6 = true := by decide +kernel
theorem g10_105 : rnF 10 105 = some (1, 3) ∧ okR 1 3 6 = true := by decide +kernel
theorem g10_108 : rnF 10 108 = some (10, 6) ∧ okG 10 6 14 = true := by decide +kernel
theorem p10_108 : rnF 10 108 = some (10, 6) ∧ okP 10 6 14 = true := by decide +kernel
theorem g10_111 : rnF 10 111 = some (10, 10) ∧ okG 10 10 14 = true := by decide +kernel
theorem p10_111 : rnF 10 111 = some (10, 10) ∧ okP 10 10 14 = true := by decide +kernel
theorem g10_114 : rnF 10 114 = some (10, 11) ∧ okG 10 11 14 = true := by decide +kernel
theorem p10_114 : rnF 10 114 = some (10, 11) ∧ okP 10 11 14 = true := by decide +kernel
theorem g10_128 : rnF 10 128 = some (6, 6) ∧ okG 6 6 10 = true := by decide +kernel
theorem p10_128 : rnF 10 128 = some (6, 6) ∧ okP 6 6 10 = true := by decide +kernel
theorem g10_133 : rnF 10 133 = some (6, 7) ∧ okR 6 7 10 = true := by decide +kernel
theorem g10_136 : rnF 10 136 = some (6, 0) ∧ okR 6 0 10 = true := by decide +kernel
theorem g10_166 : rnF 10 166 = some (10, 4) ∧ okG 10 4 14 = true := by decide +kernel
theorem p10_166 : rnF 10 166 = some (10, 4) ∧ okP 10 4 14 = true := by decide +kernel
theorem g10_169 : rnF 10 169 = some (10, 7) ∧ okG 10 7 14 = true := by decide +kernel
theorem p10_169 : rnF 10 169 = some (10, 7) ∧ okP 10 7 14 = true := by decide +kernel
theorem g10_172 : rnF 10 172 = some (10, 12) ∧ okG 10 12 14 = true := by decide +kernel
theorem p10_172 : rnF 10 172 = some (10, 12) ∧ okP 10 12 14 = true := by decide +kernel
theorem g10_175 : rnF 10 175 = some (6, 1) ∧ okG 6 1 10 = true := by decide +kernel
theorem p10_175 : rnF 10 175 = some (6, 1) ∧ okP 6 1 10 = true := by decide +kernel
theorem g10_178 : rnF 10 178 = some (6, 2) ∧ okR 6 2 10 = true := by decide +kernel
theorem g10_181 : rnF 10 181 = some (6, 3) ∧ okR 6 3 10 = true := by decide +kernel
theorem g10_184 : rnF 10 184 = some (6, 4) ∧ okR 6 4 10 = true := by decide +kernel
theorem g10_187 : rnF 10 187 = some (6, 5) ∧ okR 6 5 10 = true := by decide +kernel
theorem g10_193 : rnF 10 193 = some (0, 0) ∧ okG 0 0 7 = true := by decide +kernel
theorem p10_193 : rnF 10 193 = some (0, 0) ∧ okP 0 0 7 = true := by decide +kernel
theorem g10_201 : rnF 10 201 = some (1, 4) ∧ okR 1 4 6 = true := by decide +kernel
theorem g12_7 : rnF 12 7 = some (12, 1) ∧ okR 12 1 64 = true := by decide +kernel
theorem g12_13 : rnF 12 13 = some (12, 2) ∧ okR 12 2 64 = true := by decide +kernel
theorem g12_16 : rnF 12 16 = some (12, 4) ∧ okR 12 4 64 = true := by decide +kernel
theorem g12_19 : rnF 12 19 = some (12, 7) ∧ okR 12 7 64 = true := by decide +kernel
theorem g12_22 : rnF 12 22 = some (12, 8) ∧ okR 12 8 64 = true := by decide +kernel
theorem g12_25 : rnF 12 25 = some (12, 9) ∧ okR 12 9 64 = true := by decide +kernel
theorem g12_28 : rnF 12 28 = some (12, 15) ∧ okR 12 15 64 = true := by decide +kernel
theorem g12_31 : rnF 12 31 = some (12, 16) ∧ okR 12 16 64 = true := by decide +kernel
theorem g12_34 : rnF 12 34 = some (12, 17) ∧ okR 12 17 64 = true := by decide +kernel
theorem g12_37 : rnF 12 37 = some (12, 18) ∧ okR 12 18 64 = true := by decide +kernel
theorem g12_40 : rnF 12 40 = some (12, 19) ∧ okR 12 19 64 = true := by decide +kernel
theorem g12_43 : rnF 12 43 = some (12, 20) ∧ okR 12 20 64 = true := by decide +kernel
theorem g12_46 : rnF 12 46 = some (12, 21) ∧ okR 12 21 64 = true := by decide +kernel
theorem g12_49 : rnF 12 49 = some (12, 22) ∧ okR 12 22 64 = true := by decide +kernel
theorem g12_52 : rnF 12 52 = some (12, 26) ∧ okR 12 26 64 = true := by decide +kernel
theorem g12_55 : rnF 12 55 = some (12, 31) ∧ okG 12 31 64 = true := by decide +kernel
theorem p12_55 : rnF 12 55 = some (12, 31) ∧ okP 12 31 64 = true := by decide +kernel
theorem g12_59 : rnF 12 59 = some (12, 33) ∧ okR 12 33 64 = true := by decide +kernel
theorem g12_62 : rnF 12 62 = some (12, 35) ∧ okR 12 35 64 = true := by decide +kernel
theorem g12_65 : rnF 12 65 = some (12, 37) ∧ okR 12 37 64 = true := by decide +kernel
theorem g12_68 : rnF 12 68 = some (12, 38) ∧ okR 12 38 64 = true := by decide +kernel
theorem g12_71 : rnF 12 71 = some (12, 39) ∧ okR 12 39 64 = true := by decide +kernel
theorem g12_74 : rnF 12 74 = some (12, 41) ∧ okR 12 41 64 = true := by decide +kernel
theorem g12_77 : rnF 12 77 = some (12, 43) ∧ okR 12 43 64 = true := by decide +kernel
theorem g12_80 : rnF 12 80 = some (12, 44) ∧ okR 12 44 64 = true := by decide +kernel
theorem g12_83 : rnF 12 83 = some (12, 46) ∧ okR 12 46 64 = true := by decide +kernel
theorem g12_86 : rnF 12 86 = some (12, 47) ∧ okR 12 47 64 = true := by decide +kernel
theorem g12_89 : rnF 12 89 = some (12, 48) ∧ okR 12 48 64 = true := by decide +kernel
theorem g12_92 : rnF 12 92 = some (12, 50) ∧ okR 12 50 64 = true := by decide +kernel
theorem g12_95 : rnF 12 95 = some (12, 51) ∧ okR 12 51 64 = true := by decide +kernel
theorem g12_98 : rnF 12 98 = some (12, 52) ∧ okR 12 52 64 = true := by decide +kernel
theorem g12_101 : rnF 12 101 = some (12, 54) ∧ okR 12 54 64 = true := by decide +kernel
theorem g12_104 : rnF 12 104 = some (12, 56) ∧ okR 12 56 64 = true := by decide +kernel
theorem g12_107 : rnF 12 107 = some (12, 58) ∧ okR 12 58 64 = true := by decide +kernel
theorem g12_110 : rnF 12 110 = some (12, 59) ∧ okR 12 59 64 = true := by decide +kernel
theorem g12_113 : rnF 12 113 = some (12, 63) ∧ okR 12 63 64 = true := by decide +kernel
theorem g12_116 : rnF 12 116 = some (12, 0) ∧ okG 12 0 64 = true := by decide +kernel
theorem p12_116 : rnF 12 116 = some (12, 0) ∧ okP 12 0 64 = true := by decide +kernel
theorem g12_120 : rnF 12 120 = some (12, 3) ∧ okG 12 3 64 = true := by decide +kernel
theorem p12_120 : rnF 12 120 = some (12, 3) ∧ okP 12 3 64 = true := by decide +kernel
theorem g12_123 : rnF 12 123 = some (12, 5) ∧ okG 12 5 64 = true := by decide +kernel
theorem p12_123 : rnF 12 123 = some (12, 5) ∧ okZ 12 5 64 = true := by decide +kernel
theorem g12_129 : rnF 12 129 = some (12, 6) ∧ okG 12 6 64 = true := by decide +kernel
theorem p12_129 : rnF 12 129 = some (12, 6) ∧ okP 12 6 64 = true := by decide +kernel
theorem g12_158 : rnF 12 158 = some (12, 10) ∧ okG 12 10 64 = true := by decide +kernel
theorem p12_158 : rnF 12 158 = some (12, 10) ∧ okP 12 10 64 = true := by decide +kernel
theorem g12_164 : rnF 12 164 = some (12, 11) ∧ okG 12 11 64 = true := by decide +kernel
theorem p12_164 : rnF 12 164 = some (12, 11) ∧ okP 12 11 64 = true := by decide +kernel
theorem g12_170 : rnF 12 170 = some (12, 12) ∧ okG 12 12 64 = true := by decide +kernel
theorem p12_170 : rnF 12 170 = some (12, 12) ∧ okP 12 12 64 = true := by decide +kernel
theorem g12_173 : rnF 12 173 = some (12, 13) ∧ okG 12 13 64 = true := by decide +kernel
theorem p12_173 : rnF 12 173 = some (12, 13) ∧ okP 12 13 64 = true := by decide +kernel
theorem g12_176 : rnF 12 176 = some (12, 14) ∧ okG 12 14 64 = true := by decide +kernel
theorem p12_176 : rnF 12 176 = some (12, 14) ∧ okP 12 14 64 = true := by decide +kernel
theorem g12_192 : rnF 12 192 = some (12, 28) ∧ okG 12 28 64 = true := by decide +kernel
theorem p12_192 : rnF 12 192 = some (12, 28) ∧ okP 12 28 64 = true := by decide +kernel
theorem g12_195 : rnF 12 195 = some (12, 29) ∧ okG 12 29 64 = true := by decide +kernel
theorem p12_195 : rnF 12 195 = some (12, 29) ∧ okP 12 29 64 = true := by decide +kernel
theorem g12_198 : rnF 12 198 = some (12, 24) ∧ okG 12 24 64 = true := by decide +kernel
theorem p12_198 : rnF 12 198 = some (12, 24) ∧ okP 12 24 64 = true := by decide +kernel
theorem g12_227 : rnF 12 227 = some (12, 27) ∧ okG 12 27 64 = true := by decide +kernel
theorem p12_227 : rnF 12 227 = some (12, 27) ∧ okP 12 27 64 = true := by decide +kernel
theorem g12_230 : rnF 12 230 = some (12, 25) ∧ okG 12 25 64 = true := by decide +kernel
theorem p12_230 : rnF 12 230 = some (12, 25) ∧ okP 12 25 64 = true := by decide +kernel
theorem g12_252 : rnF 12 252 = some (12, 23) ∧ okG 12 23 64 = true := by decide +kernel
theorem p12_252 : rnF 12 252 = some (12, 23) ∧ okP 12 23 64 = true := by decide +kernel
theorem g12_285 : rnF 12 285 = some (12, 36) ∧ okG 12 36 64 = true := by decide +kernel
theorem p12_285 : rnF 12 285 = some (12, 36) ∧ okP 12 36 64 = true := by decide +kernel
theorem g12_288 : rnF 12 288 = some (12, 32) ∧ okG 12 32 64 = true := by decide +kernel
theorem p12_288 : rnF 12 288 = some (12, 32) ∧ okP 12 32 64 = true := by decide +kernel
theorem g12_291 : rnF 12 291 = some (12, 34) ∧ okG 12 34 64 = true := by decide +kernel
theorem p12_291 : rnF 12 291 = some (12, 34) ∧ okP 12 34 64 = true := by decide +kernel
theorem g12_294 : rnF 12 294 = some (12, 30) ∧ okG 12 30 64 = true := by decide +kernel
theorem p12_294 : rnF 12 294 = some (12, 30) ∧ okP 12 30 64 = true := by decide +kernel
theorem g12_374 : rnF 12 374 = some (12, 40) ∧ okG 12 40 64 = true := by decide +kernel
theorem p12_374 : rnF 12 374 = some (12, 40) ∧ okP 12 40 64 = true := by decide +kernel
theorem g12_406 : rnF 12 406 = some (12, 42) ∧ okG 12 42 64 = true := by decide +kernel
theorem p12_406 : rnF 12 406 = some (12, 42) ∧ okP 12 42 64 = true := by decide +kernel
theorem g12_421 : rnF 12 421 = some (12, 45) ∧ okG 12 45 64 = true := by decide +kernel
theorem p12_421 : rnF 12 421 = some (12, 45) ∧ okP 12 45 64 = true := by decide +kernel
theorem g12_436 : rnF 12 436 = some (12, 49) ∧ okG 12 49 64 = true := by decide +kernel
theorem p12_436 : rnF 12 436 = some (12, 49) ∧ okP 12 49 64 = true := by decide +kernel
theorem g12_448 : rnF 12 448 = some (12, 53) ∧ okG 12 53 64 = true := by decide +kernel
theorem p12_448 : rnF 12 448 = some (12, 53) ∧ okP 12 53 64 = true := by decide +kernel
theorem g12_454 : rnF 12 454 = some (12, 55) ∧ okG 12 55 64 = true := by decide +kernel
theorem p12_454 : rnF 12 454 = some (12, 55) ∧ okP 12 55 64 = true := by decide +kernel
theorem g12_463 : rnF 12 463 = some (12, 57) ∧ okG 12 57 64 = true := by decide +kernel
theorem p12_463 : rnF 12 463 = some (12, 57) ∧ okP 12 57 64 = true := by decide +kernel
theorem g12_476 : rnF 12 476 = some (12, 62) ∧ okG 12 62 64 = true := by decide +kernel
theorem p12_476 : rnF 12 476 = some (12, 62) ∧ okP 12 62 64 = true := by decide +kernel
theorem g12_479 : rnF 12 479 = some (12, 60) ∧ okG 12 60 64 = true := by decide +kernel
theorem p12_479 : rnF 12 479 = some (12, 60) ∧ okZ 12 60 64 = true := by decide +kernel
theorem g12_485 : rnF 12 485 = some (12, 61) ∧ okG 12 61 64 = true := by decide +kernel
theorem p12_485 : rnF 12 485 = some (12, 61) ∧ okZ 12 61 64 = true := by decide +kernel
theorem cIm8 : Int32.ofInt (-8) = (-8) := by decide +kernel
theorem cIm1 : Int32.ofInt (-1) = (-1) := by decide +kernel
theorem cI0 : Int32.ofInt 0 = 0 := by decide +kernel
theorem cI1 : Int32.ofInt 1 = 1 := by decide +kernel
theorem cI2 : Int32.ofInt 2 = 2 := by decide +kernel
theorem cI3 : Int32.ofInt 3 = 3 := by decide +kernel
theorem cI4 : Int32.ofInt 4 = 4 := by decide +kernel
theorem cI5 : Int32.ofInt 5 = 5 := by decide +kernel
theorem cI6 : Int32.ofInt 6 = 6 := by decide +kernel
theorem cBm100 : (Int8.ofInt (-100)).toInt32 = (-100) := by decide +kernel
theorem cBm50 : (Int8.ofInt (-50)).toInt32 = (-50) := by decide +kernel
theorem cBm10 : (Int8.ofInt (-10)).toInt32 = (-10) := by decide +kernel
theorem cBm9 : (Int8.ofInt (-9)).toInt32 = (-9) := by decide +kernel
theorem cBm2 : (Int8.ofInt (-2)).toInt32 = (-2) := by decide +kernel
theorem cB6 : (Int8.ofInt 6).toInt32 = 6 := by decide +kernel
theorem cB7 : (Int8.ofInt 7).toInt32 = 7 := by decide +kernel
theorem cB8 : (Int8.ofInt 8).toInt32 = 8 := by decide +kernel
theorem cB9 : (Int8.ofInt 9).toInt32 = 9 := by decide +kernel
theorem cB10 : (Int8.ofInt 10).toInt32 = 10 := by decide +kernel
theorem cB11 : (Int8.ofInt 11).toInt32 = 11 := by decide +kernel
theorem cB12 : (Int8.ofInt 12).toInt32 = 12 := by decide +kernel
theorem cB13 : (Int8.ofInt 13).toInt32 = 13 := by decide +kernel
theorem cB14 : (Int8.ofInt 14).toInt32 = 14 := by decide +kernel
theorem cB15 : (Int8.ofInt 15).toInt32 = 15 := by decide +kernel
theorem cB16 : (Int8.ofInt 16).toInt32 = 16 := by decide +kernel
theorem cB17 : (Int8.ofInt 17).toInt32 = 17 := by decide +kernel
theorem cB18 : (Int8.ofInt 18).toInt32 = 18 := by decide +kernel
theorem cB19 : (Int8.ofInt 19).toInt32 = 19 := by decide +kernel
theorem cB20 : (Int8.ofInt 20).toInt32 = 20 := by decide +kernel
theorem cB21 : (Int8.ofInt 21).toInt32 = 21 := by decide +kernel
theorem cB22 : (Int8.ofInt 22).toInt32 = 22 := by decide +kernel
theorem cB23 : (Int8.ofInt 23).toInt32 = 23 := by decide +kernel
theorem cB24 : (Int8.ofInt 24).toInt32 = 24 := by decide +kernel
theorem cB25 : (Int8.ofInt 25).toInt32 = 25 := by decide +kernel
theorem cB26 : (Int8.ofInt 26).toInt32 = 26 := by decide +kernel
theorem cB27 : (Int8.ofInt 27).toInt32 = 27 := by decide +kernel
theorem cB28 : (Int8.ofInt 28).toInt32 = 28 := by decide +kernel
theorem cB29 : (Int8.ofInt 29).toInt32 = 29 := by decide +kernel
theorem cB30 : (Int8.ofInt 30).toInt32 = 30 := by decide +kernel
theorem cB31 : (Int8.ofInt 31).toInt32 = 31 := by decide +kernel
theorem cB32 : (Int8.ofInt 32).toInt32 = 32 := by decide +kernel
theorem cB33 : (Int8.ofInt 33).toInt32 = 33 := by decide +kernel
theorem cB34 : (Int8.ofInt 34).toInt32 = 34 := by decide +kernel
theorem cB35 : (Int8.ofInt 35).toInt32 = 35 := by decide +kernel
theorem cB36 : (Int8.ofInt 36).toInt32 = 36 := by decide +kernel
theorem cB37 : (Int8.ofInt 37).toInt32 = 37 := by decide +kernel
theorem cB38 : (Int8.ofInt 38).toInt32 = 38 := by decide +kernel
theorem cB39 : (Int8.ofInt 39).toInt32 = 39 := by decide +kernel
theorem cB40 : (Int8.ofInt 40).toInt32 = 40 := by decide +kernel
theorem cB41 : (Int8.ofInt 41).toInt32 = 41 := by decide +kernel
theorem cB42 : (Int8.ofInt 42).toInt32 = 42 := by decide +kernel
theorem cB43 : (Int8.ofInt 43).toInt32 = 43 := by decide +kernel
theorem cB44 : (Int8.ofInt 44).toInt32 = 44 := by decide +kernel
theorem cB45 : (Int8.ofInt 45).toInt32 = 45 := by decide +kernel
theorem cB46 : (Int8.ofInt 46).toInt32 = 46 := by decide +kernel
theorem cB47 : (Int8.ofInt 47).toInt32 = 47 := by decide +kernel
theorem cB48 : (Int8.ofInt 48).toInt32 = 48 := by decide +kernel
theorem cB49 : (Int8.ofInt 49).toInt32 = 49 := by decide +kernel
theorem cB50 : (Int8.ofInt 50).toInt32 = 50 := by decide +kernel
theorem cB51 : (Int8.ofInt 51).toInt32 = 51 := by decide +kernel
theorem cB52 : (Int8.ofInt 52).toInt32 = 52 := by decide +kernel
theorem cB53 : (Int8.ofInt 53).toInt32 = 53 := by decide +kernel
theorem cB54 : (Int8.ofInt 54).toInt32 = 54 := by decide +kernel
theorem cB55 : (Int8.ofInt 55).toInt32 = 55 := by decide +kernel
theorem cB56 : (Int8.ofInt 56).toInt32 = 56 := by decide +kernel
theorem cB57 : (Int8.ofInt 57).toInt32 = 57 := by decide +kernel
theorem cB58 : (Int8.ofInt 58).toInt32 = 58 := by decide +kernel
theorem cB59 : (Int8.ofInt 59).toInt32 = 59 := by decide +kernel
theorem cB60 : (Int8.ofInt 60).toInt32 = 60 := by decide +kernel
theorem cB61 : (Int8.ofInt 61).toInt32 = 61 := by decide +kernel
theorem cB62 : (Int8.ofInt 62).toInt32 = 62 := by decide +kernel
theorem cB63 : (Int8.ofInt 63).toInt32 = 63 := by decide +kernel
theorem cB64 : (Int8.ofInt 64).toInt32 = 64 := by decide +kernel
theorem cB65 : (Int8.ofInt 65).toInt32 = 65 := by decide +kernel
theorem cB66 : (Int8.ofInt 66).toInt32 = 66 := by decide +kernel
theorem cB67 : (Int8.ofInt 67).toInt32 = 67 := by decide +kernel
theorem cB68 : (Int8.ofInt 68).toInt32 = 68 := by decide +kernel
theorem cB69 : (Int8.ofInt 69).toInt32 = 69 := by decide +kernel
theorem cB70 : (Int8.ofInt 70).toInt32 = 70 := by decide +kernel
theorem cB71 : (Int8.ofInt 71).toInt32 = 71 := by decide +kernel
theorem cB72 : (Int8.ofInt 72).toInt32 = 72 := by decide +kernel
theorem cB73 : (Int8.ofInt 73).toInt32 = 73 := by decide +kernel
theorem cB74 : (Int8.ofInt 74).toInt32 = 74 := by decide +kernel
theorem cB75 : (Int8.ofInt 75).toInt32 = 75 := by decide +kernel
theorem cB76 : (Int8.ofInt 76).toInt32 = 76 := by decide +kernel
theorem cB77 : (Int8.ofInt 77).toInt32 = 77 := by decide +kernel
theorem cB78 : (Int8.ofInt 78).toInt32 = 78 := by decide +kernel
theorem cB79 : (Int8.ofInt 79).toInt32 = 79 := by decide +kernel
theorem cB80 : (Int8.ofInt 80).toInt32 = 80 := by decide +kernel
theorem cB81 : (Int8.ofInt 81).toInt32 = 81 := by decide +kernel
theorem cB82 : (Int8.ofInt 82).toInt32 = 82 := by decide +kernel
theorem cB83 : (Int8.ofInt 83).toInt32 = 83 := by decide +kernel
theorem cB84 : (Int8.ofInt 84).toInt32 = 84 := by decide +kernel
theorem cB85 : (Int8.ofInt 85).toInt32 = 85 := by decide +kernel
theorem cB86 : (Int8.ofInt 86).toInt32 = 86 := by decide +kernel
theorem cB87 : (Int8.ofInt 87).toInt32 = 87 := by decide +kernel
theorem cB88 : (Int8.ofInt 88).toInt32 = 88 := by decide +kernel
theorem cB89 : (Int8.ofInt 89).toInt32 = 89 := by decide +kernel
theorem cB90 : (Int8.ofInt 90).toInt32 = 90 := by decide +kernel
theorem cB91 : (Int8.ofInt 91).toInt32 = 91 := by decide +kernel
theorem cB92 : (Int8.ofInt 92).toInt32 = 92 := by decide +kernel
theorem cB93 : (Int8.ofInt 93).toInt32 = 93 := by decide +kernel
theorem cB94 : (Int8.ofInt 94).toInt32 = 94 := by decide +kernel
theorem cB95 : (Int8.ofInt 95).toInt32 = 95 := by decide +kernel
theorem cB96 : (Int8.ofInt 96).toInt32 = 96 := by decide +kernel
theorem cB97 : (Int8.ofInt 97).toInt32 = 97 := by decide +kernel
theorem cB98 : (Int8.ofInt 98).toInt32 = 98 := by decide +kernel
theorem cB99 : (Int8.ofInt 99).toInt32 = 99 := by decide +kernel
theorem cB100 : (Int8.ofInt 100).toInt32 = 100 := by decide +kernel
theorem cB101 : (Int8.ofInt 101).toInt32 = 101 := by decide +kernel
theorem cB102 : (Int8.ofInt 102).toInt32 = 102 := by decide +kernel
theorem cB103 : (Int8.ofInt 103).toInt32 = 103 := by decide +kernel
theorem cB104 : (Int8.ofInt 104).toInt32 = 104 := by decide +kernel
theorem cB105 : (Int8.ofInt 105).toInt32 = 105 := by decide +kernel
theorem cB106 : (Int8.ofInt 106).toInt32 = 106 := by decide +kernel
theorem cB107 : (Int8.ofInt 107).toInt32 = 107 := by decide +kernel
theorem cB108 : (Int8.ofInt 108).toInt32 = 108 := by decide +kernel
theorem cB109 : (Int8.ofInt 109).toInt32 = 109 := by decide +kernel
theorem cB110 : (Int8.ofInt 110).toInt32 = 110 := by decide +kernel
theorem cB111 : (Int8.ofInt 111).toInt32 = 111 := by decide +kernel
theorem cB112 : (Int8.ofInt 112).toInt32 = 112 := by decide +kernel
theorem cB113 : (Int8.ofInt 113).toInt32 = 113 := by decide +kernel
theorem cB114 : (Int8.ofInt 114).toInt32 = 114 := by decide +kernel
theorem cB115 : (Int8.ofInt 115).toInt32 = 115 := by decide +kernel
theorem cB116 : (Int8.ofInt 116).toInt32 = 116 := by decide +kernel
theorem cB117 : (Int8.ofInt 117).toInt32 = 117 := by decide +kernel
theorem cB118 : (Int8.ofInt 118).toInt32 = 118 := by decide +kernel
theorem cB119 : (Int8.ofInt 119).toInt32 = 119 := by decide +kernel
theorem cB120 : (Int8.ofInt 120).toInt32 = 120 := by decide +kernel
theorem cB121 : (Int8.ofInt 121).toInt32 = 121 := by decide +kernel
theorem cB122 : (Int8.ofInt 122).toInt32 = 122 := by decide +kernel
theorem cB123 : (Int8.ofInt 123).toInt32 = 123 := by decide +kernel
theorem cB124 : (Int8.ofInt 124).toInt32 = 124 := by decide +kernel
theorem cB125 : (Int8.ofInt 125).toInt32 = 125 := by decide +kernel
theorem cB126 : (Int8.ofInt 126).toInt32 = 126 := by decide +kernel
theorem cB127 : (Int8.ofInt 127).toInt32 = 127 := by decide +kernel
theorem cSm10000 : (Int16.ofInt (-10000)).toInt32 = (-10000) := by decide +kernel
theorem cS128 : (Int16.ofInt 128).toInt32 = 128 := by decide +kernel
theorem cS129 : (Int16.ofInt 129).toInt32 = 129 := by decide +kernel
theorem cS130 : (Int16.ofInt 130).toInt32 = 130 := by decide +kernel
theorem cS131 : (Int16.ofInt 131).toInt32 = 131 := by decide +kernel
theorem cS132 : (Int16.ofInt 132).toInt32 = 132 := by decide +kernel
theorem cS133 : (Int16.ofInt 133).toInt32 = 133 := by decide +kernel
theorem cS134 : (Int16.ofInt 134).toInt32 = 134 := by decide +kernel
theorem cS135 : (Int16.ofInt 135).toInt32 = 135 := by decide +kernel
theorem cS136 : (Int16.ofInt 136).toInt32 = 136 := by decide +kernel
theorem cS137 : (Int16.ofInt 137).toInt32 = 137 := by decide +kernel
theorem cS138 : (Int16.ofInt 138).toInt32 = 138 := by decide +kernel
theorem cS139 : (Int16.ofInt 139).toInt32 = 139 := by decide +kernel
theorem cS140 : (Int16.ofInt 140).toInt32 = 140 := by decide +kernel
theorem cS141 : (Int16.ofInt 141).toInt32 = 141 := by decide +kernel
theorem cS142 : (Int16.ofInt 142).toInt32 = 142 := by decide +kernel
theorem cS143 : (Int16.ofInt 143).toInt32 = 143 := by decide +kernel
theorem cS144 : (Int16.ofInt 144).toInt32 = 144 := by decide +kernel
theorem cS145 : (Int16.ofInt 145).toInt32 = 145 := by decide +kernel
theorem cS146 : (Int16.ofInt 146).toInt32 = 146 := by decide +kernel
theorem cS147 : (Int16.ofInt 147).toInt32 = 147 := by decide +kernel
theorem cS148 : (Int16.ofInt 148).toInt32 = 148 := by decide +kernel
theorem cS149 : (Int16.ofInt 149).toInt32 = 149 := by decide +kernel
theorem cS150 : (Int16.ofInt 150).toInt32 = 150 := by decide +kernel
theorem cS151 : (Int16.ofInt 151).toInt32 = 151 := by decide +kernel
theorem cS152 : (Int16.ofInt 152).toInt32 = 152 := by decide +kernel
theorem cS153 : (Int16.ofInt 153).toInt32 = 153 := by decide +kernel
theorem cS174 : (Int16.ofInt 174).toInt32 = 174 := by decide +kernel
theorem cS255 : (Int16.ofInt 255).toInt32 = 255 := by decide +kernel
theorem cS256 : (Int16.ofInt 256).toInt32 = 256 := by decide +kernel
theorem cS258 : (Int16.ofInt 258).toInt32 = 258 := by decide +kernel
theorem cS259 : (Int16.ofInt 259).toInt32 = 259 := by decide +kernel
theorem cS260 : (Int16.ofInt 260).toInt32 = 260 := by decide +kernel
theorem cS261 : (Int16.ofInt 261).toInt32 = 261 := by decide +kernel
theorem cS262 : (Int16.ofInt 262).toInt32 = 262 := by decide +kernel
theorem cS263 : (Int16.ofInt 263).toInt32 = 263 := by decide +kernel
theorem cS273 : (Int16.ofInt 273).toInt32 = 273 := by decide +kernel
theorem cS274 : (Int16.ofInt 274).toInt32 = 274 := by decide +kernel
theorem cS275 : (Int16.ofInt 275).toInt32 = 275 := by decide +kernel
theorem cS276 : (Int16.ofInt 276).toInt32 = 276 := by decide +kernel
theorem cS283 : (Int16.ofInt 283).toInt32 = 283 := by decide +kernel
theorem cS284 : (Int16.ofInt 284).toInt32 = 284 := by decide +kernel
theorem cS288 : (Int16.ofInt 288).toInt32 = 288 := by decide +kernel
theorem cS380 : (Int16.ofInt 380).toInt32 = 380 := by decide +kernel
theorem cS400 : (Int16.ofInt 400).toInt32 = 400 := by decide +kernel
theorem cS401 : (Int16.ofInt 401).toInt32 = 401 := by decide +kernel
theorem cS420 : (Int16.ofInt 420).toInt32 = 420 := by decide +kernel
theorem cS500 : (Int16.ofInt 500).toInt32 = 500 := by decide +kernel
theorem cS600 : (Int16.ofInt 600).toInt32 = 600 := by decide +kernel
theorem cS800 : (Int16.ofInt 800).toInt32 = 800 := by decide +kernel
theorem cS900 : (Int16.ofInt 900).toInt32 = 900 := by decide +kernel
theorem cS999 : (Int16.ofInt 999).toInt32 = 999 := by decide +kernel
theorem cS1000 : (Int16.ofInt 1000).toInt32 = 1000 := by decide +kernel
theorem cS1044 : (Int16.ofInt 1044).toInt32 = 1044 := by decide +kernel
theorem cS1200 : (Int16.ofInt 1200).toInt32 = 1200 := by decide +kernel
theorem cS2048 : (Int16.ofInt 2048).toInt32 = 2048 := by decide +kernel
theorem cS2300 : (Int16.ofInt 2300).toInt32 = 2300 := by decide +kernel
theorem cS4096 : (Int16.ofInt 4096).toInt32 = 4096 := by decide +kernel
theorem cS9999 : (Int16.ofInt 9999).toInt32 = 9999 := by decide +kernel
theorem cS10000 : (Int16.ofInt 10000).toInt32 = 10000 := by decide +kernel
theorem cS10025 : (Int16.ofInt 10025).toInt32 = 10025 := by decide +kernel
theorem cS20000 : (Int16.ofInt 20000).toInt32 = 20000 := by decide +kernel
theorem cS20001 : (Int16.ofInt 20001).toInt32 = 20001 := by decide +kernel
theorem cS20002 : (Int16.ofInt 20002).toInt32 = 20002 := by decide +kernel
theorem cS20003 : (Int16.ofInt 20003).toInt32 = 20003 := by decide +kernel
theorem cS20004 : (Int16.ofInt 20004).toInt32 = 20004 := by decide +kernel
theorem cS20005 : (Int16.ofInt 20005).toInt32 = 20005 := by decide +kernel
theorem cS20006 : (Int16.ofInt 20006).toInt32 = 20006 := by decide +kernel
theorem cS20007 : (Int16.ofInt 20007).toInt32 = 20007 := by decide +kernel
theorem cS20008 : (Int16.ofInt 20008).toInt32 = 20008 := by decide +kernel
theorem cS20009 : (Int16.ofInt 20009).toInt32 = 20009 := by decide +kernel
theorem cS20010 : (Int16.ofInt 20010).toInt32 = 20010 := by decide +kernel
theorem nL0 : nI 0 = 0 := by decide +kernel
theorem nL2 : nI 2 = 2 := by decide +kernel
theorem nL6 : nI 6 = 6 := by decide +kernel
theorem nL7 : nI 7 = 7 := by decide +kernel
theorem nL8 : nI 8 = 8 := by decide +kernel
theorem nL11 : nI 11 = 11 := by decide +kernel
theorem nL12 : nI 12 = 12 := by decide +kernel
theorem nL16 : nI 16 = 16 := by decide +kernel
theorem nL24 : nI 24 = 24 := by decide +kernel
theorem nL26 : nI 26 = 26 := by decide +kernel
theorem nL32 : nI 32 = 32 := by decide +kernel
theorem nL40 : nI 40 = 40 := by decide +kernel
theorem nL48 : nI 48 = 48 := by decide +kernel
theorem nL49 : nI 49 = 49 := by decide +kernel
theorem nL128 : nI 128 = 128 := by decide +kernel
theorem nL144 : nI 144 = 144 := by decide +kernel
theorem nL153 : nI 153 = 153 := by decide +kernel
theorem nL174 : nI 174 = 174 := by decide +kernel
theorem nL256 : nI 256 = 256 := by decide +kernel
theorem nL288 : nI 288 = 288 := by decide +kernel
theorem nL400 : nI 400 = 400 := by decide +kernel
theorem nL401 : nI 401 = 401 := by decide +kernel
theorem nL420 : nI 420 = 420 := by decide +kernel
theorem nL600 : nI 600 = 600 := by decide +kernel
theorem nL1044 : nI 1044 = 1044 := by decide +kernel
theorem nL1200 : nI 1200 = 1200 := by decide +kernel
theorem nL2048 : nI 2048 = 2048 := by decide +kernel
theorem nL2300 : nI 2300 = 2300 := by decide +kernel
theorem nL4096 : nI 4096 = 4096 := by decide +kernel
theorem nL10025 : nI 10025 = 10025 := by decide +kernel
theorem iL0 : (0 : Int32) = nI 0 ∧ 0 < 100000 := by decide +kernel
theorem iL1 : (1 : Int32) = nI 1 ∧ 1 < 100000 := by decide +kernel
theorem iL2 : (2 : Int32) = nI 2 ∧ 2 < 100000 := by decide +kernel
theorem iL3 : (3 : Int32) = nI 3 ∧ 3 < 100000 := by decide +kernel
theorem iL4 : (4 : Int32) = nI 4 ∧ 4 < 100000 := by decide +kernel
theorem iL5 : (5 : Int32) = nI 5 ∧ 5 < 100000 := by decide +kernel
theorem iL6 : (6 : Int32) = nI 6 ∧ 6 < 100000 := by decide +kernel
theorem iL7 : (7 : Int32) = nI 7 ∧ 7 < 100000 := by decide +kernel
theorem iL8 : (8 : Int32) = nI 8 ∧ 8 < 100000 := by decide +kernel
theorem iL9 : (9 : Int32) = nI 9 ∧ 9 < 100000 := by decide +kernel
theorem iL10 : (10 : Int32) = nI 10 ∧ 10 < 100000 := by decide +kernel
theorem iL11 : (11 : Int32) = nI 11 ∧ 11 < 100000 := by decide +kernel
theorem iL12 : (12 : Int32) = nI 12 ∧ 12 < 100000 := by decide +kernel
theorem iL13 : (13 : Int32) = nI 13 ∧ 13 < 100000 := by decide +kernel
theorem iL14 : (14 : Int32) = nI 14 ∧ 14 < 100000 := by decide +kernel
theorem iL15 : (15 : Int32) = nI 15 ∧ 15 < 100000 := by decide +kernel
theorem iL16 : (16 : Int32) = nI 16 ∧ 16 < 100000 := by decide +kernel
theorem iL17 : (17 : Int32) = nI 17 ∧ 17 < 100000 := by decide +kernel
theorem iL18 : (18 : Int32) = nI 18 ∧ 18 < 100000 := by decide +kernel
theorem iL19 : (19 : Int32) = nI 19 ∧ 19 < 100000 := by decide +kernel
theorem iL20 : (20 : Int32) = nI 20 ∧ 20 < 100000 := by decide +kernel
theorem iL21 : (21 : Int32) = nI 21 ∧ 21 < 100000 := by decide +kernel
theorem iL22 : (22 : Int32) = nI 22 ∧ 22 < 100000 := by decide +kernel
theorem iL23 : (23 : Int32) = nI 23 ∧ 23 < 100000 := by decide +kernel
theorem iL24 : (24 : Int32) = nI 24 ∧ 24 < 100000 := by decide +kernel
theorem iL25 : (25 : Int32) = nI 25 ∧ 25 < 100000 := by decide +kernel
theorem iL26 : (26 : Int32) = nI 26 ∧ 26 < 100000 := by decide +kernel
theorem iL27 : (27 : Int32) = nI 27 ∧ 27 < 100000 := by decide +kernel
theorem iL28 : (28 : Int32) = nI 28 ∧ 28 < 100000 := by decide +kernel
theorem iL29 : (29 : Int32) = nI 29 ∧ 29 < 100000 := by decide +kernel
theorem iL30 : (30 : Int32) = nI 30 ∧ 30 < 100000 := by decide +kernel
theorem iL31 : (31 : Int32) = nI 31 ∧ 31 < 100000 := by decide +kernel
theorem iL32 : (32 : Int32) = nI 32 ∧ 32 < 100000 := by decide +kernel
theorem iL33 : (33 : Int32) = nI 33 ∧ 33 < 100000 := by decide +kernel
theorem iL34 : (34 : Int32) = nI 34 ∧ 34 < 100000 := by decide +kernel
theorem iL35 : (35 : Int32) = nI 35 ∧ 35 < 100000 := by decide +kernel
theorem iL36 : (36 : Int32) = nI 36 ∧ 36 < 100000 := by decide +kernel
theorem iL37 : (37 : Int32) = nI 37 ∧ 37 < 100000 := by decide +kernel
theorem iL38 : (38 : Int32) = nI 38 ∧ 38 < 100000 := by decide +kernel
theorem iL39 : (39 : Int32) = nI 39 ∧ 39 < 100000 := by decide +kernel
theorem iL40 : (40 : Int32) = nI 40 ∧ 40 < 100000 := by decide +kernel
theorem iL41 : (41 : Int32) = nI 41 ∧ 41 < 100000 := by decide +kernel
theorem iL42 : (42 : Int32) = nI 42 ∧ 42 < 100000 := by decide +kernel
theorem iL43 : (43 : Int32) = nI 43 ∧ 43 < 100000 := by decide +kernel
theorem iL44 : (44 : Int32) = nI 44 ∧ 44 < 100000 := by decide +kernel
theorem iL45 : (45 : Int32) = nI 45 ∧ 45 < 100000 := by decide +kernel
theorem iL46 : (46 : Int32) = nI 46 ∧ 46 < 100000 := by decide +kernel
theorem iL47 : (47 : Int32) = nI 47 ∧ 47 < 100000 := by decide +kernel
theorem iL48 : (48 : Int32) = nI 48 ∧ 48 < 100000 := by decide +kernel
theorem iL49 : (49 : Int32) = nI 49 ∧ 49 < 100000 := by decide +kernel
theorem iL50 : (50 : Int32) = nI 50 ∧ 50 < 100000 := by decide +kernel
theorem iL51 : (51 : Int32) = nI 51 ∧ 51 < 100000 := by decide +kernel
theorem iL52 : (52 : Int32) = nI 52 ∧ 52 < 100000 := by decide +kernel
theorem iL53 : (53 : Int32) = nI 53 ∧ 53 < 100000 := by decide +kernel
theorem iL54 : (54 : Int32) = nI 54 ∧ 54 < 100000 := by decide +kernel
theorem iL55 : (55 : Int32) = nI 55 ∧ 55 < 100000 := by decide +kernel
theorem iL56 : (56 : Int32) = nI 56 ∧ 56 < 100000 := by decide +kernel
theorem iL57 : (57 : Int32) = nI 57 ∧ 57 < 100000 := by decide +kernel
theorem iL58 : (58 : Int32) = nI 58 ∧ 58 < 100000 := by decide +kernel
theorem iL59 : (59 : Int32) = nI 59 ∧ 59 < 100000 := by decide +kernel
theorem iL60 : (60 : Int32) = nI 60 ∧ 60 < 100000 := by decide +kernel
theorem iL61 : (61 : Int32) = nI 61 ∧ 61 < 100000 := by decide +kernel
theorem iL62 : (62 : Int32) = nI 62 ∧ 62 < 100000 := by decide +kernel
theorem iL63 : (63 : Int32) = nI 63 ∧ 63 < 100000 := by decide +kernel
theorem iL64 : (64 : Int32) = nI 64 ∧ 64 < 100000 := by decide +kernel
theorem iL65 : (65 : Int32) = nI 65 ∧ 65 < 100000 := by decide +kernel
theorem iL66 : (66 : Int32) = nI 66 ∧ 66 < 100000 := by decide +kernel
theorem iL67 : (67 : Int32) = nI 67 ∧ 67 < 100000 := by decide +kernel
theorem iL68 : (68 : Int32) = nI 68 ∧ 68 < 100000 := by decide +kernel
theorem iL69 : (69 : Int32) = nI 69 ∧ 69 < 100000 := by decide +kernel
theorem iL70 : (70 : Int32) = nI 70 ∧ 70 < 100000 := by decide +kernel
theorem iL71 : (71 : Int32) = nI 71 ∧ 71 < 100000 := by decide +kernel
theorem iL72 : (72 : Int32) = nI 72 ∧ 72 < 100000 := by decide +kernel
theorem iL73 : (73 : Int32) = nI 73 ∧ 73 < 100000 := by decide +kernel
theorem iL74 : (74 : Int32) = nI 74 ∧ 74 < 100000 := by decide +kernel
theorem iL75 : (75 : Int32) = nI 75 ∧ 75 < 100000 := by decide +kernel
theorem iL76 : (76 : Int32) = nI 76 ∧ 76 < 100000 := by decide +kernel
theorem iL77 : (77 : Int32) = nI 77 ∧ 77 < 100000 := by decide +kernel
theorem iL78 : (78 : Int32) = nI 78 ∧ 78 < 100000 := by decide +kernel
theorem iL79 : (79 : Int32) = nI 79 ∧ 79 < 100000 := by decide +kernel
theorem iL80 : (80 : Int32) = nI 80 ∧ 80 < 100000 := by decide +kernel
theorem iL81 : (81 : Int32) = nI 81 ∧ 81 < 100000 := by decide +kernel
theorem iL82 : (82 : Int32) = nI 82 ∧ 82 < 100000 := by decide +kernel
theorem iL83 : (83 : Int32) = nI 83 ∧ 83 < 100000 := by decide +kernel
theorem iL84 : (84 : Int32) = nI 84 ∧ 84 < 100000 := by decide +kernel
theorem iL85 : (85 : Int32) = nI 85 ∧ 85 < 100000 := by decide +kernel
theorem iL86 : (86 : Int32) = nI 86 ∧ 86 < 100000 := by decide +kernel
theorem iL87 : (87 : Int32) = nI 87 ∧ 87 < 100000 := by decide +kernel
theorem iL88 : (88 : Int32) = nI 88 ∧ 88 < 100000 := by decide +kernel
theorem iL89 : (89 : Int32) = nI 89 ∧ 89 < 100000 := by decide +kernel
theorem iL90 : (90 : Int32) = nI 90 ∧ 90 < 100000 := by decide +kernel
theorem iL91 : (91 : Int32) = nI 91 ∧ 91 < 100000 := by decide +kernel
theorem iL92 : (92 : Int32) = nI 92 ∧ 92 < 100000 := by decide +kernel
theorem iL93 : (93 : Int32) = nI 93 ∧ 93 < 100000 := by decide +kernel
theorem iL94 : (94 : Int32) = nI 94 ∧ 94 < 100000 := by decide +kernel
theorem iL95 : (95 : Int32) = nI 95 ∧ 95 < 100000 := by decide +kernel
theorem iL96 : (96 : Int32) = nI 96 ∧ 96 < 100000 := by decide +kernel
theorem iL97 : (97 : Int32) = nI 97 ∧ 97 < 100000 := by decide +kernel
theorem iL98 : (98 : Int32) = nI 98 ∧ 98 < 100000 := by decide +kernel
theorem iL99 : (99 : Int32) = nI 99 ∧ 99 < 100000 := by decide +kernel
theorem iL100 : (100 : Int32) = nI 100 ∧ 100 < 100000 := by decide +kernel
theorem iL101 : (101 : Int32) = nI 101 ∧ 101 < 100000 := by decide +kernel
theorem iL102 : (102 : Int32) = nI 102 ∧ 102 < 100000 := by decide +kernel
theorem iL103 : (103 : Int32) = nI 103 ∧ 103 < 100000 := by decide +kernel
theorem iL104 : (104 : Int32) = nI 104 ∧ 104 < 100000 := by decide +kernel
theorem iL105 : (105 : Int32) = nI 105 ∧ 105 < 100000 := by decide +kernel
theorem iL106 : (106 : Int32) = nI 106 ∧ 106 < 100000 := by decide +kernel
theorem iL107 : (107 : Int32) = nI 107 ∧ 107 < 100000 := by decide +kernel
theorem iL108 : (108 : Int32) = nI 108 ∧ 108 < 100000 := by decide +kernel
theorem iL109 : (109 : Int32) = nI 109 ∧ 109 < 100000 := by decide +kernel
theorem iL110 : (110 : Int32) = nI 110 ∧ 110 < 100000 := by decide +kernel
theorem iL111 : (111 : Int32) = nI 111 ∧ 111 < 100000 := by decide +kernel
theorem iL112 : (112 : Int32) = nI 112 ∧ 112 < 100000 := by decide +kernel
theorem iL113 : (113 : Int32) = nI 113 ∧ 113 < 100000 := by decide +kernel
theorem iL114 : (114 : Int32) = nI 114 ∧ 114 < 100000 := by decide +kernel
theorem iL115 : (115 : Int32) = nI 115 ∧ 115 < 100000 := by decide +kernel
theorem iL116 : (116 : Int32) = nI 116 ∧ 116 < 100000 := by decide +kernel
theorem iL117 : (117 : Int32) = nI 117 ∧ 117 < 100000 := by decide +kernel
theorem iL118 : (118 : Int32) = nI 118 ∧ 118 < 100000 := by decide +kernel
theorem iL119 : (119 : Int32) = nI 119 ∧ 119 < 100000 := by decide +kernel
theorem iL120 : (120 : Int32) = nI 120 ∧ 120 < 100000 := by decide +kernel
theorem iL121 : (121 : Int32) = nI 121 ∧ 121 < 100000 := by decide +kernel
theorem iL122 : (122 : Int32) = nI 122 ∧ 122 < 100000 := by decide +kernel
theorem iL123 : (123 : Int32) = nI 123 ∧ 123 < 100000 := by decide +kernel
theorem iL124 : (124 : Int32) = nI 124 ∧ 124 < 100000 := by decide +kernel
theorem iL125 : (125 : Int32) = nI 125 ∧ 125 < 100000 := by decide +kernel
theorem iL126 : (126 : Int32) = nI 126 ∧ 126 < 100000 := by decide +kernel
theorem iL127 : (127 : Int32) = nI 127 ∧ 127 < 100000 := by decide +kernel
theorem iL128 : (128 : Int32) = nI 128 ∧ 128 < 100000 := by decide +kernel
theorem iL129 : (129 : Int32) = nI 129 ∧ 129 < 100000 := by decide +kernel
theorem iL130 : (130 : Int32) = nI 130 ∧ 130 < 100000 := by decide +kernel
theorem iL131 : (131 : Int32) = nI 131 ∧ 131 < 100000 := by decide +kernel
theorem iL132 : (132 : Int32) = nI 132 ∧ 132 < 100000 := by decide +kernel
theorem iL133 : (133 : Int32) = nI 133 ∧ 133 < 100000 := by decide +kernel
theorem iL134 : (134 : Int32) = nI 134 ∧ 134 < 100000 := by decide +kernel
theorem iL135 : (135 : Int32) = nI 135 ∧ 135 < 100000 := by decide +kernel
theorem iL136 : (136 : Int32) = nI 136 ∧ 136 < 100000 := by decide +kernel
theorem iL137 : (137 : Int32) = nI 137 ∧ 137 < 100000 := by decide +kernel
theorem iL138 : (138 : Int32) = nI 138 ∧ 138 < 100000 := by decide +kernel
theorem iL139 : (139 : Int32) = nI 139 ∧ 139 < 100000 := by decide +kernel
theorem iL140 : (140 : Int32) = nI 140 ∧ 140 < 100000 := by decide +kernel
theorem iL141 : (141 : Int32) = nI 141 ∧ 141 < 100000 := by decide +kernel
theorem iL142 : (142 : Int32) = nI 142 ∧ 142 < 100000 := by decide +kernel
theorem iL143 : (143 : Int32) = nI 143 ∧ 143 < 100000 := by decide +kernel
theorem iL144 : (144 : Int32) = nI 144 ∧ 144 < 100000 := by decide +kernel
theorem iL145 : (145 : Int32) = nI 145 ∧ 145 < 100000 := by decide +kernel
theorem iL146 : (146 : Int32) = nI 146 ∧ 146 < 100000 := by decide +kernel
theorem iL147 : (147 : Int32) = nI 147 ∧ 147 < 100000 := by decide +kernel
theorem iL148 : (148 : Int32) = nI 148 ∧ 148 < 100000 := by decide +kernel
theorem iL149 : (149 : Int32) = nI 149 ∧ 149 < 100000 := by decide +kernel
theorem iL150 : (150 : Int32) = nI 150 ∧ 150 < 100000 := by decide +kernel
theorem iL151 : (151 : Int32) = nI 151 ∧ 151 < 100000 := by decide +kernel
theorem iL152 : (152 : Int32) = nI 152 ∧ 152 < 100000 := by decide +kernel
theorem iL153 : (153 : Int32) = nI 153 ∧ 153 < 100000 := by decide +kernel
theorem iL174 : (174 : Int32) = nI 174 ∧ 174 < 100000 := by decide +kernel
theorem iL255 : (255 : Int32) = nI 255 ∧ 255 < 100000 := by decide +kernel
theorem iL256 : (256 : Int32) = nI 256 ∧ 256 < 100000 := by decide +kernel
theorem iL258 : (258 : Int32) = nI 258 ∧ 258 < 100000 := by decide +kernel
theorem iL259 : (259 : Int32) = nI 259 ∧ 259 < 100000 := by decide +kernel
theorem iL260 : (260 : Int32) = nI 260 ∧ 260 < 100000 := by decide +kernel
theorem iL261 : (261 : Int32) = nI 261 ∧ 261 < 100000 := by decide +kernel
theorem iL262 : (262 : Int32) = nI 262 ∧ 262 < 100000 := by decide +kernel
theorem iL263 : (263 : Int32) = nI 263 ∧ 263 < 100000 := by decide +kernel
theorem iL273 : (273 : Int32) = nI 273 ∧ 273 < 100000 := by decide +kernel
theorem iL274 : (274 : Int32) = nI 274 ∧ 274 < 100000 := by decide +kernel
theorem iL275 : (275 : Int32) = nI 275 ∧ 275 < 100000 := by decide +kernel
theorem iL276 : (276 : Int32) = nI 276 ∧ 276 < 100000 := by decide +kernel
theorem iL283 : (283 : Int32) = nI 283 ∧ 283 < 100000 := by decide +kernel
theorem iL284 : (284 : Int32) = nI 284 ∧ 284 < 100000 := by decide +kernel
theorem iL288 : (288 : Int32) = nI 288 ∧ 288 < 100000 := by decide +kernel
theorem iL380 : (380 : Int32) = nI 380 ∧ 380 < 100000 := by decide +kernel
theorem iL400 : (400 : Int32) = nI 400 ∧ 400 < 100000 := by decide +kernel
theorem iL401 : (401 : Int32) = nI 401 ∧ 401 < 100000 := by decide +kernel
theorem iL420 : (420 : Int32) = nI 420 ∧ 420 < 100000 := by decide +kernel
theorem iL500 : (500 : Int32) = nI 500 ∧ 500 < 100000 := by decide +kernel
theorem iL600 : (600 : Int32) = nI 600 ∧ 600 < 100000 := by decide +kernel
theorem iL800 : (800 : Int32) = nI 800 ∧ 800 < 100000 := by decide +kernel
theorem iL900 : (900 : Int32) = nI 900 ∧ 900 < 100000 := by decide +kernel
theorem iL999 : (999 : Int32) = nI 999 ∧ 999 < 100000 := by decide +kernel
theorem iL1000 : (1000 : Int32) = nI 1000 ∧ 1000 < 100000 := by decide +kernel
theorem iL1044 : (1044 : Int32) = nI 1044 ∧ 1044 < 100000 := by decide +kernel
theorem iL1200 : (1200 : Int32) = nI 1200 ∧ 1200 < 100000 := by decide +kernel
theorem iL2048 : (2048 : Int32) = nI 2048 ∧ 2048 < 100000 := by decide +kernel
theorem iL2300 : (2300 : Int32) = nI 2300 ∧ 2300 < 100000 := by decide +kernel
theorem iL4096 : (4096 : Int32) = nI 4096 ∧ 4096 < 100000 := by decide +kernel
theorem iL9999 : (9999 : Int32) = nI 9999 ∧ 9999 < 100000 := by decide +kernel
theorem iL10000 : (10000 : Int32) = nI 10000 ∧ 10000 < 100000 := by decide +kernel
theorem iL10025 : (10025 : Int32) = nI 10025 ∧ 10025 < 100000 := by decide +kernel
theorem iL20000 : (20000 : Int32) = nI 20000 ∧ 20000 < 100000 := by decide +kernel
theorem iL20001 : (20001 : Int32) = nI 20001 ∧ 20001 < 100000 := by decide +kernel
theorem iL20002 : (20002 : Int32) = nI 20002 ∧ 20002 < 100000 := by decide +kernel
theorem iL20003 : (20003 : Int32) = nI 20003 ∧ 20003 < 100000 := by decide +kernel
theorem iL20004 : (20004 : Int32) = nI 20004 ∧ 20004 < 100000 := by decide +kernel
theorem iL20005 : (20005 : Int32) = nI 20005 ∧ 20005 < 100000 := by decide +kernel
theorem iL20006 : (20006 : Int32) = nI 20006 ∧ 20006 < 100000 := by decide +kernel
theorem iL20007 : (20007 : Int32) = nI 20007 ∧ 20007 < 100000 := by decide +kernel
theorem iL20008 : (20008 : Int32) = nI 20008 ∧ 20008 < 100000 := by decide +kernel
theorem iL20009 : (20009 : Int32) = nI 20009 ∧ 20009 < 100000 := by decide +kernel
theorem iL20010 : (20010 : Int32) = nI 20010 ∧ 20010 < 100000 := by decide +kernel
theorem lWd1 : Wd 1 := by unfold Wd; decide
theorem lWd16 : Wd 16 := by unfold Wd; decide
theorem lWd33 : Wd 33 := by unfold Wd; decide
theorem lWd48 : Wd 48 := by unfold Wd; decide
theorem lWd63 : Wd 63 := by unfold Wd; decide
theorem lWd78 : Wd 78 := by unfold Wd; decide
theorem lWd93 : Wd 93 := by unfold Wd; decide
theorem lWd108 : Wd 108 := by unfold Wd; decide
theorem lWd179 : Wd 179 := by unfold Wd; decide
theorem nzWd {w : Nat} (h : Wd w) : w ≠ 0 := (show ∀ w ∈ [1, 16, 33, 48, 63, 78, 93, 108, 179], w ≠ 0 by decide) w h
theorem rWd1_1 {w : Nat} (h : Wd w) : rnRF (w + 1) 1 = some (w + 2) ∧ ¬ (w + 1 = 0 ∧ 1 = 8) := (show ∀ w ∈ [1, 16, 33, 48, 63, 78, 93, 108, 179], rnRF (w + 1) 1 = some (w + 2) ∧ ¬ (w + 1 = 0 ∧ 1 = 8) by decide +kernel) w h
theorem rWd1_2 {w : Nat} (h : Wd w) : rnRF (w + 1) 2 = some (w + 3) ∧ ¬ (w + 1 = 0 ∧ 2 = 8) := (show ∀ w ∈ [1, 16, 33, 48, 63, 78, 93, 108, 179], rnRF (w + 1) 2 = some (w + 3) ∧ ¬ (w + 1 = 0 ∧ 2 = 8) by decide +kernel) w h
theorem rWd1_3 {w : Nat} (h : Wd w) : rnRF (w + 1) 3 = some (w + 4) ∧ ¬ (w + 1 = 0 ∧ 3 = 8) := (show ∀ w ∈ [1, 16, 33, 48, 63, 78, 93, 108, 179], rnRF (w + 1) 3 = some (w + 4) ∧ ¬ (w + 1 = 0 ∧ 3 = 8) by decide +kernel) w h
theorem rWd1_4 {w : Nat} (h : Wd w) : rnRF (w + 1) 4 = some (w + 5) ∧ ¬ (w + 1 = 0 ∧ 4 = 8) := (show ∀ w ∈ [1, 16, 33, 48, 63, 78, 93, 108, 179], rnRF (w + 1) 4 = some (w + 5) ∧ ¬ (w + 1 = 0 ∧ 4 = 8) by decide +kernel) w h
theorem rWd1_5 {w : Nat} (h : Wd w) : rnRF (w + 1) 5 = some (w + 6) ∧ ¬ (w + 1 = 0 ∧ 5 = 8) := (show ∀ w ∈ [1, 16, 33, 48, 63, 78, 93, 108, 179], rnRF (w + 1) 5 = some (w + 6) ∧ ¬ (w + 1 = 0 ∧ 5 = 8) by decide +kernel) w h
theorem rWd7_2 {w : Nat} (h : Wd w) : rnRF (w + 7) 2 = some (w + 8) ∧ ¬ (w + 7 = 0 ∧ 2 = 8) := (show ∀ w ∈ [1, 16, 33, 48, 63, 78, 93, 108, 179], rnRF (w + 7) 2 = some (w + 8) ∧ ¬ (w + 7 = 0 ∧ 2 = 8) by decide +kernel) w h
theorem rWd7_3 {w : Nat} (h : Wd w) : rnRF (w + 7) 3 = some (w + 9) ∧ ¬ (w + 7 = 0 ∧ 3 = 8) := (show ∀ w ∈ [1, 16, 33, 48, 63, 78, 93, 108, 179], rnRF (w + 7) 3 = some (w + 9) ∧ ¬ (w + 7 = 0 ∧ 3 = 8) by decide +kernel) w h
theorem rWd7_4 {w : Nat} (h : Wd w) : rnRF (w + 7) 4 = some (w + 10) ∧ ¬ (w + 7 = 0 ∧ 4 = 8) := (show ∀ w ∈ [1, 16, 33, 48, 63, 78, 93, 108, 179], rnRF (w + 7) 4 = some (w + 10) ∧ ¬ (w + 7 = 0 ∧ 4 = 8) by decide +kernel) w h
theorem rWd7_5 {w : Nat} (h : Wd w) : rnRF (w + 7) 5 = some (w + 11) ∧ ¬ (w + 7 = 0 ∧ 5 = 8) := (show ∀ w ∈ [1, 16, 33, 48, 63, 78, 93, 108, 179], rnRF (w + 7) 5 = some (w + 11) ∧ ¬ (w + 7 = 0 ∧ 5 = 8) by decide +kernel) w h
theorem rWd7_6 {w : Nat} (h : Wd w) : rnRF (w + 7) 6 = some (w + 12) ∧ ¬ (w + 7 = 0 ∧ 6 = 8) := (show ∀ w ∈ [1, 16, 33, 48, 63, 78, 93, 108, 179], rnRF (w + 7) 6 = some (w + 12) ∧ ¬ (w + 7 = 0 ∧ 6 = 8) by decide +kernel) w h
theorem lBg8 : Bg 8 := by unfold Bg; decide
theorem lBg23 : Bg 23 := by unfold Bg; decide
theorem lBg40 : Bg 40 := by unfold Bg; decide
theorem lBg55 : Bg 55 := by unfold Bg; decide
theorem lBg70 : Bg 70 := by unfold Bg; decide
theorem lBg85 : Bg 85 := by unfold Bg; decide
theorem lBg100 : Bg 100 := by unfold Bg; decide
theorem lBg115 : Bg 115 := by unfold Bg; decide
theorem lBg186 : Bg 186 := by unfold Bg; decide
theorem nzBg {w : Nat} (h : Bg w) : w ≠ 0 := (show ∀ w ∈ [8, 23, 40, 55, 70, 85, 100, 115, 186], w ≠ 0 by decide) w h
theorem lDr2 : Dr 2 := by unfold Dr; decide
theorem lDr17 : Dr 17 := by unfold Dr; decide
theorem lDr34 : Dr 34 := by unfold Dr; decide
theorem lDr49 : Dr 49 := by unfold Dr; decide
theorem lDr64 : Dr 64 := by unfold Dr; decide
theorem lDr79 : Dr 79 := by unfold Dr; decide
theorem lDr94 : Dr 94 := by unfold Dr; decide
theorem lDr109 : Dr 109 := by unfold Dr; decide
theorem lDr180 : Dr 180 := by unfold Dr; decide
theorem nzDr {w : Nat} (h : Dr w) : w ≠ 0 := (show ∀ w ∈ [2, 17, 34, 49, 64, 79, 94, 109, 180], w ≠ 0 by decide) w h
theorem lTx123 : Tx 123 := by unfold Tx; decide
theorem lTx147 : Tx 147 := by unfold Tx; decide
theorem lTx194 : Tx 194 := by unfold Tx; decide
theorem nzTx {w : Nat} (h : Tx w) : w ≠ 0 := (show ∀ w ∈ [123, 147, 194], w ≠ 0 by decide) w h
theorem rTx1_2 {w : Nat} (h : Tx w) : rnRF (w + 1) 2 = some (w + 2) ∧ ¬ (w + 1 = 0 ∧ 2 = 8) := (show ∀ w ∈ [123, 147, 194], rnRF (w + 1) 2 = some (w + 2) ∧ ¬ (w + 1 = 0 ∧ 2 = 8) by decide +kernel) w h
theorem rTx1_3 {w : Nat} (h : Tx w) : rnRF (w + 1) 3 = some (w + 3) ∧ ¬ (w + 1 = 0 ∧ 3 = 8) := (show ∀ w ∈ [123, 147, 194], rnRF (w + 1) 3 = some (w + 3) ∧ ¬ (w + 1 = 0 ∧ 3 = 8) by decide +kernel) w h
theorem rTx1_4 {w : Nat} (h : Tx w) : rnRF (w + 1) 4 = some (w + 4) ∧ ¬ (w + 1 = 0 ∧ 4 = 8) := (show ∀ w ∈ [123, 147, 194], rnRF (w + 1) 4 = some (w + 4) ∧ ¬ (w + 1 = 0 ∧ 4 = 8) by decide +kernel) w h
theorem rTx1_5 {w : Nat} (h : Tx w) : rnRF (w + 1) 5 = some (w + 5) ∧ ¬ (w + 1 = 0 ∧ 5 = 8) := (show ∀ w ∈ [123, 147, 194], rnRF (w + 1) 5 = some (w + 5) ∧ ¬ (w + 1 = 0 ∧ 5 = 8) by decide +kernel) w h
theorem rTx1_6 {w : Nat} (h : Tx w) : rnRF (w + 1) 6 = some (w + 6) ∧ ¬ (w + 1 = 0 ∧ 6 = 8) := (show ∀ w ∈ [123, 147, 194], rnRF (w + 1) 6 = some (w + 6) ∧ ¬ (w + 1 = 0 ∧ 6 = 8) by decide +kernel) w h
theorem rTx1_7 {w : Nat} (h : Tx w) : rnRF (w + 1) 7 = some (w + 7) ∧ ¬ (w + 1 = 0 ∧ 7 = 8) := (show ∀ w ∈ [123, 147, 194], rnRF (w + 1) 7 = some (w + 7) ∧ ¬ (w + 1 = 0 ∧ 7 = 8) by decide +kernel) w h
theorem rTx1_8 {w : Nat} (h : Tx w) : rnRF (w + 1) 8 = some (w + 8) ∧ ¬ (w + 1 = 0 ∧ 8 = 8) := (show ∀ w ∈ [123, 147, 194], rnRF (w + 1) 8 = some (w + 8) ∧ ¬ (w + 1 = 0 ∧ 8 = 8) by decide +kernel) w h
theorem lLw124 : Lw 124 := by unfold Lw; decide
theorem lLw148 : Lw 148 := by unfold Lw; decide
theorem lLw195 : Lw 195 := by unfold Lw; decide
theorem nzLw {w : Nat} (h : Lw w) : w ≠ 0 := (show ∀ w ∈ [124, 148, 195], w ≠ 0 by decide) w h
theorem lTd138 : Td 138 := by unfold Td; decide
theorem lTd209 : Td 209 := by unfold Td; decide
theorem nzTd {w : Nat} (h : Td w) : w ≠ 0 := (show ∀ w ∈ [138, 209], w ≠ 0 by decide) w h
theorem acN : Cond.native arraycopyName ∈ lw_tbl := rnIn3 (List.mem_of_getElem? (i := 73) rfl)
theorem acS : Cond.static arraycopyName ∈ lw_tbl := rnIn3 (List.mem_of_getElem? (i := 72) rfl)
theorem acI : Cond.initialized "java/lang/System" ∈ lw_tbl := rnIn1 (List.mem_of_getElem? (i := 14) rfl)
theorem maI : Cond.initialized "java/lang/Math" ∈ lw_tbl := rnIn1 (List.mem_of_getElem? (i := 15) rfl)
theorem maxS : Cond.static Lib.Math.max.name ∈ lw_tbl := rnIn3 (List.mem_of_getElem? (i := 132) rfl)
theorem maxC : Cond.code Lib.Math.max.name Lib.Math.max.code 2 (some .int) ∈ lw_tbl := rnIn3 (List.mem_of_getElem? (i := 133) rfl)
theorem minS : Cond.static Lib.Math.min.name ∈ lw_tbl := rnIn3 (List.mem_of_getElem? (i := 81) rfl)
theorem minC : Cond.code Lib.Math.min.name Lib.Math.min.code 2 (some .int) ∈ lw_tbl := rnIn3 (List.mem_of_getElem? (i := 82) rfl)
theorem obI : Cond.instanceMethod Lib.objectInit ∈ lw_tbl := rnIn1 (List.mem_of_getElem? (i := 29) rfl)
theorem obC : Cond.code Lib.objectInit ⟨#[0xb1]⟩ 1 none ∈ lw_tbl := rnIn1 (List.mem_of_getElem? (i := 30) rfl)
theorem ar_int : Cond.arrayClass .int ∈ lw_tbl := rnIn1 (List.mem_of_getElem? (i := 73) rfl)
theorem ar_byte : Cond.arrayClass .byte ∈ lw_tbl := rnIn3 (List.mem_of_getElem? (i := 13) rfl)
theorem ar_long : Cond.arrayClass .long ∈ lw_tbl := rnIn2 (List.mem_of_getElem? (i := 190) rfl)
theorem lo11_5 : Cond.methodLink (rnOwn 11) 5 Lib.objectInit ∈ lw_tbl := rnIn1 (List.mem_of_getElem? (i := 28) rfl)
theorem lm11_352 : Cond.methodLink (rnOwn 11) 352 Lib.Math.min.name ∈ lw_tbl := rnIn3 (List.mem_of_getElem? (i := 130) rfl)
theorem lm11_357 : Cond.methodLink (rnOwn 11) 357 Lib.Math.max.name ∈ lw_tbl := rnIn3 (List.mem_of_getElem? (i := 131) rfl)
theorem lo0_3 : Cond.methodLink (rnOwn 0) 3 Lib.objectInit ∈ lw_tbl := rnIn1 (List.mem_of_getElem? (i := 79) rfl)
theorem lc0_34 : Cond.methodLink (rnOwn 0) 34 arraycopyName ∈ lw_tbl := rnIn3 (List.mem_of_getElem? (i := 78) rfl)
theorem lo1_3 : Cond.methodLink (rnOwn 1) 3 Lib.objectInit ∈ lw_tbl := rnIn1 (List.mem_of_getElem? (i := 42) rfl)
theorem lc1_31 : Cond.methodLink (rnOwn 1) 31 arraycopyName ∈ lw_tbl := rnIn3 (List.mem_of_getElem? (i := 71) rfl)
theorem lo2_5 : Cond.methodLink (rnOwn 2) 5 Lib.objectInit ∈ lw_tbl := rnIn1 (List.mem_of_getElem? (i := 205) rfl)
theorem lc2_52 : Cond.methodLink (rnOwn 2) 52 arraycopyName ∈ lw_tbl := rnIn4 (List.mem_of_getElem? (i := 213) rfl)
theorem lo3_3 : Cond.methodLink (rnOwn 3) 3 Lib.objectInit ∈ lw_tbl := rnIn2 (List.mem_of_getElem? (i := 176) rfl)
theorem lm3_34 : Cond.methodLink (rnOwn 3) 34 Lib.Math.min.name ∈ lw_tbl := rnIn5 (List.mem_of_getElem? (i := 68) rfl)
theorem lm3_57 : Cond.methodLink (rnOwn 3) 57 Lib.Math.max.name ∈ lw_tbl := rnIn5 (List.mem_of_getElem? (i := 111) rfl)
theorem lo4_1 : Cond.methodLink (rnOwn 4) 1 Lib.objectInit ∈ lw_tbl := rnIn1 (List.mem_of_getElem? (i := 179) rfl)
theorem lm4_29 : Cond.methodLink (rnOwn 4) 29 Lib.Math.min.name ∈ lw_tbl := rnIn3 (List.mem_of_getElem? (i := 83) rfl)
theorem lo5_3 : Cond.methodLink (rnOwn 5) 3 Lib.objectInit ∈ lw_tbl := rnIn2 (List.mem_of_getElem? (i := 111) rfl)
theorem lo6_3 : Cond.methodLink (rnOwn 6) 3 Lib.objectInit ∈ lw_tbl := rnIn1 (List.mem_of_getElem? (i := 199) rfl)
theorem lc6_67 : Cond.methodLink (rnOwn 6) 67 arraycopyName ∈ lw_tbl := rnIn4 (List.mem_of_getElem? (i := 214) rfl)
theorem lo7_5 : Cond.methodLink (rnOwn 7) 5 Lib.objectInit ∈ lw_tbl := rnIn2 (List.mem_of_getElem? (i := 119) rfl)
theorem lo8_3 : Cond.methodLink (rnOwn 8) 3 Lib.objectInit ∈ lw_tbl := rnIn2 (List.mem_of_getElem? (i := 56) rfl)
theorem lc8_63 : Cond.methodLink (rnOwn 8) 63 arraycopyName ∈ lw_tbl := rnIn6 (List.mem_of_getElem? (i := 12) rfl)
theorem lo9_5 : Cond.methodLink (rnOwn 9) 5 Lib.objectInit ∈ lw_tbl := rnIn2 (List.mem_of_getElem? (i := 196) rfl)
theorem lm9_72 : Cond.methodLink (rnOwn 9) 72 Lib.Math.min.name ∈ lw_tbl := rnIn5 (List.mem_of_getElem? (i := 32) rfl)
theorem lm9_77 : Cond.methodLink (rnOwn 9) 77 Lib.Math.max.name ∈ lw_tbl := rnIn5 (List.mem_of_getElem? (i := 179) rfl)
theorem lo10_3 : Cond.methodLink (rnOwn 10) 3 Lib.objectInit ∈ lw_tbl := rnIn1 (List.mem_of_getElem? (i := 36) rfl)
theorem lm10_72 : Cond.methodLink (rnOwn 10) 72 Lib.Math.min.name ∈ lw_tbl := rnIn3 (List.mem_of_getElem? (i := 80) rfl)
theorem lc10_160 : Cond.methodLink (rnOwn 10) 160 arraycopyName ∈ lw_tbl := rnIn3 (List.mem_of_getElem? (i := 79) rfl)
theorem lm10_207 : Cond.methodLink (rnOwn 10) 207 Lib.Math.max.name ∈ lw_tbl := rnIn3 (List.mem_of_getElem? (i := 151) rfl)
theorem lo12_1 : Cond.methodLink (rnOwn 12) 1 Lib.objectInit ∈ lw_tbl := rnIn6 (List.mem_of_getElem? (i := 22) rfl)
theorem lm15_38 : Cond.methodLink (rnOwn 15) 38 Lib.Math.min.name ∈ lw_tbl := rnIn4 (List.mem_of_getElem? (i := 12) rfl)
theorem lm15_92 : Cond.methodLink (rnOwn 15) 92 Lib.Math.max.name ∈ lw_tbl := rnIn4 (List.mem_of_getElem? (i := 11) rfl)
theorem lf3_102 : Cond.fieldLink (rnOwn 3) 102 "KindPostman$Mind" "KINDS_OF_CHANGE" "[I" ∈ lw_tbl := rnIn5 (List.mem_of_getElem? (i := 208) rfl)
theorem lf10_204 : Cond.fieldLinkNest (rnOwn 10) 204 "KindPostman" "SMILES" "[I" "KindPostman" ∈ lw_tbl := rnIn3 (List.mem_of_getElem? (i := 148) rfl)
theorem lf14_9 : Cond.fieldLink (rnOwn 14) 9 "java/lang/String" "value" "[B" ∈ lw_tbl := rnIn9 (List.mem_of_getElem? (i := 14) rfl)
theorem lf14_15 : Cond.fieldLink (rnOwn 14) 15 "java/lang/String" "coder" "B" ∈ lw_tbl := rnIn9 (List.mem_of_getElem? (i := 13) rfl)
theorem lf14_38 : Cond.fieldLink (rnOwn 14) 38 "java/lang/String" "COMPACT_STRINGS" "Z" ∈ lw_tbl := rnIn3 (List.mem_of_getElem? (i := 235) rfl)
theorem lf14_1053 : Cond.fieldLink (rnOwn 14) 1053 "jdk/internal/util/Preconditions" "SIOOBE_FORMATTER" "Ljava/util/function/BiFunction;" ∈ lw_tbl := rnIn4 (List.mem_of_getElem? (i := 34) rfl)
end RnS
