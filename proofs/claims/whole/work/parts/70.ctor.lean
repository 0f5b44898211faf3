section RnCtor
variable {P : Px} {d : Nat} {K : Kx} {pc e : Nat} {ops : List (Nat × Instr × Nat)} {lv : List (Nat × Value)} {st : List Value} {r : Option Value × Sg} {a b i j n N ci x : Nat}
/-- the ints and the references that the two constructors write, in their order -/
def cMW : List ((Nat × Nat) × Int32) := [((1, 5), 99), ((1, 13), 0), ((16, 5), 99), ((16, 13), 1), ((33, 5), 99), ((33, 13), 0), ((48, 5), 99), ((48, 13), 0), ((63, 5), 99), ((63, 13), 0), ((78, 5), 99), ((78, 13), 0), ((93, 5), 99), ((93, 13), 0), ((108, 5), 99), ((108, 13), 0), ((146, 2), (-1)), ((179, 5), 99), ((179, 13), 0), ((224, 0), 32), ((224, 1), 111), ((224, 2), 112), ((224, 3), 101), ((224, 4), 110), ((224, 5), 115), ((224, 6), 32), ((224, 7), 103), ((224, 8), 105), ((224, 9), 118), ((224, 10), 101), ((224, 11), 115), ((224, 12), 32), ((224, 13), 116), ((224, 14), 105), ((224, 15), 114), ((224, 16), 101), ((224, 17), 115), ((224, 18), 32), ((224, 19), 119), ((224, 20), 104), ((224, 21), 101), ((224, 22), 110), ((224, 23), 32), ((224, 24), 111), ((224, 25), 114), ((224, 26), 32), ((224, 27), 97), ((224, 28), 110), ((224, 29), 100), ((224, 30), 32), ((224, 31), 110), ((224, 32), 111), ((224, 33), 116), ((224, 34), 32), ((224, 35), 107), ((224, 36), 105), ((224, 37), 110), ((224, 38), 100), ((224, 39), 32), ((224, 40), 109), ((224, 41), 117), ((224, 42), 99), ((224, 43), 104), ((224, 44), 32), ((224, 45), 97), ((224, 46), 103), ((224, 47), 101), ((224, 48), 32), ((224, 49), 102), ((224, 50), 97), ((224, 51), 99), ((224, 52), 101), ((224, 53), 32), ((224, 54), 108), ((224, 55), 111), ((224, 56), 118), ((224, 57), 101), ((224, 58), 32), ((224, 59), 112), ((224, 60), 117), ((224, 61), 114), ((224, 62), 115), ((224, 63), 101), ((224, 64), 32), ((224, 65), 104), ((224, 66), 101), ((224, 67), 97), ((224, 68), 108), ((224, 69), 116), ((224, 70), 104), ((224, 71), 32), ((224, 72), 104), ((224, 73), 117), ((224, 74), 110), ((224, 75), 103), ((224, 76), 101), ((224, 77), 114), ((224, 78), 32), ((224, 79), 104), ((224, 80), 111), ((224, 81), 117), ((224, 82), 114), ((224, 83), 32), ((224, 84), 114), ((224, 85), 97), ((224, 86), 105), ((224, 87), 110), ((224, 88), 32), ((224, 89), 100), ((224, 90), 97), ((224, 91), 121), ((224, 92), 32), ((224, 93), 111), ((224, 94), 110), ((224, 95), 32), ((224, 96), 116), ((224, 97), 111), ((224, 98), 32), ((224, 99), 119), ((224, 100), 97), ((224, 101), 108), ((224, 102), 107), ((224, 103), 32), ((224, 104), 115), ((224, 105), 116), ((224, 106), 114), ((224, 107), 101), ((224, 108), 101), ((224, 109), 116), ((224, 110), 32), ((224, 111), 110), ((224, 112), 101), ((224, 113), 119), ((224, 114), 115), ((224, 115), 32), ((224, 116), 98), ((224, 117), 105), ((224, 118), 108), ((224, 119), 108), ((224, 120), 32), ((224, 121), 107), ((224, 122), 105), ((224, 123), 115), ((224, 124), 115), ((224, 125), 32), ((224, 126), 97), ((224, 127), 110), ((224, 128), 103), ((224, 129), 101), ((224, 130), 114), ((224, 131), 32), ((224, 132), 105), ((224, 133), 110), ((224, 134), 118), ((224, 135), 105), ((224, 136), 116), ((224, 137), 97), ((224, 138), 116), ((224, 139), 105), ((224, 140), 111), ((224, 141), 110), ((224, 142), 32), ((224, 143), 116), ((224, 144), 101), ((224, 145), 120), ((224, 146), 116), ((224, 147), 32), ((224, 148), 106), ((224, 149), 111), ((224, 150), 107), ((224, 151), 101), ((224, 152), 32), ((217, 31), (-1))]
def cRW : List ((Nat × Nat) × Nat) := [((2, 1), 3), ((2, 2), 4), ((2, 3), 5), ((2, 4), 6), ((2, 5), 7), ((1, 0), 2), ((8, 2), 9), ((8, 3), 10), ((8, 4), 11), ((8, 5), 12), ((8, 6), 13), ((1, 1), 8), ((1, 2), 14), ((1, 3), 15), ((0, 0), 1), ((17, 1), 18), ((17, 2), 19), ((17, 3), 20), ((17, 4), 21), ((17, 5), 22), ((16, 0), 17), ((23, 2), 24), ((23, 3), 25), ((23, 4), 26), ((23, 5), 27), ((23, 6), 28), ((16, 1), 23), ((16, 2), 29), ((16, 3), 30), ((0, 1), 16), ((31, 2), 32), ((34, 1), 35), ((34, 2), 36), ((34, 3), 37), ((34, 4), 38), ((34, 5), 39), ((33, 0), 34), ((40, 2), 41), ((40, 3), 42), ((40, 4), 43), ((40, 5), 44), ((40, 6), 45), ((33, 1), 40), ((33, 2), 46), ((33, 3), 47), ((32, 0), 33), ((49, 1), 50), ((49, 2), 51), ((49, 3), 52), ((49, 4), 53), ((49, 5), 54), ((48, 0), 49), ((55, 2), 56), ((55, 3), 57), ((55, 4), 58), ((55, 5), 59), ((55, 6), 60), ((48, 1), 55), ((48, 2), 61), ((48, 3), 62), ((32, 1), 48), ((64, 1), 65), ((64, 2), 66), ((64, 3), 67), ((64, 4), 68), ((64, 5), 69), ((63, 0), 64), ((70, 2), 71), ((70, 3), 72), ((70, 4), 73), ((70, 5), 74), ((70, 6), 75), ((63, 1), 70), ((63, 2), 76), ((63, 3), 77), ((32, 2), 63), ((79, 1), 80), ((79, 2), 81), ((79, 3), 82), ((79, 4), 83), ((79, 5), 84), ((78, 0), 79), ((85, 2), 86), ((85, 3), 87), ((85, 4), 88), ((85, 5), 89), ((85, 6), 90), ((78, 1), 85), ((78, 2), 91), ((78, 3), 92), ((32, 3), 78), ((94, 1), 95), ((94, 2), 96), ((94, 3), 97), ((94, 4), 98), ((94, 5), 99), ((93, 0), 94), ((100, 2), 101), ((100, 3), 102), ((100, 4), 103), ((100, 5), 104), ((100, 6), 105), ((93, 1), 100), ((93, 2), 106), ((93, 3), 107), ((32, 4), 93), ((109, 1), 110), ((109, 2), 111), ((109, 3), 112), ((109, 4), 113), ((109, 5), 114), ((108, 0), 109), ((115, 2), 116), ((115, 3), 117), ((115, 4), 118), ((115, 5), 119), ((115, 6), 120), ((108, 1), 115), ((108, 2), 121), ((108, 3), 122), ((32, 5), 108), ((0, 2), 31), ((124, 2), 125), ((124, 3), 126), ((124, 4), 127), ((124, 5), 128), ((124, 6), 129), ((124, 7), 130), ((124, 8), 131), ((123, 0), 124), ((123, 2), 132), ((123, 3), 133), ((123, 4), 134), ((123, 5), 135), ((123, 7), 136), ((123, 9), 137), ((0, 3), 123), ((138, 1), 139), ((138, 3), 140), ((138, 4), 141), ((138, 6), 142), ((138, 8), 143), ((138, 10), 144), ((138, 11), 145), ((0, 4), 138), ((148, 2), 149), ((148, 3), 150), ((148, 4), 151), ((148, 5), 152), ((148, 6), 153), ((148, 7), 154), ((148, 8), 155), ((147, 0), 148), ((147, 2), 156), ((147, 3), 157), ((147, 4), 158), ((147, 5), 159), ((147, 7), 160), ((147, 9), 161), ((146, 0), 147), ((162, 1), 163), ((162, 2), 164), ((162, 3), 165), ((162, 4), 166), ((146, 3), 162), ((146, 6), 167), ((0, 5), 146), ((168, 0), 169), ((168, 1), 170), ((168, 2), 171), ((168, 3), 172), ((0, 6), 168), ((173, 0), 174), ((173, 1), 175), ((173, 2), 176), ((0, 7), 173), ((0, 8), 177), ((0, 9), 178), ((180, 1), 181), ((180, 2), 182), ((180, 3), 183), ((180, 4), 184), ((180, 5), 185), ((179, 0), 180), ((186, 2), 187), ((186, 3), 188), ((186, 4), 189), ((186, 5), 190), ((186, 6), 191), ((179, 1), 186), ((179, 2), 192), ((179, 3), 193), ((0, 11), 179), ((195, 2), 196), ((195, 3), 197), ((195, 4), 198), ((195, 5), 199), ((195, 6), 200), ((195, 7), 201), ((195, 8), 202), ((194, 0), 195), ((194, 2), 203), ((194, 3), 204), ((194, 4), 205), ((194, 5), 206), ((194, 7), 207), ((194, 9), 208), ((0, 12), 194), ((209, 1), 210), ((209, 3), 211), ((209, 4), 212), ((209, 6), 213), ((209, 8), 214), ((209, 10), 215), ((209, 11), 216), ((0, 13), 209), ((217, 1), 218), ((217, 2), 219), ((217, 4), 220), ((217, 7), 221), ((217, 8), 222), ((217, 9), 223), ((217, 15), 224), ((217, 16), 225), ((217, 17), 226), ((217, 18), 227), ((217, 19), 228), ((217, 20), 229), ((217, 21), 230), ((217, 22), 231), ((217, 26), 232), ((217, 33), 233), ((217, 35), 234), ((217, 37), 235), ((217, 38), 236), ((217, 39), 237), ((217, 41), 238), ((217, 43), 239), ((217, 44), 240), ((217, 46), 241), ((217, 47), 242), ((217, 48), 243), ((217, 50), 244), ((217, 51), 245), ((217, 52), 246), ((217, 54), 247), ((217, 56), 248), ((217, 58), 249), ((217, 59), 250), ((217, 63), 251)]
def cM (i : Nat) : Mm := fun a k => (((cMW.take i).reverse).lookup (a, k)).getD 0
def cR (j : Nat) : Nat → Nat → Option Nat := fun a k => ((cRW.take j).reverse).lookup (a, k)
abbrev T (i j n : Nat) : Sg := (cM i, cR j, n)
theorem cM_put {k : Nat} {v : Int32} (h : cMW[i]? = some ((a, k), v)) : mput (cM i) a k v = cM (i + 1) := by
  funext c q
  have e : (cMW.take (i + 1)).reverse = ((a, k), v) :: (cMW.take i).reverse := by
    rw [List.take_add_one, h]; simp
  unfold mput cM
  rw [e, List.lookup_cons]
  by_cases hc : c = a ∧ q = k
  · obtain ⟨rfl, rfl⟩ := hc; simp
  · have : ((c, q) == (a, k)) = false := by
      rw [beq_eq_false_iff_ne]; intro h2; exact hc (by cases h2; exact ⟨rfl, rfl⟩)
    rw [if_neg hc, this]
theorem cR_put {k : Nat} (h : cRW[j]? = some ((a, k), b)) : rput (cR j) a k b = cR (j + 1) := by
  funext c q
  have e : (cRW.take (j + 1)).reverse = ((a, k), b) :: (cRW.take j).reverse := by
    rw [List.take_add_one, h]; simp
  unfold rput cR
  rw [e, List.lookup_cons]
  by_cases hc : c = a ∧ q = k
  · obtain ⟨rfl, rfl⟩ := hc; simp
  · have : ((c, q) == (a, k)) = false := by
      rw [beq_eq_false_iff_ne]; intro h2; exact hc (by cases h2; exact ⟨rfl, rfl⟩)
    rw [if_neg hc, this]
theorem ct_none {β : Type} {n k : Nat} : ∀ (l : List ((Nat × Nat) × β)), l.all (fun q => q.1.1 != n) = true → l.lookup (n, k) = none
  | [], _ => rfl
  | q :: l, h => by
    rw [List.all_cons, Bool.and_eq_true] at h
    obtain ⟨⟨a, c⟩, v⟩ := q
    rw [List.lookup_cons]
    have h1 : a ≠ n := by simpa using h.1
    have : ((n, k) == (a, c)) = false := by
      rw [beq_eq_false_iff_ne]; intro h2; cases h2; exact h1 rfl
    rw [this]
    exact ct_none l h.2
def tz (i j n : Nat) : Bool := ((cMW.take i).reverse).all (fun q => q.1.1 != n) && ((cRW.take j).reverse).all (fun q => q.1.1 != n)
theorem alc_T (h : tz i j n = true) : alc (T i j n) = T i j (n + 1) := by
  unfold tz at h
  rw [Bool.and_eq_true] at h
  have h1 : (fun b => if b = n then (fun _ => 0) else cM i b) = cM i := by
    funext b
    by_cases e : b = n
    · rw [if_pos e, e]; funext k; unfold cM; rw [ct_none _ h.1]; rfl
    · rw [if_neg e]
  have h2 : (fun b => if b = n then (fun _ => none) else cR j b) = cR j := by
    funext b
    by_cases e : b = n
    · rw [if_pos e, e]; funext k; unfold cR; rw [ct_none _ h.2]
    · rw [if_neg e]
  show (((fun b => if b = n then (fun _ => 0) else cM i b), (fun b => if b = n then (fun _ => none) else cR j b), n + 1) : Sg) = _
  rw [h1, h2]
theorem ctO1 : Cond.instanceMethod Lib.objectInit ∈ lw_tbl := rnIn1 (List.mem_of_getElem? (i := 29) rfl)
theorem ctO2 : Cond.code Lib.objectInit ⟨#[0xb1]⟩ 1 none ∈ lw_tbl := rnIn1 (List.mem_of_getElem? (i := 30) rfl)
theorem ct_new (m : Nat) (hm : n + 1 = m) (hf : rnNw (kOc K) x = some ci) (hs : rnSh n = (ci, N)) (hd : (decide (ci < 13) && rnAll ci N && decide ((rnCl[ci]?).map (fun q => q.2.2) = some N)) = true) (hn : n < 253) (hz : tz i j n = true) (kk : SB P d K ops e lv (.ref n :: st) (T i j m) r) : SB P d K ((pc, .new x, 3) :: ops) e lv st (T i j n) r := by
  subst hm
  exact sb_new (σ := T i j n) hf hs hd hn (by rw [alc_T hz]; exact kk)
theorem ct_newI {y : Int32} (m : Nat) (hm : n + 1 = m) (hs : rnSh n = (20, N)) (hx : y = nI N) (hd : N < 100000) (hn : n < 253) (ht : Cond.arrayClass .int ∈ lw_tbl) (hz : tz i j n = true) (kk : SB P d K ops e lv (.ref n :: st) (T i j m) r) : SB P d K ((pc, .newarray .int, 2) :: ops) e lv (.int y :: st) (T i j n) r := by
  subst hm
  exact sb_newI (σ := T i j n) hs hx hd hn ht (by rw [alc_T hz]; exact kk)
theorem ct_newB {y : Int32} (m : Nat) (hm : n + 1 = m) (hs : rnSh n = (21, N)) (hx : y = nI N) (hd : N < 100000) (hn : n < 253) (ht : Cond.arrayClass .byte ∈ lw_tbl) (hz : tz i j n = true) (kk : SB P d K ops e lv (.ref n :: st) (T i j m) r) : SB P d K ((pc, .newarray .byte, 2) :: ops) e lv (.int y :: st) (T i j n) r := by
  subst hm
  exact sb_newB (σ := T i j n) hs hx hd hn ht (by rw [alc_T hz]; exact kk)
theorem ct_newL {y : Int32} (m : Nat) (hm : n + 1 = m) (hs : rnSh n = (22, N)) (hx : y = nI N) (hd : N < 100000) (hn : n < 253) (ht : Cond.arrayClass .long ∈ lw_tbl) (hz : tz i j n = true) (kk : SB P d K ops e lv (.ref n :: st) (T i j m) r) : SB P d K ((pc, .newarray .long, 2) :: ops) e lv (.int y :: st) (T i j n) r := by
  subst hm
  exact sb_newL (σ := T i j n) hs hx hd hn ht (by rw [alc_T hz]; exact kk)
theorem ct_newW {y : Int32} (m : Nat) (hm : n + 1 = m) (hs : rnSh n = (23, N)) (hx : y = nI N) (hd : N < 100000) (hn : n < 253) (hf : rnNw (kOc K) x = some 10) (hz : tz i j n = true) (kk : SB P d K ops e lv (.ref n :: st) (T i j m) r) : SB P d K ((pc, .anewarray x, 3) :: ops) e lv (.int y :: st) (T i j n) r := by
  subst hm
  exact sb_newW (σ := T i j n) hs hx hd hn hf (by rw [alc_T hz]; exact kk)
theorem ct_putI {v : Int32} (m k : Nat) (hm : i + 1 = m) (hw : cMW[i]? = some ((a, k), v)) (hf : rnF (kOc K) x = some (ci, k)) (hs : rnSh a = (ci, N)) (ha : a < n) (hv : v = 0 ∨ v = 1 ∨ rnKd ci k = 0) (hd : (decide (ci < 20) && decide (k < N) && decide (rnKd ci k < 2) && rnDcl (kOc K) ci k && decide ((kNm K).name = "<init>")) = true) (kk : SB P d K ops e lv st (T m j n) r) : SB P d K ((pc, .putfield x, 3) :: ops) e lv (.int v :: .ref a :: st) (T i j n) r := by
  subst hm
  exact sb_putIC (σ := T i j n) hf hs ha hv hd (by show SB P d K ops e lv st (mput (cM i) a k v, (cR j, n)) r; rw [cM_put hw]; exact kk)
theorem ct_putR (m k : Nat) (hm : j + 1 = m) (hw : cRW[j]? = some ((a, k), b)) (hf : rnF (kOc K) x = some (ci, k)) (hs : rnSh a = (ci, N)) (ha : a < n) (hd : (decide (ci < 20) && decide (k < N) && decide (¬ rnKd ci k < 2) && rnRef (rnTy ci k) && (!(rnFin ci k) || (rnDcl (kOc K) ci k && decide ((kNm K).name = "<init>")))) = true) (kk : SB P d K ops e lv st (T i m n) r) : SB P d K ((pc, .putfield x, 3) :: ops) e lv (.ref b :: .ref a :: st) (T i j n) r := by
  subst hm
  exact sb_putR (σ := T i j n) hf hs ha hd (by show SB P d K ops e lv st (cM i, rput (cR j) a k b, n) r; rw [cR_put hw]; exact kk)
theorem ct_iast {y v : Int32} (m k : Nat) (hm : i + 1 = m) (hk : y.toNatClampNeg = k) (hw : cMW[i]? = some ((a, k), v)) (hs : rnSh a = (20, N)) (ha : a < n) (hx : inb y N) (kk : SB P d K ops e lv st (T m j n) r) : SB P d K ((pc, .iastore, 1) :: ops) e lv (.int v :: .int y :: .ref a :: st) (T i j n) r := by
  subst hm hk
  exact sb_iast (σ := T i j n) hs ha hx (by show SB P d K ops e lv st (mput (cM i) a _ v, (cR j, n)) r; rw [cM_put hw]; exact kk)
theorem ct_aast {y : Int32} {N2 : Nat} (m k : Nat) (hm : j + 1 = m) (hk : y.toNatClampNeg = k) (hw : cRW[j]? = some ((a, k), b)) (hs : rnSh a = (23, N)) (ha : a < n) (hb : rnSh b = (10, N2)) (hb2 : b < n) (hx : inb y N) (kk : SB P d K ops e lv st (T i m n) r) : SB P d K ((pc, .aastore, 1) :: ops) e lv (.ref b :: .int y :: .ref a :: st) (T i j n) r := by
  subst hm hk
  exact sb_aast (σ := T i j n) hs ha hb hb2 hx (by show SB P d K ops e lv st (cM i, rput (cR j) a _ b, n) r; rw [cR_put hw]; exact kk)
theorem ct_iinc {j : Nat} {z : Int} {y : Int32} {σ : Sg} (v : Int32) (hx : lvG lv j = some (.int y)) (hj : j < kML K) (hu : (lvU lv && lvF lv j) = true) (hv : y + Int32.ofInt z = v) (k : SB P d K ops e (lvS lv j (.int v)) st σ r) : SB P d K ((pc, .iinc j z, 3) :: ops) e lv st σ r := sb_iinc hx hj hu (by rw [hv]; exact k)
set_option maxRecDepth 20000 in
theorem cX1_init_2 {P : Px} : EX P 1 kX1_init [.ref 2] (T 0 0 3) (none, T 0 5 8) := by
  refine ex_of oX1_init (Nat.le_of_ble_eq_true rfl) ?_
  show RN P 1 kX1_init 0 [(0, .ref 2)] [] (T 0 0 3) (none, T 0 5 8)
  refine sb_in [(0, .aload_n 0, 1), (1, .invokespecial 3, 3), (4, .aload_n 0, 1), (5, .bipush 12, 2), (7, .newarray .int, 2), (9, .putfield 9, 3), (12, .aload_n 0, 1), (13, .bipush 12, 2), (15, .newarray .int, 2), (17, .putfield 15, 3), (20, .aload_n 0, 1), (21, .bipush 12, 2), (23, .newarray .int, 2), (25, .putfield 18, 3), (28, .aload_n 0, 1), (29, .bipush 12, 2), (31, .newarray .int, 2), (33, .putfield 21, 3), (36, .aload_n 0, 1), (37, .bipush 12, 2), (39, .newarray .int, 2), (41, .putfield 24, 3), (44, .return_, 1)] 45 (by decide +kernel) ?_
  refine sb_aload_n rfl ?_
  refine sb_obj (rnIn1 (List.mem_of_getElem? (i := 42) rfl)) ctO1 ctO2 (by decide) rfl ?_
  refine sb_aload_n rfl ?_
  refine sb_bipush (v := 12) (by decide +kernel) ?_
  refine ct_newI (N := 12) 4 rfl (by decide +kernel) (by decide +kernel) (by decide +kernel) (by decide +kernel) ar_int (by decide +kernel) ?_
  refine ct_putR (ci := 1) (N := 6) 1 1 rfl (by decide +kernel) (by decide +kernel) (by decide +kernel) (by decide +kernel) (by decide +kernel) ?_
  refine sb_aload_n rfl ?_
  refine sb_bipush (v := 12) (by decide +kernel) ?_
  refine ct_newI (N := 12) 5 rfl (by decide +kernel) (by decide +kernel) (by decide +kernel) (by decide +kernel) ar_int (by decide +kernel) ?_
  refine ct_putR (ci := 1) (N := 6) 2 2 rfl (by decide +kernel) (by decide +kernel) (by decide +kernel) (by decide +kernel) (by decide +kernel) ?_
  refine sb_aload_n rfl ?_
  refine sb_bipush (v := 12) (by decide +kernel) ?_
  refine ct_newI (N := 12) 6 rfl (by decide +kernel) (by decide +kernel) (by decide +kernel) (by decide +kernel) ar_int (by decide +kernel) ?_
  refine ct_putR (ci := 1) (N := 6) 3 3 rfl (by decide +kernel) (by decide +kernel) (by decide +kernel) (by decide +kernel) (by decide +kernel) ?_
  refine sb_aload_n rfl ?_
  refine sb_bipush (v := 12) (by decide +kernel) ?_
  refine ct_newI (N := 12) 7 rfl (by decide +kernel) (by decide +kernel) (by decide +kernel) (by decide +kernel) ar_int (by decide +kernel) ?_
  refine ct_putR (ci := 1) (N := 6) 4 4 rfl (by decide +kernel) (by decide +kernel) (by decide +kernel) (by decide +kernel) (by decide +kernel) ?_
  refine sb_aload_n rfl ?_
  refine sb_bipush (v := 12) (by decide +kernel) ?_
  refine ct_newI (N := 12) 8 rfl (by decide +kernel) (by decide +kernel) (by decide +kernel) (by decide +kernel) ar_int (by decide +kernel) ?_
  refine ct_putR (ci := 1) (N := 6) 5 5 rfl (by decide +kernel) (by decide +kernel) (by decide +kernel) (by decide +kernel) (by decide +kernel) ?_
  refine sb_return ?_
  exact rfl
set_option maxRecDepth 20000 in
theorem cX0_init_8 {P : Px} : EX P 1 kX0_init [.ref 8] (T 0 6 9) (none, T 0 11 14) := by
  refine ex_of oX0_init (Nat.le_of_ble_eq_true rfl) ?_
  show RN P 1 kX0_init 0 [(0, .ref 8)] [] (T 0 6 9) (none, T 0 11 14)
  refine sb_in [(0, .aload_n 0, 1), (1, .invokespecial 3, 3), (4, .aload_n 0, 1), (5, .bipush 24, 2), (7, .newarray .int, 2), (9, .putfield 9, 3), (12, .aload_n 0, 1), (13, .bipush 24, 2), (15, .newarray .int, 2), (17, .putfield 15, 3), (20, .aload_n 0, 1), (21, .bipush 24, 2), (23, .newarray .int, 2), (25, .putfield 18, 3), (28, .aload_n 0, 1), (29, .bipush 24, 2), (31, .newarray .int, 2), (33, .putfield 21, 3), (36, .aload_n 0, 1), (37, .bipush 24, 2), (39, .newarray .int, 2), (41, .putfield 24, 3), (44, .return_, 1)] 45 (by decide +kernel) ?_
  refine sb_aload_n rfl ?_
  refine sb_obj (rnIn1 (List.mem_of_getElem? (i := 79) rfl)) ctO1 ctO2 (by decide) rfl ?_
  refine sb_aload_n rfl ?_
  refine sb_bipush (v := 24) (by decide +kernel) ?_
  refine ct_newI (N := 24) 10 rfl (by decide +kernel) (by decide +kernel) (by decide +kernel) (by decide +kernel) ar_int (by decide +kernel) ?_
  refine ct_putR (ci := 0) (N := 7) 7 2 rfl (by decide +kernel) (by decide +kernel) (by decide +kernel) (by decide +kernel) (by decide +kernel) ?_
  refine sb_aload_n rfl ?_
  refine sb_bipush (v := 24) (by decide +kernel) ?_
  refine ct_newI (N := 24) 11 rfl (by decide +kernel) (by decide +kernel) (by decide +kernel) (by decide +kernel) ar_int (by decide +kernel) ?_
  refine ct_putR (ci := 0) (N := 7) 8 3 rfl (by decide +kernel) (by decide +kernel) (by decide +kernel) (by decide +kernel) (by decide +kernel) ?_
  refine sb_aload_n rfl ?_
  refine sb_bipush (v := 24) (by decide +kernel) ?_
  refine ct_newI (N := 24) 12 rfl (by decide +kernel) (by decide +kernel) (by decide +kernel) (by decide +kernel) ar_int (by decide +kernel) ?_
  refine ct_putR (ci := 0) (N := 7) 9 4 rfl (by decide +kernel) (by decide +kernel) (by decide +kernel) (by decide +kernel) (by decide +kernel) ?_
  refine sb_aload_n rfl ?_
  refine sb_bipush (v := 24) (by decide +kernel) ?_
  refine ct_newI (N := 24) 13 rfl (by decide +kernel) (by decide +kernel) (by decide +kernel) (by decide +kernel) ar_int (by decide +kernel) ?_
  refine ct_putR (ci := 0) (N := 7) 10 5 rfl (by decide +kernel) (by decide +kernel) (by decide +kernel) (by decide +kernel) (by decide +kernel) ?_
  refine sb_aload_n rfl ?_
  refine sb_bipush (v := 24) (by decide +kernel) ?_
  refine ct_newI (N := 24) 14 rfl (by decide +kernel) (by decide +kernel) (by decide +kernel) (by decide +kernel) ar_int (by decide +kernel) ?_
  refine ct_putR (ci := 0) (N := 7) 11 6 rfl (by decide +kernel) (by decide +kernel) (by decide +kernel) (by decide +kernel) (by decide +kernel) ?_
  refine sb_return ?_
  exact rfl
set_option maxRecDepth 20000 in
theorem cX10_init_1 {P : Px} : EX P 2 kX10_init [.ref 1, .int 0, .int 1] (T 0 0 2) (none, T 2 14 16) := by
  refine ex_of oX10_init (Nat.le_of_ble_eq_true rfl) ?_
  show RN P 2 kX10_init 0 [(0, .ref 1), (1, .int 0), (2, .int 1)] [] (T 0 0 2) (none, T 2 14 16)
  refine sb_in [(0, .aload_n 0, 1), (1, .invokespecial 3, 3), (4, .aload_n 0, 1), (5, .new 9, 3), (8, .dup, 1), (9, .invokespecial 11, 3), (12, .putfield 12, 3), (15, .aload_n 0, 1), (16, .new 18, 3), (19, .dup, 1), (20, .invokespecial 20, 3), (23, .putfield 21, 3), (26, .aload_n 0, 1), (27, .bipush 7, 2), (29, .newarray .int, 2), (31, .putfield 25, 3), (34, .aload_n 0, 1), (35, .bipush 99, 2), (37, .putfield 29, 3), (40, .aload_n 0, 1), (41, .iload_n 1, 1), (42, .putfield 33, 3), (45, .aload_n 0, 1), (46, .iload_n 2, 1), (47, .ifCond .eq 9, 3)] 50 (by decide +kernel) ?_
  refine sb_aload_n rfl ?_
  refine sb_obj (rnIn1 (List.mem_of_getElem? (i := 36) rfl)) ctO1 ctO2 (by decide) rfl ?_
  refine sb_aload_n rfl ?_
  refine ct_new (ci := 1) (N := 6) 3 rfl (by decide +kernel) (by decide +kernel) (by decide +kernel) (by decide +kernel) (by decide +kernel) ?_
  refine sb_dup rfl ?_
  refine sb_callIN 0 rfl oX1_init ln10_11 vX1_init rfl rfl (rnCk_of (by decide +kernel) rfl) cX1_init_2 ?_
  refine ct_putR (ci := 10) (N := 14) 6 0 rfl (by decide +kernel) (by decide +kernel) (by decide +kernel) (by decide +kernel) (by decide +kernel) ?_
  refine sb_aload_n rfl ?_
  refine ct_new (ci := 0) (N := 7) 9 rfl (by decide +kernel) (by decide +kernel) (by decide +kernel) (by decide +kernel) (by decide +kernel) ?_
  refine sb_dup rfl ?_
  refine sb_callIN 0 rfl oX0_init ln10_20 vX0_init rfl rfl (rnCk_of (by decide +kernel) rfl) cX0_init_8 ?_
  refine ct_putR (ci := 10) (N := 14) 12 1 rfl (by decide +kernel) (by decide +kernel) (by decide +kernel) (by decide +kernel) (by decide +kernel) ?_
  refine sb_aload_n rfl ?_
  refine sb_bipush (v := 7) (by decide +kernel) ?_
  refine ct_newI (N := 7) 15 rfl (by decide +kernel) (by decide +kernel) (by decide +kernel) (by decide +kernel) ar_int (by decide +kernel) ?_
  refine ct_putR (ci := 10) (N := 14) 13 2 rfl (by decide +kernel) (by decide +kernel) (by decide +kernel) (by decide +kernel) (by decide +kernel) ?_
  refine sb_aload_n rfl ?_
  refine sb_bipush (v := 99) (by decide +kernel) ?_
  refine ct_putI (ci := 10) (N := 14) 1 5 rfl (by decide +kernel) (by decide +kernel) (by decide +kernel) (by decide +kernel) (by decide +kernel) (by decide +kernel) ?_
  refine sb_aload_n rfl ?_
  refine sb_iload_n rfl ?_
  refine ct_putI (ci := 10) (N := 14) 2 13 rfl (by decide +kernel) (by decide +kernel) (by decide +kernel) (by decide +kernel) (by decide +kernel) (by decide +kernel) ?_
  refine sb_aload_n rfl ?_
  refine sb_iload_n rfl ?_
  refine sb_if_eq_f 56 (by decide) (by decide) ?_
  refine sb_in [(50, .sipush 600, 3), (53, .goto 4, 3)] 56 (by decide +kernel) ?_
  refine sb_sipush (v := 600) (by decide +kernel) ?_
  refine sb_goto 57 (by decide) ?_
  refine sb_in [(57, .newarray .int, 2), (59, .putfield 37, 3), (62, .return_, 1)] 63 (by decide +kernel) ?_
  refine ct_newI (N := 600) 16 rfl (by decide +kernel) (by decide +kernel) (by decide +kernel) (by decide +kernel) ar_int (by decide +kernel) ?_
  refine ct_putR (ci := 10) (N := 14) 14 3 rfl (by decide +kernel) (by decide +kernel) (by decide +kernel) (by decide +kernel) (by decide +kernel) ?_
  refine sb_return ?_
  exact rfl
set_option maxRecDepth 20000 in
theorem cX1_init_17 {P : Px} : EX P 1 kX1_init [.ref 17] (T 2 15 18) (none, T 2 20 23) := by
  refine ex_of oX1_init (Nat.le_of_ble_eq_true rfl) ?_
  show RN P 1 kX1_init 0 [(0, .ref 17)] [] (T 2 15 18) (none, T 2 20 23)
  refine sb_in [(0, .aload_n 0, 1), (1, .invokespecial 3, 3), (4, .aload_n 0, 1), (5, .bipush 12, 2), (7, .newarray .int, 2), (9, .putfield 9, 3), (12, .aload_n 0, 1), (13, .bipush 12, 2), (15, .newarray .int, 2), (17, .putfield 15, 3), (20, .aload_n 0, 1), (21, .bipush 12, 2), (23, .newarray .int, 2), (25, .putfield 18, 3), (28, .aload_n 0, 1), (29, .bipush 12, 2), (31, .newarray .int, 2), (33, .putfield 21, 3), (36, .aload_n 0, 1), (37, .bipush 12, 2), (39, .newarray .int, 2), (41, .putfield 24, 3), (44, .return_, 1)] 45 (by decide +kernel) ?_
  refine sb_aload_n rfl ?_
  refine sb_obj (rnIn1 (List.mem_of_getElem? (i := 42) rfl)) ctO1 ctO2 (by decide) rfl ?_
  refine sb_aload_n rfl ?_
  refine sb_bipush (v := 12) (by decide +kernel) ?_
  refine ct_newI (N := 12) 19 rfl (by decide +kernel) (by decide +kernel) (by decide +kernel) (by decide +kernel) ar_int (by decide +kernel) ?_
  refine ct_putR (ci := 1) (N := 6) 16 1 rfl (by decide +kernel) (by decide +kernel) (by decide +kernel) (by decide +kernel) (by decide +kernel) ?_
  refine sb_aload_n rfl ?_
  refine sb_bipush (v := 12) (by decide +kernel) ?_
  refine ct_newI (N := 12) 20 rfl (by decide +kernel) (by decide +kernel) (by decide +kernel) (by decide +kernel) ar_int (by decide +kernel) ?_
  refine ct_putR (ci := 1) (N := 6) 17 2 rfl (by decide +kernel) (by decide +kernel) (by decide +kernel) (by decide +kernel) (by decide +kernel) ?_
  refine sb_aload_n rfl ?_
  refine sb_bipush (v := 12) (by decide +kernel) ?_
  refine ct_newI (N := 12) 21 rfl (by decide +kernel) (by decide +kernel) (by decide +kernel) (by decide +kernel) ar_int (by decide +kernel) ?_
  refine ct_putR (ci := 1) (N := 6) 18 3 rfl (by decide +kernel) (by decide +kernel) (by decide +kernel) (by decide +kernel) (by decide +kernel) ?_
  refine sb_aload_n rfl ?_
  refine sb_bipush (v := 12) (by decide +kernel) ?_
  refine ct_newI (N := 12) 22 rfl (by decide +kernel) (by decide +kernel) (by decide +kernel) (by decide +kernel) ar_int (by decide +kernel) ?_
  refine ct_putR (ci := 1) (N := 6) 19 4 rfl (by decide +kernel) (by decide +kernel) (by decide +kernel) (by decide +kernel) (by decide +kernel) ?_
  refine sb_aload_n rfl ?_
  refine sb_bipush (v := 12) (by decide +kernel) ?_
  refine ct_newI (N := 12) 23 rfl (by decide +kernel) (by decide +kernel) (by decide +kernel) (by decide +kernel) ar_int (by decide +kernel) ?_
  refine ct_putR (ci := 1) (N := 6) 20 5 rfl (by decide +kernel) (by decide +kernel) (by decide +kernel) (by decide +kernel) (by decide +kernel) ?_
  refine sb_return ?_
  exact rfl
set_option maxRecDepth 20000 in
theorem cX0_init_23 {P : Px} : EX P 1 kX0_init [.ref 23] (T 2 21 24) (none, T 2 26 29) := by
  refine ex_of oX0_init (Nat.le_of_ble_eq_true rfl) ?_
  show RN P 1 kX0_init 0 [(0, .ref 23)] [] (T 2 21 24) (none, T 2 26 29)
  refine sb_in [(0, .aload_n 0, 1), (1, .invokespecial 3, 3), (4, .aload_n 0, 1), (5, .bipush 24, 2), (7, .newarray .int, 2), (9, .putfield 9, 3), (12, .aload_n 0, 1), (13, .bipush 24, 2), (15, .newarray .int, 2), (17, .putfield 15, 3), (20, .aload_n 0, 1), (21, .bipush 24, 2), (23, .newarray .int, 2), (25, .putfield 18, 3), (28, .aload_n 0, 1), (29, .bipush 24, 2), (31, .newarray .int, 2), (33, .putfield 21, 3), (36, .aload_n 0, 1), (37, .bipush 24, 2), (39, .newarray .int, 2), (41, .putfield 24, 3), (44, .return_, 1)] 45 (by decide +kernel) ?_
  refine sb_aload_n rfl ?_
  refine sb_obj (rnIn1 (List.mem_of_getElem? (i := 79) rfl)) ctO1 ctO2 (by decide) rfl ?_
  refine sb_aload_n rfl ?_
  refine sb_bipush (v := 24) (by decide +kernel) ?_
  refine ct_newI (N := 24) 25 rfl (by decide +kernel) (by decide +kernel) (by decide +kernel) (by decide +kernel) ar_int (by decide +kernel) ?_
  refine ct_putR (ci := 0) (N := 7) 22 2 rfl (by decide +kernel) (by decide +kernel) (by decide +kernel) (by decide +kernel) (by decide +kernel) ?_
  refine sb_aload_n rfl ?_
  refine sb_bipush (v := 24) (by decide +kernel) ?_
  refine ct_newI (N := 24) 26 rfl (by decide +kernel) (by decide +kernel) (by decide +kernel) (by decide +kernel) ar_int (by decide +kernel) ?_
  refine ct_putR (ci := 0) (N := 7) 23 3 rfl (by decide +kernel) (by decide +kernel) (by decide +kernel) (by decide +kernel) (by decide +kernel) ?_
  refine sb_aload_n rfl ?_
  refine sb_bipush (v := 24) (by decide +kernel) ?_
  refine ct_newI (N := 24) 27 rfl (by decide +kernel) (by decide +kernel) (by decide +kernel) (by decide +kernel) ar_int (by decide +kernel) ?_
  refine ct_putR (ci := 0) (N := 7) 24 4 rfl (by decide +kernel) (by decide +kernel) (by decide +kernel) (by decide +kernel) (by decide +kernel) ?_
  refine sb_aload_n rfl ?_
  refine sb_bipush (v := 24) (by decide +kernel) ?_
  refine ct_newI (N := 24) 28 rfl (by decide +kernel) (by decide +kernel) (by decide +kernel) (by decide +kernel) ar_int (by decide +kernel) ?_
  refine ct_putR (ci := 0) (N := 7) 25 5 rfl (by decide +kernel) (by decide +kernel) (by decide +kernel) (by decide +kernel) (by decide +kernel) ?_
  refine sb_aload_n rfl ?_
  refine sb_bipush (v := 24) (by decide +kernel) ?_
  refine ct_newI (N := 24) 29 rfl (by decide +kernel) (by decide +kernel) (by decide +kernel) (by decide +kernel) ar_int (by decide +kernel) ?_
  refine ct_putR (ci := 0) (N := 7) 26 6 rfl (by decide +kernel) (by decide +kernel) (by decide +kernel) (by decide +kernel) (by decide +kernel) ?_
  refine sb_return ?_
  exact rfl
set_option maxRecDepth 20000 in
theorem cX10_init_16 {P : Px} : EX P 2 kX10_init [.ref 16, .int 1, .int 0] (T 2 15 17) (none, T 4 29 31) := by
  refine ex_of oX10_init (Nat.le_of_ble_eq_true rfl) ?_
  show RN P 2 kX10_init 0 [(0, .ref 16), (1, .int 1), (2, .int 0)] [] (T 2 15 17) (none, T 4 29 31)
  refine sb_in [(0, .aload_n 0, 1), (1, .invokespecial 3, 3), (4, .aload_n 0, 1), (5, .new 9, 3), (8, .dup, 1), (9, .invokespecial 11, 3), (12, .putfield 12, 3), (15, .aload_n 0, 1), (16, .new 18, 3), (19, .dup, 1), (20, .invokespecial 20, 3), (23, .putfield 21, 3), (26, .aload_n 0, 1), (27, .bipush 7, 2), (29, .newarray .int, 2), (31, .putfield 25, 3), (34, .aload_n 0, 1), (35, .bipush 99, 2), (37, .putfield 29, 3), (40, .aload_n 0, 1), (41, .iload_n 1, 1), (42, .putfield 33, 3), (45, .aload_n 0, 1), (46, .iload_n 2, 1), (47, .ifCond .eq 9, 3)] 50 (by decide +kernel) ?_
  refine sb_aload_n rfl ?_
  refine sb_obj (rnIn1 (List.mem_of_getElem? (i := 36) rfl)) ctO1 ctO2 (by decide) rfl ?_
  refine sb_aload_n rfl ?_
  refine ct_new (ci := 1) (N := 6) 18 rfl (by decide +kernel) (by decide +kernel) (by decide +kernel) (by decide +kernel) (by decide +kernel) ?_
  refine sb_dup rfl ?_
  refine sb_callIN 0 rfl oX1_init ln10_11 vX1_init rfl rfl (rnCk_of (by decide +kernel) rfl) cX1_init_17 ?_
  refine ct_putR (ci := 10) (N := 14) 21 0 rfl (by decide +kernel) (by decide +kernel) (by decide +kernel) (by decide +kernel) (by decide +kernel) ?_
  refine sb_aload_n rfl ?_
  refine ct_new (ci := 0) (N := 7) 24 rfl (by decide +kernel) (by decide +kernel) (by decide +kernel) (by decide +kernel) (by decide +kernel) ?_
  refine sb_dup rfl ?_
  refine sb_callIN 0 rfl oX0_init ln10_20 vX0_init rfl rfl (rnCk_of (by decide +kernel) rfl) cX0_init_23 ?_
  refine ct_putR (ci := 10) (N := 14) 27 1 rfl (by decide +kernel) (by decide +kernel) (by decide +kernel) (by decide +kernel) (by decide +kernel) ?_
  refine sb_aload_n rfl ?_
  refine sb_bipush (v := 7) (by decide +kernel) ?_
  refine ct_newI (N := 7) 30 rfl (by decide +kernel) (by decide +kernel) (by decide +kernel) (by decide +kernel) ar_int (by decide +kernel) ?_
  refine ct_putR (ci := 10) (N := 14) 28 2 rfl (by decide +kernel) (by decide +kernel) (by decide +kernel) (by decide +kernel) (by decide +kernel) ?_
  refine sb_aload_n rfl ?_
  refine sb_bipush (v := 99) (by decide +kernel) ?_
  refine ct_putI (ci := 10) (N := 14) 3 5 rfl (by decide +kernel) (by decide +kernel) (by decide +kernel) (by decide +kernel) (by decide +kernel) (by decide +kernel) ?_
  refine sb_aload_n rfl ?_
  refine sb_iload_n rfl ?_
  refine ct_putI (ci := 10) (N := 14) 4 13 rfl (by decide +kernel) (by decide +kernel) (by decide +kernel) (by decide +kernel) (by decide +kernel) (by decide +kernel) ?_
  refine sb_aload_n rfl ?_
  refine sb_iload_n rfl ?_
  refine sb_if_eq_t 56 (by decide) (by decide) ?_
  refine sb_in [(56, .iconst 0, 1), (57, .newarray .int, 2), (59, .putfield 37, 3), (62, .return_, 1)] 63 (by decide +kernel) ?_
  refine sb_iconst (v := 0) (by decide +kernel) ?_
  refine ct_newI (N := 0) 31 rfl (by decide +kernel) (by decide +kernel) (by decide +kernel) (by decide +kernel) ar_int (by decide +kernel) ?_
  refine ct_putR (ci := 10) (N := 14) 29 3 rfl (by decide +kernel) (by decide +kernel) (by decide +kernel) (by decide +kernel) (by decide +kernel) ?_
  refine sb_return ?_
  exact rfl
set_option maxRecDepth 20000 in
theorem cX1_init_34 {P : Px} : EX P 1 kX1_init [.ref 34] (T 4 31 35) (none, T 4 36 40) := by
  refine ex_of oX1_init (Nat.le_of_ble_eq_true rfl) ?_
  show RN P 1 kX1_init 0 [(0, .ref 34)] [] (T 4 31 35) (none, T 4 36 40)
  refine sb_in [(0, .aload_n 0, 1), (1, .invokespecial 3, 3), (4, .aload_n 0, 1), (5, .bipush 12, 2), (7, .newarray .int, 2), (9, .putfield 9, 3), (12, .aload_n 0, 1), (13, .bipush 12, 2), (15, .newarray .int, 2), (17, .putfield 15, 3), (20, .aload_n 0, 1), (21, .bipush 12, 2), (23, .newarray .int, 2), (25, .putfield 18, 3), (28, .aload_n 0, 1), (29, .bipush 12, 2), (31, .newarray .int, 2), (33, .putfield 21, 3), (36, .aload_n 0, 1), (37, .bipush 12, 2), (39, .newarray .int, 2), (41, .putfield 24, 3), (44, .return_, 1)] 45 (by decide +kernel) ?_
  refine sb_aload_n rfl ?_
  refine sb_obj (rnIn1 (List.mem_of_getElem? (i := 42) rfl)) ctO1 ctO2 (by decide) rfl ?_
  refine sb_aload_n rfl ?_
  refine sb_bipush (v := 12) (by decide +kernel) ?_
  refine ct_newI (N := 12) 36 rfl (by decide +kernel) (by decide +kernel) (by decide +kernel) (by decide +kernel) ar_int (by decide +kernel) ?_
  refine ct_putR (ci := 1) (N := 6) 32 1 rfl (by decide +kernel) (by decide +kernel) (by decide +kernel) (by decide +kernel) (by decide +kernel) ?_
  refine sb_aload_n rfl ?_
  refine sb_bipush (v := 12) (by decide +kernel) ?_
  refine ct_newI (N := 12) 37 rfl (by decide +kernel) (by decide +kernel) (by decide +kernel) (by decide +kernel) ar_int (by decide +kernel) ?_
  refine ct_putR (ci := 1) (N := 6) 33 2 rfl (by decide +kernel) (by decide +kernel) (by decide +kernel) (by decide +kernel) (by decide +kernel) ?_
  refine sb_aload_n rfl ?_
  refine sb_bipush (v := 12) (by decide +kernel) ?_
  refine ct_newI (N := 12) 38 rfl (by decide +kernel) (by decide +kernel) (by decide +kernel) (by decide +kernel) ar_int (by decide +kernel) ?_
  refine ct_putR (ci := 1) (N := 6) 34 3 rfl (by decide +kernel) (by decide +kernel) (by decide +kernel) (by decide +kernel) (by decide +kernel) ?_
  refine sb_aload_n rfl ?_
  refine sb_bipush (v := 12) (by decide +kernel) ?_
  refine ct_newI (N := 12) 39 rfl (by decide +kernel) (by decide +kernel) (by decide +kernel) (by decide +kernel) ar_int (by decide +kernel) ?_
  refine ct_putR (ci := 1) (N := 6) 35 4 rfl (by decide +kernel) (by decide +kernel) (by decide +kernel) (by decide +kernel) (by decide +kernel) ?_
  refine sb_aload_n rfl ?_
  refine sb_bipush (v := 12) (by decide +kernel) ?_
  refine ct_newI (N := 12) 40 rfl (by decide +kernel) (by decide +kernel) (by decide +kernel) (by decide +kernel) ar_int (by decide +kernel) ?_
  refine ct_putR (ci := 1) (N := 6) 36 5 rfl (by decide +kernel) (by decide +kernel) (by decide +kernel) (by decide +kernel) (by decide +kernel) ?_
  refine sb_return ?_
  exact rfl
set_option maxRecDepth 20000 in
theorem cX0_init_40 {P : Px} : EX P 1 kX0_init [.ref 40] (T 4 37 41) (none, T 4 42 46) := by
  refine ex_of oX0_init (Nat.le_of_ble_eq_true rfl) ?_
  show RN P 1 kX0_init 0 [(0, .ref 40)] [] (T 4 37 41) (none, T 4 42 46)
  refine sb_in [(0, .aload_n 0, 1), (1, .invokespecial 3, 3), (4, .aload_n 0, 1), (5, .bipush 24, 2), (7, .newarray .int, 2), (9, .putfield 9, 3), (12, .aload_n 0, 1), (13, .bipush 24, 2), (15, .newarray .int, 2), (17, .putfield 15, 3), (20, .aload_n 0, 1), (21, .bipush 24, 2), (23, .newarray .int, 2), (25, .putfield 18, 3), (28, .aload_n 0, 1), (29, .bipush 24, 2), (31, .newarray .int, 2), (33, .putfield 21, 3), (36, .aload_n 0, 1), (37, .bipush 24, 2), (39, .newarray .int, 2), (41, .putfield 24, 3), (44, .return_, 1)] 45 (by decide +kernel) ?_
  refine sb_aload_n rfl ?_
  refine sb_obj (rnIn1 (List.mem_of_getElem? (i := 79) rfl)) ctO1 ctO2 (by decide) rfl ?_
  refine sb_aload_n rfl ?_
  refine sb_bipush (v := 24) (by decide +kernel) ?_
  refine ct_newI (N := 24) 42 rfl (by decide +kernel) (by decide +kernel) (by decide +kernel) (by decide +kernel) ar_int (by decide +kernel) ?_
  refine ct_putR (ci := 0) (N := 7) 38 2 rfl (by decide +kernel) (by decide +kernel) (by decide +kernel) (by decide +kernel) (by decide +kernel) ?_
  refine sb_aload_n rfl ?_
  refine sb_bipush (v := 24) (by decide +kernel) ?_
  refine ct_newI (N := 24) 43 rfl (by decide +kernel) (by decide +kernel) (by decide +kernel) (by decide +kernel) ar_int (by decide +kernel) ?_
  refine ct_putR (ci := 0) (N := 7) 39 3 rfl (by decide +kernel) (by decide +kernel) (by decide +kernel) (by decide +kernel) (by decide +kernel) ?_
  refine sb_aload_n rfl ?_
  refine sb_bipush (v := 24) (by decide +kernel) ?_
  refine ct_newI (N := 24) 44 rfl (by decide +kernel) (by decide +kernel) (by decide +kernel) (by decide +kernel) ar_int (by decide +kernel) ?_
  refine ct_putR (ci := 0) (N := 7) 40 4 rfl (by decide +kernel) (by decide +kernel) (by decide +kernel) (by decide +kernel) (by decide +kernel) ?_
  refine sb_aload_n rfl ?_
  refine sb_bipush (v := 24) (by decide +kernel) ?_
  refine ct_newI (N := 24) 45 rfl (by decide +kernel) (by decide +kernel) (by decide +kernel) (by decide +kernel) ar_int (by decide +kernel) ?_
  refine ct_putR (ci := 0) (N := 7) 41 5 rfl (by decide +kernel) (by decide +kernel) (by decide +kernel) (by decide +kernel) (by decide +kernel) ?_
  refine sb_aload_n rfl ?_
  refine sb_bipush (v := 24) (by decide +kernel) ?_
  refine ct_newI (N := 24) 46 rfl (by decide +kernel) (by decide +kernel) (by decide +kernel) (by decide +kernel) ar_int (by decide +kernel) ?_
  refine ct_putR (ci := 0) (N := 7) 42 6 rfl (by decide +kernel) (by decide +kernel) (by decide +kernel) (by decide +kernel) (by decide +kernel) ?_
  refine sb_return ?_
  exact rfl
set_option maxRecDepth 20000 in
theorem cX10_init_33 {P : Px} : EX P 2 kX10_init [.ref 33, .int 0, .int 0] (T 4 31 34) (none, T 6 45 48) := by
  refine ex_of oX10_init (Nat.le_of_ble_eq_true rfl) ?_
  show RN P 2 kX10_init 0 [(0, .ref 33), (1, .int 0), (2, .int 0)] [] (T 4 31 34) (none, T 6 45 48)
  refine sb_in [(0, .aload_n 0, 1), (1, .invokespecial 3, 3), (4, .aload_n 0, 1), (5, .new 9, 3), (8, .dup, 1), (9, .invokespecial 11, 3), (12, .putfield 12, 3), (15, .aload_n 0, 1), (16, .new 18, 3), (19, .dup, 1), (20, .invokespecial 20, 3), (23, .putfield 21, 3), (26, .aload_n 0, 1), (27, .bipush 7, 2), (29, .newarray .int, 2), (31, .putfield 25, 3), (34, .aload_n 0, 1), (35, .bipush 99, 2), (37, .putfield 29, 3), (40, .aload_n 0, 1), (41, .iload_n 1, 1), (42, .putfield 33, 3), (45, .aload_n 0, 1), (46, .iload_n 2, 1), (47, .ifCond .eq 9, 3)] 50 (by decide +kernel) ?_
  refine sb_aload_n rfl ?_
  refine sb_obj (rnIn1 (List.mem_of_getElem? (i := 36) rfl)) ctO1 ctO2 (by decide) rfl ?_
  refine sb_aload_n rfl ?_
  refine ct_new (ci := 1) (N := 6) 35 rfl (by decide +kernel) (by decide +kernel) (by decide +kernel) (by decide +kernel) (by decide +kernel) ?_
  refine sb_dup rfl ?_
  refine sb_callIN 0 rfl oX1_init ln10_11 vX1_init rfl rfl (rnCk_of (by decide +kernel) rfl) cX1_init_34 ?_
  refine ct_putR (ci := 10) (N := 14) 37 0 rfl (by decide +kernel) (by decide +kernel) (by decide +kernel) (by decide +kernel) (by decide +kernel) ?_
  refine sb_aload_n rfl ?_
  refine ct_new (ci := 0) (N := 7) 41 rfl (by decide +kernel) (by decide +kernel) (by decide +kernel) (by decide +kernel) (by decide +kernel) ?_
  refine sb_dup rfl ?_
  refine sb_callIN 0 rfl oX0_init ln10_20 vX0_init rfl rfl (rnCk_of (by decide +kernel) rfl) cX0_init_40 ?_
  refine ct_putR (ci := 10) (N := 14) 43 1 rfl (by decide +kernel) (by decide +kernel) (by decide +kernel) (by decide +kernel) (by decide +kernel) ?_
  refine sb_aload_n rfl ?_
  refine sb_bipush (v := 7) (by decide +kernel) ?_
  refine ct_newI (N := 7) 47 rfl (by decide +kernel) (by decide +kernel) (by decide +kernel) (by decide +kernel) ar_int (by decide +kernel) ?_
  refine ct_putR (ci := 10) (N := 14) 44 2 rfl (by decide +kernel) (by decide +kernel) (by decide +kernel) (by decide +kernel) (by decide +kernel) ?_
  refine sb_aload_n rfl ?_
  refine sb_bipush (v := 99) (by decide +kernel) ?_
  refine ct_putI (ci := 10) (N := 14) 5 5 rfl (by decide +kernel) (by decide +kernel) (by decide +kernel) (by decide +kernel) (by decide +kernel) (by decide +kernel) ?_
  refine sb_aload_n rfl ?_
  refine sb_iload_n rfl ?_
  refine ct_putI (ci := 10) (N := 14) 6 13 rfl (by decide +kernel) (by decide +kernel) (by decide +kernel) (by decide +kernel) (by decide +kernel) (by decide +kernel) ?_
  refine sb_aload_n rfl ?_
  refine sb_iload_n rfl ?_
  refine sb_if_eq_t 56 (by decide) (by decide) ?_
  refine sb_in [(56, .iconst 0, 1), (57, .newarray .int, 2), (59, .putfield 37, 3), (62, .return_, 1)] 63 (by decide +kernel) ?_
  refine sb_iconst (v := 0) (by decide +kernel) ?_
  refine ct_newI (N := 0) 48 rfl (by decide +kernel) (by decide +kernel) (by decide +kernel) (by decide +kernel) ar_int (by decide +kernel) ?_
  refine ct_putR (ci := 10) (N := 14) 45 3 rfl (by decide +kernel) (by decide +kernel) (by decide +kernel) (by decide +kernel) (by decide +kernel) ?_
  refine sb_return ?_
  exact rfl
set_option maxRecDepth 20000 in
theorem cX1_init_49 {P : Px} : EX P 1 kX1_init [.ref 49] (T 6 46 50) (none, T 6 51 55) := by
  refine ex_of oX1_init (Nat.le_of_ble_eq_true rfl) ?_
  show RN P 1 kX1_init 0 [(0, .ref 49)] [] (T 6 46 50) (none, T 6 51 55)
  refine sb_in [(0, .aload_n 0, 1), (1, .invokespecial 3, 3), (4, .aload_n 0, 1), (5, .bipush 12, 2), (7, .newarray .int, 2), (9, .putfield 9, 3), (12, .aload_n 0, 1), (13, .bipush 12, 2), (15, .newarray .int, 2), (17, .putfield 15, 3), (20, .aload_n 0, 1), (21, .bipush 12, 2), (23, .newarray .int, 2), (25, .putfield 18, 3), (28, .aload_n 0, 1), (29, .bipush 12, 2), (31, .newarray .int, 2), (33, .putfield 21, 3), (36, .aload_n 0, 1), (37, .bipush 12, 2), (39, .newarray .int, 2), (41, .putfield 24, 3), (44, .return_, 1)] 45 (by decide +kernel) ?_
  refine sb_aload_n rfl ?_
  refine sb_obj (rnIn1 (List.mem_of_getElem? (i := 42) rfl)) ctO1 ctO2 (by decide) rfl ?_
  refine sb_aload_n rfl ?_
  refine sb_bipush (v := 12) (by decide +kernel) ?_
  refine ct_newI (N := 12) 51 rfl (by decide +kernel) (by decide +kernel) (by decide +kernel) (by decide +kernel) ar_int (by decide +kernel) ?_
  refine ct_putR (ci := 1) (N := 6) 47 1 rfl (by decide +kernel) (by decide +kernel) (by decide +kernel) (by decide +kernel) (by decide +kernel) ?_
  refine sb_aload_n rfl ?_
  refine sb_bipush (v := 12) (by decide +kernel) ?_
  refine ct_newI (N := 12) 52 rfl (by decide +kernel) (by decide +kernel) (by decide +kernel) (by decide +kernel) ar_int (by decide +kernel) ?_
  refine ct_putR (ci := 1) (N := 6) 48 2 rfl (by decide +kernel) (by decide +kernel) (by decide +kernel) (by decide +kernel) (by decide +kernel) ?_
  refine sb_aload_n rfl ?_
  refine sb_bipush (v := 12) (by decide +kernel) ?_
  refine ct_newI (N := 12) 53 rfl (by decide +kernel) (by decide +kernel) (by decide +kernel) (by decide +kernel) ar_int (by decide +kernel) ?_
  refine ct_putR (ci := 1) (N := 6) 49 3 rfl (by decide +kernel) (by decide +kernel) (by decide +kernel) (by decide +kernel) (by decide +kernel) ?_
  refine sb_aload_n rfl ?_
  refine sb_bipush (v := 12) (by decide +kernel) ?_
  refine ct_newI (N := 12) 54 rfl (by decide +kernel) (by decide +kernel) (by decide +kernel) (by decide +kernel) ar_int (by decide +kernel) ?_
  refine ct_putR (ci := 1) (N := 6) 50 4 rfl (by decide +kernel) (by decide +kernel) (by decide +kernel) (by decide +kernel) (by decide +kernel) ?_
  refine sb_aload_n rfl ?_
  refine sb_bipush (v := 12) (by decide +kernel) ?_
  refine ct_newI (N := 12) 55 rfl (by decide +kernel) (by decide +kernel) (by decide +kernel) (by decide +kernel) ar_int (by decide +kernel) ?_
  refine ct_putR (ci := 1) (N := 6) 51 5 rfl (by decide +kernel) (by decide +kernel) (by decide +kernel) (by decide +kernel) (by decide +kernel) ?_
  refine sb_return ?_
  exact rfl
set_option maxRecDepth 20000 in
theorem cX0_init_55 {P : Px} : EX P 1 kX0_init [.ref 55] (T 6 52 56) (none, T 6 57 61) := by
  refine ex_of oX0_init (Nat.le_of_ble_eq_true rfl) ?_
  show RN P 1 kX0_init 0 [(0, .ref 55)] [] (T 6 52 56) (none, T 6 57 61)
  refine sb_in [(0, .aload_n 0, 1), (1, .invokespecial 3, 3), (4, .aload_n 0, 1), (5, .bipush 24, 2), (7, .newarray .int, 2), (9, .putfield 9, 3), (12, .aload_n 0, 1), (13, .bipush 24, 2), (15, .newarray .int, 2), (17, .putfield 15, 3), (20, .aload_n 0, 1), (21, .bipush 24, 2), (23, .newarray .int, 2), (25, .putfield 18, 3), (28, .aload_n 0, 1), (29, .bipush 24, 2), (31, .newarray .int, 2), (33, .putfield 21, 3), (36, .aload_n 0, 1), (37, .bipush 24, 2), (39, .newarray .int, 2), (41, .putfield 24, 3), (44, .return_, 1)] 45 (by decide +kernel) ?_
  refine sb_aload_n rfl ?_
  refine sb_obj (rnIn1 (List.mem_of_getElem? (i := 79) rfl)) ctO1 ctO2 (by decide) rfl ?_
  refine sb_aload_n rfl ?_
  refine sb_bipush (v := 24) (by decide +kernel) ?_
  refine ct_newI (N := 24) 57 rfl (by decide +kernel) (by decide +kernel) (by decide +kernel) (by decide +kernel) ar_int (by decide +kernel) ?_
  refine ct_putR (ci := 0) (N := 7) 53 2 rfl (by decide +kernel) (by decide +kernel) (by decide +kernel) (by decide +kernel) (by decide +kernel) ?_
  refine sb_aload_n rfl ?_
  refine sb_bipush (v := 24) (by decide +kernel) ?_
  refine ct_newI (N := 24) 58 rfl (by decide +kernel) (by decide +kernel) (by decide +kernel) (by decide +kernel) ar_int (by decide +kernel) ?_
  refine ct_putR (ci := 0) (N := 7) 54 3 rfl (by decide +kernel) (by decide +kernel) (by decide +kernel) (by decide +kernel) (by decide +kernel) ?_
  refine sb_aload_n rfl ?_
  refine sb_bipush (v := 24) (by decide +kernel) ?_
  refine ct_newI (N := 24) 59 rfl (by decide +kernel) (by decide +kernel) (by decide +kernel) (by decide +kernel) ar_int (by decide +kernel) ?_
  refine ct_putR (ci := 0) (N := 7) 55 4 rfl (by decide +kernel) (by decide +kernel) (by decide +kernel) (by decide +kernel) (by decide +kernel) ?_
  refine sb_aload_n rfl ?_
  refine sb_bipush (v := 24) (by decide +kernel) ?_
  refine ct_newI (N := 24) 60 rfl (by decide +kernel) (by decide +kernel) (by decide +kernel) (by decide +kernel) ar_int (by decide +kernel) ?_
  refine ct_putR (ci := 0) (N := 7) 56 5 rfl (by decide +kernel) (by decide +kernel) (by decide +kernel) (by decide +kernel) (by decide +kernel) ?_
  refine sb_aload_n rfl ?_
  refine sb_bipush (v := 24) (by decide +kernel) ?_
  refine ct_newI (N := 24) 61 rfl (by decide +kernel) (by decide +kernel) (by decide +kernel) (by decide +kernel) ar_int (by decide +kernel) ?_
  refine ct_putR (ci := 0) (N := 7) 57 6 rfl (by decide +kernel) (by decide +kernel) (by decide +kernel) (by decide +kernel) (by decide +kernel) ?_
  refine sb_return ?_
  exact rfl
set_option maxRecDepth 20000 in
theorem cX10_init_48 {P : Px} : EX P 2 kX10_init [.ref 48, .int 0, .int 0] (T 6 46 49) (none, T 8 60 63) := by
  refine ex_of oX10_init (Nat.le_of_ble_eq_true rfl) ?_
  show RN P 2 kX10_init 0 [(0, .ref 48), (1, .int 0), (2, .int 0)] [] (T 6 46 49) (none, T 8 60 63)
  refine sb_in [(0, .aload_n 0, 1), (1, .invokespecial 3, 3), (4, .aload_n 0, 1), (5, .new 9, 3), (8, .dup, 1), (9, .invokespecial 11, 3), (12, .putfield 12, 3), (15, .aload_n 0, 1), (16, .new 18, 3), (19, .dup, 1), (20, .invokespecial 20, 3), (23, .putfield 21, 3), (26, .aload_n 0, 1), (27, .bipush 7, 2), (29, .newarray .int, 2), (31, .putfield 25, 3), (34, .aload_n 0, 1), (35, .bipush 99, 2), (37, .putfield 29, 3), (40, .aload_n 0, 1), (41, .iload_n 1, 1), (42, .putfield 33, 3), (45, .aload_n 0, 1), (46, .iload_n 2, 1), (47, .ifCond .eq 9, 3)] 50 (by decide +kernel) ?_
  refine sb_aload_n rfl ?_
  refine sb_obj (rnIn1 (List.mem_of_getElem? (i := 36) rfl)) ctO1 ctO2 (by decide) rfl ?_
  refine sb_aload_n rfl ?_
  refine ct_new (ci := 1) (N := 6) 50 rfl (by decide +kernel) (by decide +kernel) (by decide +kernel) (by decide +kernel) (by decide +kernel) ?_
  refine sb_dup rfl ?_
  refine sb_callIN 0 rfl oX1_init ln10_11 vX1_init rfl rfl (rnCk_of (by decide +kernel) rfl) cX1_init_49 ?_
  refine ct_putR (ci := 10) (N := 14) 52 0 rfl (by decide +kernel) (by decide +kernel) (by decide +kernel) (by decide +kernel) (by decide +kernel) ?_
  refine sb_aload_n rfl ?_
  refine ct_new (ci := 0) (N := 7) 56 rfl (by decide +kernel) (by decide +kernel) (by decide +kernel) (by decide +kernel) (by decide +kernel) ?_
  refine sb_dup rfl ?_
  refine sb_callIN 0 rfl oX0_init ln10_20 vX0_init rfl rfl (rnCk_of (by decide +kernel) rfl) cX0_init_55 ?_
  refine ct_putR (ci := 10) (N := 14) 58 1 rfl (by decide +kernel) (by decide +kernel) (by decide +kernel) (by decide +kernel) (by decide +kernel) ?_
  refine sb_aload_n rfl ?_
  refine sb_bipush (v := 7) (by decide +kernel) ?_
  refine ct_newI (N := 7) 62 rfl (by decide +kernel) (by decide +kernel) (by decide +kernel) (by decide +kernel) ar_int (by decide +kernel) ?_
  refine ct_putR (ci := 10) (N := 14) 59 2 rfl (by decide +kernel) (by decide +kernel) (by decide +kernel) (by decide +kernel) (by decide +kernel) ?_
  refine sb_aload_n rfl ?_
  refine sb_bipush (v := 99) (by decide +kernel) ?_
  refine ct_putI (ci := 10) (N := 14) 7 5 rfl (by decide +kernel) (by decide +kernel) (by decide +kernel) (by decide +kernel) (by decide +kernel) (by decide +kernel) ?_
  refine sb_aload_n rfl ?_
  refine sb_iload_n rfl ?_
  refine ct_putI (ci := 10) (N := 14) 8 13 rfl (by decide +kernel) (by decide +kernel) (by decide +kernel) (by decide +kernel) (by decide +kernel) (by decide +kernel) ?_
  refine sb_aload_n rfl ?_
  refine sb_iload_n rfl ?_
  refine sb_if_eq_t 56 (by decide) (by decide) ?_
  refine sb_in [(56, .iconst 0, 1), (57, .newarray .int, 2), (59, .putfield 37, 3), (62, .return_, 1)] 63 (by decide +kernel) ?_
  refine sb_iconst (v := 0) (by decide +kernel) ?_
  refine ct_newI (N := 0) 63 rfl (by decide +kernel) (by decide +kernel) (by decide +kernel) (by decide +kernel) ar_int (by decide +kernel) ?_
  refine ct_putR (ci := 10) (N := 14) 60 3 rfl (by decide +kernel) (by decide +kernel) (by decide +kernel) (by decide +kernel) (by decide +kernel) ?_
  refine sb_return ?_
  exact rfl
set_option maxRecDepth 20000 in
theorem cX1_init_64 {P : Px} : EX P 1 kX1_init [.ref 64] (T 8 61 65) (none, T 8 66 70) := by
  refine ex_of oX1_init (Nat.le_of_ble_eq_true rfl) ?_
  show RN P 1 kX1_init 0 [(0, .ref 64)] [] (T 8 61 65) (none, T 8 66 70)
  refine sb_in [(0, .aload_n 0, 1), (1, .invokespecial 3, 3), (4, .aload_n 0, 1), (5, .bipush 12, 2), (7, .newarray .int, 2), (9, .putfield 9, 3), (12, .aload_n 0, 1), (13, .bipush 12, 2), (15, .newarray .int, 2), (17, .putfield 15, 3), (20, .aload_n 0, 1), (21, .bipush 12, 2), (23, .newarray .int, 2), (25, .putfield 18, 3), (28, .aload_n 0, 1), (29, .bipush 12, 2), (31, .newarray .int, 2), (33, .putfield 21, 3), (36, .aload_n 0, 1), (37, .bipush 12, 2), (39, .newarray .int, 2), (41, .putfield 24, 3), (44, .return_, 1)] 45 (by decide +kernel) ?_
  refine sb_aload_n rfl ?_
  refine sb_obj (rnIn1 (List.mem_of_getElem? (i := 42) rfl)) ctO1 ctO2 (by decide) rfl ?_
  refine sb_aload_n rfl ?_
  refine sb_bipush (v := 12) (by decide +kernel) ?_
  refine ct_newI (N := 12) 66 rfl (by decide +kernel) (by decide +kernel) (by decide +kernel) (by decide +kernel) ar_int (by decide +kernel) ?_
  refine ct_putR (ci := 1) (N := 6) 62 1 rfl (by decide +kernel) (by decide +kernel) (by decide +kernel) (by decide +kernel) (by decide +kernel) ?_
  refine sb_aload_n rfl ?_
  refine sb_bipush (v := 12) (by decide +kernel) ?_
  refine ct_newI (N := 12) 67 rfl (by decide +kernel) (by decide +kernel) (by decide +kernel) (by decide +kernel) ar_int (by decide +kernel) ?_
  refine ct_putR (ci := 1) (N := 6) 63 2 rfl (by decide +kernel) (by decide +kernel) (by decide +kernel) (by decide +kernel) (by decide +kernel) ?_
  refine sb_aload_n rfl ?_
  refine sb_bipush (v := 12) (by decide +kernel) ?_
  refine ct_newI (N := 12) 68 rfl (by decide +kernel) (by decide +kernel) (by decide +kernel) (by decide +kernel) ar_int (by decide +kernel) ?_
  refine ct_putR (ci := 1) (N := 6) 64 3 rfl (by decide +kernel) (by decide +kernel) (by decide +kernel) (by decide +kernel) (by decide +kernel) ?_
  refine sb_aload_n rfl ?_
  refine sb_bipush (v := 12) (by decide +kernel) ?_
  refine ct_newI (N := 12) 69 rfl (by decide +kernel) (by decide +kernel) (by decide +kernel) (by decide +kernel) ar_int (by decide +kernel) ?_
  refine ct_putR (ci := 1) (N := 6) 65 4 rfl (by decide +kernel) (by decide +kernel) (by decide +kernel) (by decide +kernel) (by decide +kernel) ?_
  refine sb_aload_n rfl ?_
  refine sb_bipush (v := 12) (by decide +kernel) ?_
  refine ct_newI (N := 12) 70 rfl (by decide +kernel) (by decide +kernel) (by decide +kernel) (by decide +kernel) ar_int (by decide +kernel) ?_
  refine ct_putR (ci := 1) (N := 6) 66 5 rfl (by decide +kernel) (by decide +kernel) (by decide +kernel) (by decide +kernel) (by decide +kernel) ?_
  refine sb_return ?_
  exact rfl
set_option maxRecDepth 20000 in
theorem cX0_init_70 {P : Px} : EX P 1 kX0_init [.ref 70] (T 8 67 71) (none, T 8 72 76) := by
  refine ex_of oX0_init (Nat.le_of_ble_eq_true rfl) ?_
  show RN P 1 kX0_init 0 [(0, .ref 70)] [] (T 8 67 71) (none, T 8 72 76)
  refine sb_in [(0, .aload_n 0, 1), (1, .invokespecial 3, 3), (4, .aload_n 0, 1), (5, .bipush 24, 2), (7, .newarray .int, 2), (9, .putfield 9, 3), (12, .aload_n 0, 1), (13, .bipush 24, 2), (15, .newarray .int, 2), (17, .putfield 15, 3), (20, .aload_n 0, 1), (21, .bipush 24, 2), (23, .newarray .int, 2), (25, .putfield 18, 3), (28, .aload_n 0, 1), (29, .bipush 24, 2), (31, .newarray .int, 2), (33, .putfield 21, 3), (36, .aload_n 0, 1), (37, .bipush 24, 2), (39, .newarray .int, 2), (41, .putfield 24, 3), (44, .return_, 1)] 45 (by decide +kernel) ?_
  refine sb_aload_n rfl ?_
  refine sb_obj (rnIn1 (List.mem_of_getElem? (i := 79) rfl)) ctO1 ctO2 (by decide) rfl ?_
  refine sb_aload_n rfl ?_
  refine sb_bipush (v := 24) (by decide +kernel) ?_
  refine ct_newI (N := 24) 72 rfl (by decide +kernel) (by decide +kernel) (by decide +kernel) (by decide +kernel) ar_int (by decide +kernel) ?_
  refine ct_putR (ci := 0) (N := 7) 68 2 rfl (by decide +kernel) (by decide +kernel) (by decide +kernel) (by decide +kernel) (by decide +kernel) ?_
  refine sb_aload_n rfl ?_
  refine sb_bipush (v := 24) (by decide +kernel) ?_
  refine ct_newI (N := 24) 73 rfl (by decide +kernel) (by decide +kernel) (by decide +kernel) (by decide +kernel) ar_int (by decide +kernel) ?_
  refine ct_putR (ci := 0) (N := 7) 69 3 rfl (by decide +kernel) (by decide +kernel) (by decide +kernel) (by decide +kernel) (by decide +kernel) ?_
  refine sb_aload_n rfl ?_
  refine sb_bipush (v := 24) (by decide +kernel) ?_
  refine ct_newI (N := 24) 74 rfl (by decide +kernel) (by decide +kernel) (by decide +kernel) (by decide +kernel) ar_int (by decide +kernel) ?_
  refine ct_putR (ci := 0) (N := 7) 70 4 rfl (by decide +kernel) (by decide +kernel) (by decide +kernel) (by decide +kernel) (by decide +kernel) ?_
  refine sb_aload_n rfl ?_
  refine sb_bipush (v := 24) (by decide +kernel) ?_
  refine ct_newI (N := 24) 75 rfl (by decide +kernel) (by decide +kernel) (by decide +kernel) (by decide +kernel) ar_int (by decide +kernel) ?_
  refine ct_putR (ci := 0) (N := 7) 71 5 rfl (by decide +kernel) (by decide +kernel) (by decide +kernel) (by decide +kernel) (by decide +kernel) ?_
  refine sb_aload_n rfl ?_
  refine sb_bipush (v := 24) (by decide +kernel) ?_
  refine ct_newI (N := 24) 76 rfl (by decide +kernel) (by decide +kernel) (by decide +kernel) (by decide +kernel) ar_int (by decide +kernel) ?_
  refine ct_putR (ci := 0) (N := 7) 72 6 rfl (by decide +kernel) (by decide +kernel) (by decide +kernel) (by decide +kernel) (by decide +kernel) ?_
  refine sb_return ?_
  exact rfl
set_option maxRecDepth 20000 in
theorem cX10_init_63 {P : Px} : EX P 2 kX10_init [.ref 63, .int 0, .int 0] (T 8 61 64) (none, T 10 75 78) := by
  refine ex_of oX10_init (Nat.le_of_ble_eq_true rfl) ?_
  show RN P 2 kX10_init 0 [(0, .ref 63), (1, .int 0), (2, .int 0)] [] (T 8 61 64) (none, T 10 75 78)
  refine sb_in [(0, .aload_n 0, 1), (1, .invokespecial 3, 3), (4, .aload_n 0, 1), (5, .new 9, 3), (8, .dup, 1), (9, .invokespecial 11, 3), (12, .putfield 12, 3), (15, .aload_n 0, 1), (16, .new 18, 3), (19, .dup, 1), (20, .invokespecial 20, 3), (23, .putfield 21, 3), (26, .aload_n 0, 1), (27, .bipush 7, 2), (29, .newarray .int, 2), (31, .putfield 25, 3), (34, .aload_n 0, 1), (35, .bipush 99, 2), (37, .putfield 29, 3), (40, .aload_n 0, 1), (41, .iload_n 1, 1), (42, .putfield 33, 3), (45, .aload_n 0, 1), (46, .iload_n 2, 1), (47, .ifCond .eq 9, 3)] 50 (by decide +kernel) ?_
  refine sb_aload_n rfl ?_
  refine sb_obj (rnIn1 (List.mem_of_getElem? (i := 36) rfl)) ctO1 ctO2 (by decide) rfl ?_
  refine sb_aload_n rfl ?_
  refine ct_new (ci := 1) (N := 6) 65 rfl (by decide +kernel) (by decide +kernel) (by decide +kernel) (by decide +kernel) (by decide +kernel) ?_
  refine sb_dup rfl ?_
  refine sb_callIN 0 rfl oX1_init ln10_11 vX1_init rfl rfl (rnCk_of (by decide +kernel) rfl) cX1_init_64 ?_
  refine ct_putR (ci := 10) (N := 14) 67 0 rfl (by decide +kernel) (by decide +kernel) (by decide +kernel) (by decide +kernel) (by decide +kernel) ?_
  refine sb_aload_n rfl ?_
  refine ct_new (ci := 0) (N := 7) 71 rfl (by decide +kernel) (by decide +kernel) (by decide +kernel) (by decide +kernel) (by decide +kernel) ?_
  refine sb_dup rfl ?_
  refine sb_callIN 0 rfl oX0_init ln10_20 vX0_init rfl rfl (rnCk_of (by decide +kernel) rfl) cX0_init_70 ?_
  refine ct_putR (ci := 10) (N := 14) 73 1 rfl (by decide +kernel) (by decide +kernel) (by decide +kernel) (by decide +kernel) (by decide +kernel) ?_
  refine sb_aload_n rfl ?_
  refine sb_bipush (v := 7) (by decide +kernel) ?_
  refine ct_newI (N := 7) 77 rfl (by decide +kernel) (by decide +kernel) (by decide +kernel) (by decide +kernel) ar_int (by decide +kernel) ?_
  refine ct_putR (ci := 10) (N := 14) 74 2 rfl (by decide +kernel) (by decide +kernel) (by decide +kernel) (by decide +kernel) (by decide +kernel) ?_
  refine sb_aload_n rfl ?_
  refine sb_bipush (v := 99) (by decide +kernel) ?_
  refine ct_putI (ci := 10) (N := 14) 9 5 rfl (by decide +kernel) (by decide +kernel) (by decide +kernel) (by decide +kernel) (by decide +kernel) (by decide +kernel) ?_
  refine sb_aload_n rfl ?_
  refine sb_iload_n rfl ?_
  refine ct_putI (ci := 10) (N := 14) 10 13 rfl (by decide +kernel) (by decide +kernel) (by decide +kernel) (by decide +kernel) (by decide +kernel) (by decide +kernel) ?_
  refine sb_aload_n rfl ?_
  refine sb_iload_n rfl ?_
  refine sb_if_eq_t 56 (by decide) (by decide) ?_
  refine sb_in [(56, .iconst 0, 1), (57, .newarray .int, 2), (59, .putfield 37, 3), (62, .return_, 1)] 63 (by decide +kernel) ?_
  refine sb_iconst (v := 0) (by decide +kernel) ?_
  refine ct_newI (N := 0) 78 rfl (by decide +kernel) (by decide +kernel) (by decide +kernel) (by decide +kernel) ar_int (by decide +kernel) ?_
  refine ct_putR (ci := 10) (N := 14) 75 3 rfl (by decide +kernel) (by decide +kernel) (by decide +kernel) (by decide +kernel) (by decide +kernel) ?_
  refine sb_return ?_
  exact rfl
set_option maxRecDepth 20000 in
theorem cX1_init_79 {P : Px} : EX P 1 kX1_init [.ref 79] (T 10 76 80) (none, T 10 81 85) := by
  refine ex_of oX1_init (Nat.le_of_ble_eq_true rfl) ?_
  show RN P 1 kX1_init 0 [(0, .ref 79)] [] (T 10 76 80) (none, T 10 81 85)
  refine sb_in [(0, .aload_n 0, 1), (1, .invokespecial 3, 3), (4, .aload_n 0, 1), (5, .bipush 12, 2), (7, .newarray .int, 2), (9, .putfield 9, 3), (12, .aload_n 0, 1), (13, .bipush 12, 2), (15, .newarray .int, 2), (17, .putfield 15, 3), (20, .aload_n 0, 1), (21, .bipush 12, 2), (23, .newarray .int, 2), (25, .putfield 18, 3), (28, .aload_n 0, 1), (29, .bipush 12, 2), (31, .newarray .int, 2), (33, .putfield 21, 3), (36, .aload_n 0, 1), (37, .bipush 12, 2), (39, .newarray .int, 2), (41, .putfield 24, 3), (44, .return_, 1)] 45 (by decide +kernel) ?_
  refine sb_aload_n rfl ?_
  refine sb_obj (rnIn1 (List.mem_of_getElem? (i := 42) rfl)) ctO1 ctO2 (by decide) rfl ?_
  refine sb_aload_n rfl ?_
  refine sb_bipush (v := 12) (by decide +kernel) ?_
  refine ct_newI (N := 12) 81 rfl (by decide +kernel) (by decide +kernel) (by decide +kernel) (by decide +kernel) ar_int (by decide +kernel) ?_
  refine ct_putR (ci := 1) (N := 6) 77 1 rfl (by decide +kernel) (by decide +kernel) (by decide +kernel) (by decide +kernel) (by decide +kernel) ?_
  refine sb_aload_n rfl ?_
  refine sb_bipush (v := 12) (by decide +kernel) ?_
  refine ct_newI (N := 12) 82 rfl (by decide +kernel) (by decide +kernel) (by decide +kernel) (by decide +kernel) ar_int (by decide +kernel) ?_
  refine ct_putR (ci := 1) (N := 6) 78 2 rfl (by decide +kernel) (by decide +kernel) (by decide +kernel) (by decide +kernel) (by decide +kernel) ?_
  refine sb_aload_n rfl ?_
  refine sb_bipush (v := 12) (by decide +kernel) ?_
  refine ct_newI (N := 12) 83 rfl (by decide +kernel) (by decide +kernel) (by decide +kernel) (by decide +kernel) ar_int (by decide +kernel) ?_
  refine ct_putR (ci := 1) (N := 6) 79 3 rfl (by decide +kernel) (by decide +kernel) (by decide +kernel) (by decide +kernel) (by decide +kernel) ?_
  refine sb_aload_n rfl ?_
  refine sb_bipush (v := 12) (by decide +kernel) ?_
  refine ct_newI (N := 12) 84 rfl (by decide +kernel) (by decide +kernel) (by decide +kernel) (by decide +kernel) ar_int (by decide +kernel) ?_
  refine ct_putR (ci := 1) (N := 6) 80 4 rfl (by decide +kernel) (by decide +kernel) (by decide +kernel) (by decide +kernel) (by decide +kernel) ?_
  refine sb_aload_n rfl ?_
  refine sb_bipush (v := 12) (by decide +kernel) ?_
  refine ct_newI (N := 12) 85 rfl (by decide +kernel) (by decide +kernel) (by decide +kernel) (by decide +kernel) ar_int (by decide +kernel) ?_
  refine ct_putR (ci := 1) (N := 6) 81 5 rfl (by decide +kernel) (by decide +kernel) (by decide +kernel) (by decide +kernel) (by decide +kernel) ?_
  refine sb_return ?_
  exact rfl
set_option maxRecDepth 20000 in
theorem cX0_init_85 {P : Px} : EX P 1 kX0_init [.ref 85] (T 10 82 86) (none, T 10 87 91) := by
  refine ex_of oX0_init (Nat.le_of_ble_eq_true rfl) ?_
  show RN P 1 kX0_init 0 [(0, .ref 85)] [] (T 10 82 86) (none, T 10 87 91)
  refine sb_in [(0, .aload_n 0, 1), (1, .invokespecial 3, 3), (4, .aload_n 0, 1), (5, .bipush 24, 2), (7, .newarray .int, 2), (9, .putfield 9, 3), (12, .aload_n 0, 1), (13, .bipush 24, 2), (15, .newarray .int, 2), (17, .putfield 15, 3), (20, .aload_n 0, 1), (21, .bipush 24, 2), (23, .newarray .int, 2), (25, .putfield 18, 3), (28, .aload_n 0, 1), (29, .bipush 24, 2), (31, .newarray .int, 2), (33, .putfield 21, 3), (36, .aload_n 0, 1), (37, .bipush 24, 2), (39, .newarray .int, 2), (41, .putfield 24, 3), (44, .return_, 1)] 45 (by decide +kernel) ?_
  refine sb_aload_n rfl ?_
  refine sb_obj (rnIn1 (List.mem_of_getElem? (i := 79) rfl)) ctO1 ctO2 (by decide) rfl ?_
  refine sb_aload_n rfl ?_
  refine sb_bipush (v := 24) (by decide +kernel) ?_
  refine ct_newI (N := 24) 87 rfl (by decide +kernel) (by decide +kernel) (by decide +kernel) (by decide +kernel) ar_int (by decide +kernel) ?_
  refine ct_putR (ci := 0) (N := 7) 83 2 rfl (by decide +kernel) (by decide +kernel) (by decide +kernel) (by decide +kernel) (by decide +kernel) ?_
  refine sb_aload_n rfl ?_
  refine sb_bipush (v := 24) (by decide +kernel) ?_
  refine ct_newI (N := 24) 88 rfl (by decide +kernel) (by decide +kernel) (by decide +kernel) (by decide +kernel) ar_int (by decide +kernel) ?_
  refine ct_putR (ci := 0) (N := 7) 84 3 rfl (by decide +kernel) (by decide +kernel) (by decide +kernel) (by decide +kernel) (by decide +kernel) ?_
  refine sb_aload_n rfl ?_
  refine sb_bipush (v := 24) (by decide +kernel) ?_
  refine ct_newI (N := 24) 89 rfl (by decide +kernel) (by decide +kernel) (by decide +kernel) (by decide +kernel) ar_int (by decide +kernel) ?_
  refine ct_putR (ci := 0) (N := 7) 85 4 rfl (by decide +kernel) (by decide +kernel) (by decide +kernel) (by decide +kernel) (by decide +kernel) ?_
  refine sb_aload_n rfl ?_
  refine sb_bipush (v := 24) (by decide +kernel) ?_
  refine ct_newI (N := 24) 90 rfl (by decide +kernel) (by decide +kernel) (by decide +kernel) (by decide +kernel) ar_int (by decide +kernel) ?_
  refine ct_putR (ci := 0) (N := 7) 86 5 rfl (by decide +kernel) (by decide +kernel) (by decide +kernel) (by decide +kernel) (by decide +kernel) ?_
  refine sb_aload_n rfl ?_
  refine sb_bipush (v := 24) (by decide +kernel) ?_
  refine ct_newI (N := 24) 91 rfl (by decide +kernel) (by decide +kernel) (by decide +kernel) (by decide +kernel) ar_int (by decide +kernel) ?_
  refine ct_putR (ci := 0) (N := 7) 87 6 rfl (by decide +kernel) (by decide +kernel) (by decide +kernel) (by decide +kernel) (by decide +kernel) ?_
  refine sb_return ?_
  exact rfl
set_option maxRecDepth 20000 in
theorem cX10_init_78 {P : Px} : EX P 2 kX10_init [.ref 78, .int 0, .int 0] (T 10 76 79) (none, T 12 90 93) := by
  refine ex_of oX10_init (Nat.le_of_ble_eq_true rfl) ?_
  show RN P 2 kX10_init 0 [(0, .ref 78), (1, .int 0), (2, .int 0)] [] (T 10 76 79) (none, T 12 90 93)
  refine sb_in [(0, .aload_n 0, 1), (1, .invokespecial 3, 3), (4, .aload_n 0, 1), (5, .new 9, 3), (8, .dup, 1), (9, .invokespecial 11, 3), (12, .putfield 12, 3), (15, .aload_n 0, 1), (16, .new 18, 3), (19, .dup, 1), (20, .invokespecial 20, 3), (23, .putfield 21, 3), (26, .aload_n 0, 1), (27, .bipush 7, 2), (29, .newarray .int, 2), (31, .putfield 25, 3), (34, .aload_n 0, 1), (35, .bipush 99, 2), (37, .putfield 29, 3), (40, .aload_n 0, 1), (41, .iload_n 1, 1), (42, .putfield 33, 3), (45, .aload_n 0, 1), (46, .iload_n 2, 1), (47, .ifCond .eq 9, 3)] 50 (by decide +kernel) ?_
  refine sb_aload_n rfl ?_
  refine sb_obj (rnIn1 (List.mem_of_getElem? (i := 36) rfl)) ctO1 ctO2 (by decide) rfl ?_
  refine sb_aload_n rfl ?_
  refine ct_new (ci := 1) (N := 6) 80 rfl (by decide +kernel) (by decide +kernel) (by decide +kernel) (by decide +kernel) (by decide +kernel) ?_
  refine sb_dup rfl ?_
  refine sb_callIN 0 rfl oX1_init ln10_11 vX1_init rfl rfl (rnCk_of (by decide +kernel) rfl) cX1_init_79 ?_
  refine ct_putR (ci := 10) (N := 14) 82 0 rfl (by decide +kernel) (by decide +kernel) (by decide +kernel) (by decide +kernel) (by decide +kernel) ?_
  refine sb_aload_n rfl ?_
  refine ct_new (ci := 0) (N := 7) 86 rfl (by decide +kernel) (by decide +kernel) (by decide +kernel) (by decide +kernel) (by decide +kernel) ?_
  refine sb_dup rfl ?_
  refine sb_callIN 0 rfl oX0_init ln10_20 vX0_init rfl rfl (rnCk_of (by decide +kernel) rfl) cX0_init_85 ?_
  refine ct_putR (ci := 10) (N := 14) 88 1 rfl (by decide +kernel) (by decide +kernel) (by decide +kernel) (by decide +kernel) (by decide +kernel) ?_
  refine sb_aload_n rfl ?_
  refine sb_bipush (v := 7) (by decide +kernel) ?_
  refine ct_newI (N := 7) 92 rfl (by decide +kernel) (by decide +kernel) (by decide +kernel) (by decide +kernel) ar_int (by decide +kernel) ?_
  refine ct_putR (ci := 10) (N := 14) 89 2 rfl (by decide +kernel) (by decide +kernel) (by decide +kernel) (by decide +kernel) (by decide +kernel) ?_
  refine sb_aload_n rfl ?_
  refine sb_bipush (v := 99) (by decide +kernel) ?_
  refine ct_putI (ci := 10) (N := 14) 11 5 rfl (by decide +kernel) (by decide +kernel) (by decide +kernel) (by decide +kernel) (by decide +kernel) (by decide +kernel) ?_
  refine sb_aload_n rfl ?_
  refine sb_iload_n rfl ?_
  refine ct_putI (ci := 10) (N := 14) 12 13 rfl (by decide +kernel) (by decide +kernel) (by decide +kernel) (by decide +kernel) (by decide +kernel) (by decide +kernel) ?_
  refine sb_aload_n rfl ?_
  refine sb_iload_n rfl ?_
  refine sb_if_eq_t 56 (by decide) (by decide) ?_
  refine sb_in [(56, .iconst 0, 1), (57, .newarray .int, 2), (59, .putfield 37, 3), (62, .return_, 1)] 63 (by decide +kernel) ?_
  refine sb_iconst (v := 0) (by decide +kernel) ?_
  refine ct_newI (N := 0) 93 rfl (by decide +kernel) (by decide +kernel) (by decide +kernel) (by decide +kernel) ar_int (by decide +kernel) ?_
  refine ct_putR (ci := 10) (N := 14) 90 3 rfl (by decide +kernel) (by decide +kernel) (by decide +kernel) (by decide +kernel) (by decide +kernel) ?_
  refine sb_return ?_
  exact rfl
set_option maxRecDepth 20000 in
theorem cX1_init_94 {P : Px} : EX P 1 kX1_init [.ref 94] (T 12 91 95) (none, T 12 96 100) := by
  refine ex_of oX1_init (Nat.le_of_ble_eq_true rfl) ?_
  show RN P 1 kX1_init 0 [(0, .ref 94)] [] (T 12 91 95) (none, T 12 96 100)
  refine sb_in [(0, .aload_n 0, 1), (1, .invokespecial 3, 3), (4, .aload_n 0, 1), (5, .bipush 12, 2), (7, .newarray .int, 2), (9, .putfield 9, 3), (12, .aload_n 0, 1), (13, .bipush 12, 2), (15, .newarray .int, 2), (17, .putfield 15, 3), (20, .aload_n 0, 1), (21, .bipush 12, 2), (23, .newarray .int, 2), (25, .putfield 18, 3), (28, .aload_n 0, 1), (29, .bipush 12, 2), (31, .newarray .int, 2), (33, .putfield 21, 3), (36, .aload_n 0, 1), (37, .bipush 12, 2), (39, .newarray .int, 2), (41, .putfield 24, 3), (44, .return_, 1)] 45 (by decide +kernel) ?_
  refine sb_aload_n rfl ?_
  refine sb_obj (rnIn1 (List.mem_of_getElem? (i := 42) rfl)) ctO1 ctO2 (by decide) rfl ?_
  refine sb_aload_n rfl ?_
  refine sb_bipush (v := 12) (by decide +kernel) ?_
  refine ct_newI (N := 12) 96 rfl (by decide +kernel) (by decide +kernel) (by decide +kernel) (by decide +kernel) ar_int (by decide +kernel) ?_
  refine ct_putR (ci := 1) (N := 6) 92 1 rfl (by decide +kernel) (by decide +kernel) (by decide +kernel) (by decide +kernel) (by decide +kernel) ?_
  refine sb_aload_n rfl ?_
  refine sb_bipush (v := 12) (by decide +kernel) ?_
  refine ct_newI (N := 12) 97 rfl (by decide +kernel) (by decide +kernel) (by decide +kernel) (by decide +kernel) ar_int (by decide +kernel) ?_
  refine ct_putR (ci := 1) (N := 6) 93 2 rfl (by decide +kernel) (by decide +kernel) (by decide +kernel) (by decide +kernel) (by decide +kernel) ?_
  refine sb_aload_n rfl ?_
  refine sb_bipush (v := 12) (by decide +kernel) ?_
  refine ct_newI (N := 12) 98 rfl (by decide +kernel) (by decide +kernel) (by decide +kernel) (by decide +kernel) ar_int (by decide +kernel) ?_
  refine ct_putR (ci := 1) (N := 6) 94 3 rfl (by decide +kernel) (by decide +kernel) (by decide +kernel) (by decide +kernel) (by decide +kernel) ?_
  refine sb_aload_n rfl ?_
  refine sb_bipush (v := 12) (by decide +kernel) ?_
  refine ct_newI (N := 12) 99 rfl (by decide +kernel) (by decide +kernel) (by decide +kernel) (by decide +kernel) ar_int (by decide +kernel) ?_
  refine ct_putR (ci := 1) (N := 6) 95 4 rfl (by decide +kernel) (by decide +kernel) (by decide +kernel) (by decide +kernel) (by decide +kernel) ?_
  refine sb_aload_n rfl ?_
  refine sb_bipush (v := 12) (by decide +kernel) ?_
  refine ct_newI (N := 12) 100 rfl (by decide +kernel) (by decide +kernel) (by decide +kernel) (by decide +kernel) ar_int (by decide +kernel) ?_
  refine ct_putR (ci := 1) (N := 6) 96 5 rfl (by decide +kernel) (by decide +kernel) (by decide +kernel) (by decide +kernel) (by decide +kernel) ?_
  refine sb_return ?_
  exact rfl
set_option maxRecDepth 20000 in
theorem cX0_init_100 {P : Px} : EX P 1 kX0_init [.ref 100] (T 12 97 101) (none, T 12 102 106) := by
  refine ex_of oX0_init (Nat.le_of_ble_eq_true rfl) ?_
  show RN P 1 kX0_init 0 [(0, .ref 100)] [] (T 12 97 101) (none, T 12 102 106)
  refine sb_in [(0, .aload_n 0, 1), (1, .invokespecial 3, 3), (4, .aload_n 0, 1), (5, .bipush 24, 2), (7, .newarray .int, 2), (9, .putfield 9, 3), (12, .aload_n 0, 1), (13, .bipush 24, 2), (15, .newarray .int, 2), (17, .putfield 15, 3), (20, .aload_n 0, 1), (21, .bipush 24, 2), (23, .newarray .int, 2), (25, .putfield 18, 3), (28, .aload_n 0, 1), (29, .bipush 24, 2), (31, .newarray .int, 2), (33, .putfield 21, 3), (36, .aload_n 0, 1), (37, .bipush 24, 2), (39, .newarray .int, 2), (41, .putfield 24, 3), (44, .return_, 1)] 45 (by decide +kernel) ?_
  refine sb_aload_n rfl ?_
  refine sb_obj (rnIn1 (List.mem_of_getElem? (i := 79) rfl)) ctO1 ctO2 (by decide) rfl ?_
  refine sb_aload_n rfl ?_
  refine sb_bipush (v := 24) (by decide +kernel) ?_
  refine ct_newI (N := 24) 102 rfl (by decide +kernel) (by decide +kernel) (by decide +kernel) (by decide +kernel) ar_int (by decide +kernel) ?_
  refine ct_putR (ci := 0) (N := 7) 98 2 rfl (by decide +kernel) (by decide +kernel) (by decide +kernel) (by decide +kernel) (by decide +kernel) ?_
  refine sb_aload_n rfl ?_
  refine sb_bipush (v := 24) (by decide +kernel) ?_
  refine ct_newI (N := 24) 103 rfl (by decide +kernel) (by decide +kernel) (by decide +kernel) (by decide +kernel) ar_int (by decide +kernel) ?_
  refine ct_putR (ci := 0) (N := 7) 99 3 rfl (by decide +kernel) (by decide +kernel) (by decide +kernel) (by decide +kernel) (by decide +kernel) ?_
  refine sb_aload_n rfl ?_
  refine sb_bipush (v := 24) (by decide +kernel) ?_
  refine ct_newI (N := 24) 104 rfl (by decide +kernel) (by decide +kernel) (by decide +kernel) (by decide +kernel) ar_int (by decide +kernel) ?_
  refine ct_putR (ci := 0) (N := 7) 100 4 rfl (by decide +kernel) (by decide +kernel) (by decide +kernel) (by decide +kernel) (by decide +kernel) ?_
  refine sb_aload_n rfl ?_
  refine sb_bipush (v := 24) (by decide +kernel) ?_
  refine ct_newI (N := 24) 105 rfl (by decide +kernel) (by decide +kernel) (by decide +kernel) (by decide +kernel) ar_int (by decide +kernel) ?_
  refine ct_putR (ci := 0) (N := 7) 101 5 rfl (by decide +kernel) (by decide +kernel) (by decide +kernel) (by decide +kernel) (by decide +kernel) ?_
  refine sb_aload_n rfl ?_
  refine sb_bipush (v := 24) (by decide +kernel) ?_
  refine ct_newI (N := 24) 106 rfl (by decide +kernel) (by decide +kernel) (by decide +kernel) (by decide +kernel) ar_int (by decide +kernel) ?_
  refine ct_putR (ci := 0) (N := 7) 102 6 rfl (by decide +kernel) (by decide +kernel) (by decide +kernel) (by decide +kernel) (by decide +kernel) ?_
  refine sb_return ?_
  exact rfl
set_option maxRecDepth 20000 in
theorem cX10_init_93 {P : Px} : EX P 2 kX10_init [.ref 93, .int 0, .int 0] (T 12 91 94) (none, T 14 105 108) := by
  refine ex_of oX10_init (Nat.le_of_ble_eq_true rfl) ?_
  show RN P 2 kX10_init 0 [(0, .ref 93), (1, .int 0), (2, .int 0)] [] (T 12 91 94) (none, T 14 105 108)
  refine sb_in [(0, .aload_n 0, 1), (1, .invokespecial 3, 3), (4, .aload_n 0, 1), (5, .new 9, 3), (8, .dup, 1), (9, .invokespecial 11, 3), (12, .putfield 12, 3), (15, .aload_n 0, 1), (16, .new 18, 3), (19, .dup, 1), (20, .invokespecial 20, 3), (23, .putfield 21, 3), (26, .aload_n 0, 1), (27, .bipush 7, 2), (29, .newarray .int, 2), (31, .putfield 25, 3), (34, .aload_n 0, 1), (35, .bipush 99, 2), (37, .putfield 29, 3), (40, .aload_n 0, 1), (41, .iload_n 1, 1), (42, .putfield 33, 3), (45, .aload_n 0, 1), (46, .iload_n 2, 1), (47, .ifCond .eq 9, 3)] 50 (by decide +kernel) ?_
  refine sb_aload_n rfl ?_
  refine sb_obj (rnIn1 (List.mem_of_getElem? (i := 36) rfl)) ctO1 ctO2 (by decide) rfl ?_
  refine sb_aload_n rfl ?_
  refine ct_new (ci := 1) (N := 6) 95 rfl (by decide +kernel) (by decide +kernel) (by decide +kernel) (by decide +kernel) (by decide +kernel) ?_
  refine sb_dup rfl ?_
  refine sb_callIN 0 rfl oX1_init ln10_11 vX1_init rfl rfl (rnCk_of (by decide +kernel) rfl) cX1_init_94 ?_
  refine ct_putR (ci := 10) (N := 14) 97 0 rfl (by decide +kernel) (by decide +kernel) (by decide +kernel) (by decide +kernel) (by decide +kernel) ?_
  refine sb_aload_n rfl ?_
  refine ct_new (ci := 0) (N := 7) 101 rfl (by decide +kernel) (by decide +kernel) (by decide +kernel) (by decide +kernel) (by decide +kernel) ?_
  refine sb_dup rfl ?_
  refine sb_callIN 0 rfl oX0_init ln10_20 vX0_init rfl rfl (rnCk_of (by decide +kernel) rfl) cX0_init_100 ?_
  refine ct_putR (ci := 10) (N := 14) 103 1 rfl (by decide +kernel) (by decide +kernel) (by decide +kernel) (by decide +kernel) (by decide +kernel) ?_
  refine sb_aload_n rfl ?_
  refine sb_bipush (v := 7) (by decide +kernel) ?_
  refine ct_newI (N := 7) 107 rfl (by decide +kernel) (by decide +kernel) (by decide +kernel) (by decide +kernel) ar_int (by decide +kernel) ?_
  refine ct_putR (ci := 10) (N := 14) 104 2 rfl (by decide +kernel) (by decide +kernel) (by decide +kernel) (by decide +kernel) (by decide +kernel) ?_
  refine sb_aload_n rfl ?_
  refine sb_bipush (v := 99) (by decide +kernel) ?_
  refine ct_putI (ci := 10) (N := 14) 13 5 rfl (by decide +kernel) (by decide +kernel) (by decide +kernel) (by decide +kernel) (by decide +kernel) (by decide +kernel) ?_
  refine sb_aload_n rfl ?_
  refine sb_iload_n rfl ?_
  refine ct_putI (ci := 10) (N := 14) 14 13 rfl (by decide +kernel) (by decide +kernel) (by decide +kernel) (by decide +kernel) (by decide +kernel) (by decide +kernel) ?_
  refine sb_aload_n rfl ?_
  refine sb_iload_n rfl ?_
  refine sb_if_eq_t 56 (by decide) (by decide) ?_
  refine sb_in [(56, .iconst 0, 1), (57, .newarray .int, 2), (59, .putfield 37, 3), (62, .return_, 1)] 63 (by decide +kernel) ?_
  refine sb_iconst (v := 0) (by decide +kernel) ?_
  refine ct_newI (N := 0) 108 rfl (by decide +kernel) (by decide +kernel) (by decide +kernel) (by decide +kernel) ar_int (by decide +kernel) ?_
  refine ct_putR (ci := 10) (N := 14) 105 3 rfl (by decide +kernel) (by decide +kernel) (by decide +kernel) (by decide +kernel) (by decide +kernel) ?_
  refine sb_return ?_
  exact rfl
set_option maxRecDepth 20000 in
theorem cX1_init_109 {P : Px} : EX P 1 kX1_init [.ref 109] (T 14 106 110) (none, T 14 111 115) := by
  refine ex_of oX1_init (Nat.le_of_ble_eq_true rfl) ?_
  show RN P 1 kX1_init 0 [(0, .ref 109)] [] (T 14 106 110) (none, T 14 111 115)
  refine sb_in [(0, .aload_n 0, 1), (1, .invokespecial 3, 3), (4, .aload_n 0, 1), (5, .bipush 12, 2), (7, .newarray .int, 2), (9, .putfield 9, 3), (12, .aload_n 0, 1), (13, .bipush 12, 2), (15, .newarray .int, 2), (17, .putfield 15, 3), (20, .aload_n 0, 1), (21, .bipush 12, 2), (23, .newarray .int, 2), (25, .putfield 18, 3), (28, .aload_n 0, 1), (29, .bipush 12, 2), (31, .newarray .int, 2), (33, .putfield 21, 3), (36, .aload_n 0, 1), (37, .bipush 12, 2), (39, .newarray .int, 2), (41, .putfield 24, 3), (44, .return_, 1)] 45 (by decide +kernel) ?_
  refine sb_aload_n rfl ?_
  refine sb_obj (rnIn1 (List.mem_of_getElem? (i := 42) rfl)) ctO1 ctO2 (by decide) rfl ?_
  refine sb_aload_n rfl ?_
  refine sb_bipush (v := 12) (by decide +kernel) ?_
  refine ct_newI (N := 12) 111 rfl (by decide +kernel) (by decide +kernel) (by decide +kernel) (by decide +kernel) ar_int (by decide +kernel) ?_
  refine ct_putR (ci := 1) (N := 6) 107 1 rfl (by decide +kernel) (by decide +kernel) (by decide +kernel) (by decide +kernel) (by decide +kernel) ?_
  refine sb_aload_n rfl ?_
  refine sb_bipush (v := 12) (by decide +kernel) ?_
  refine ct_newI (N := 12) 112 rfl (by decide +kernel) (by decide +kernel) (by decide +kernel) (by decide +kernel) ar_int (by decide +kernel) ?_
  refine ct_putR (ci := 1) (N := 6) 108 2 rfl (by decide +kernel) (by decide +kernel) (by decide +kernel) (by decide +kernel) (by decide +kernel) ?_
  refine sb_aload_n rfl ?_
  refine sb_bipush (v := 12) (by decide +kernel) ?_
  refine ct_newI (N := 12) 113 rfl (by decide +kernel) (by decide +kernel) (by decide +kernel) (by decide +kernel) ar_int (by decide +kernel) ?_
  refine ct_putR (ci := 1) (N := 6) 109 3 rfl (by decide +kernel) (by decide +kernel) (by decide +kernel) (by decide +kernel) (by decide +kernel) ?_
  refine sb_aload_n rfl ?_
  refine sb_bipush (v := 12) (by decide +kernel) ?_
  refine ct_newI (N := 12) 114 rfl (by decide +kernel) (by decide +kernel) (by decide +kernel) (by decide +kernel) ar_int (by decide +kernel) ?_
  refine ct_putR (ci := 1) (N := 6) 110 4 rfl (by decide +kernel) (by decide +kernel) (by decide +kernel) (by decide +kernel) (by decide +kernel) ?_
  refine sb_aload_n rfl ?_
  refine sb_bipush (v := 12) (by decide +kernel) ?_
  refine ct_newI (N := 12) 115 rfl (by decide +kernel) (by decide +kernel) (by decide +kernel) (by decide +kernel) ar_int (by decide +kernel) ?_
  refine ct_putR (ci := 1) (N := 6) 111 5 rfl (by decide +kernel) (by decide +kernel) (by decide +kernel) (by decide +kernel) (by decide +kernel) ?_
  refine sb_return ?_
  exact rfl
set_option maxRecDepth 20000 in
theorem cX0_init_115 {P : Px} : EX P 1 kX0_init [.ref 115] (T 14 112 116) (none, T 14 117 121) := by
  refine ex_of oX0_init (Nat.le_of_ble_eq_true rfl) ?_
  show RN P 1 kX0_init 0 [(0, .ref 115)] [] (T 14 112 116) (none, T 14 117 121)
  refine sb_in [(0, .aload_n 0, 1), (1, .invokespecial 3, 3), (4, .aload_n 0, 1), (5, .bipush 24, 2), (7, .newarray .int, 2), (9, .putfield 9, 3), (12, .aload_n 0, 1), (13, .bipush 24, 2), (15, .newarray .int, 2), (17, .putfield 15, 3), (20, .aload_n 0, 1), (21, .bipush 24, 2), (23, .newarray .int, 2), (25, .putfield 18, 3), (28, .aload_n 0, 1), (29, .bipush 24, 2), (31, .newarray .int, 2), (33, .putfield 21, 3), (36, .aload_n 0, 1), (37, .bipush 24, 2), (39, .newarray .int, 2), (41, .putfield 24, 3), (44, .return_, 1)] 45 (by decide +kernel) ?_
  refine sb_aload_n rfl ?_
  refine sb_obj (rnIn1 (List.mem_of_getElem? (i := 79) rfl)) ctO1 ctO2 (by decide) rfl ?_
  refine sb_aload_n rfl ?_
  refine sb_bipush (v := 24) (by decide +kernel) ?_
  refine ct_newI (N := 24) 117 rfl (by decide +kernel) (by decide +kernel) (by decide +kernel) (by decide +kernel) ar_int (by decide +kernel) ?_
  refine ct_putR (ci := 0) (N := 7) 113 2 rfl (by decide +kernel) (by decide +kernel) (by decide +kernel) (by decide +kernel) (by decide +kernel) ?_
  refine sb_aload_n rfl ?_
  refine sb_bipush (v := 24) (by decide +kernel) ?_
  refine ct_newI (N := 24) 118 rfl (by decide +kernel) (by decide +kernel) (by decide +kernel) (by decide +kernel) ar_int (by decide +kernel) ?_
  refine ct_putR (ci := 0) (N := 7) 114 3 rfl (by decide +kernel) (by decide +kernel) (by decide +kernel) (by decide +kernel) (by decide +kernel) ?_
  refine sb_aload_n rfl ?_
  refine sb_bipush (v := 24) (by decide +kernel) ?_
  refine ct_newI (N := 24) 119 rfl (by decide +kernel) (by decide +kernel) (by decide +kernel) (by decide +kernel) ar_int (by decide +kernel) ?_
  refine ct_putR (ci := 0) (N := 7) 115 4 rfl (by decide +kernel) (by decide +kernel) (by decide +kernel) (by decide +kernel) (by decide +kernel) ?_
  refine sb_aload_n rfl ?_
  refine sb_bipush (v := 24) (by decide +kernel) ?_
  refine ct_newI (N := 24) 120 rfl (by decide +kernel) (by decide +kernel) (by decide +kernel) (by decide +kernel) ar_int (by decide +kernel) ?_
  refine ct_putR (ci := 0) (N := 7) 116 5 rfl (by decide +kernel) (by decide +kernel) (by decide +kernel) (by decide +kernel) (by decide +kernel) ?_
  refine sb_aload_n rfl ?_
  refine sb_bipush (v := 24) (by decide +kernel) ?_
  refine ct_newI (N := 24) 121 rfl (by decide +kernel) (by decide +kernel) (by decide +kernel) (by decide +kernel) ar_int (by decide +kernel) ?_
  refine ct_putR (ci := 0) (N := 7) 117 6 rfl (by decide +kernel) (by decide +kernel) (by decide +kernel) (by decide +kernel) (by decide +kernel) ?_
  refine sb_return ?_
  exact rfl
set_option maxRecDepth 20000 in
theorem cX10_init_108 {P : Px} : EX P 2 kX10_init [.ref 108, .int 0, .int 0] (T 14 106 109) (none, T 16 120 123) := by
  refine ex_of oX10_init (Nat.le_of_ble_eq_true rfl) ?_
  show RN P 2 kX10_init 0 [(0, .ref 108), (1, .int 0), (2, .int 0)] [] (T 14 106 109) (none, T 16 120 123)
  refine sb_in [(0, .aload_n 0, 1), (1, .invokespecial 3, 3), (4, .aload_n 0, 1), (5, .new 9, 3), (8, .dup, 1), (9, .invokespecial 11, 3), (12, .putfield 12, 3), (15, .aload_n 0, 1), (16, .new 18, 3), (19, .dup, 1), (20, .invokespecial 20, 3), (23, .putfield 21, 3), (26, .aload_n 0, 1), (27, .bipush 7, 2), (29, .newarray .int, 2), (31, .putfield 25, 3), (34, .aload_n 0, 1), (35, .bipush 99, 2), (37, .putfield 29, 3), (40, .aload_n 0, 1), (41, .iload_n 1, 1), (42, .putfield 33, 3), (45, .aload_n 0, 1), (46, .iload_n 2, 1), (47, .ifCond .eq 9, 3)] 50 (by decide +kernel) ?_
  refine sb_aload_n rfl ?_
  refine sb_obj (rnIn1 (List.mem_of_getElem? (i := 36) rfl)) ctO1 ctO2 (by decide) rfl ?_
  refine sb_aload_n rfl ?_
  refine ct_new (ci := 1) (N := 6) 110 rfl (by decide +kernel) (by decide +kernel) (by decide +kernel) (by decide +kernel) (by decide +kernel) ?_
  refine sb_dup rfl ?_
  refine sb_callIN 0 rfl oX1_init ln10_11 vX1_init rfl rfl (rnCk_of (by decide +kernel) rfl) cX1_init_109 ?_
  refine ct_putR (ci := 10) (N := 14) 112 0 rfl (by decide +kernel) (by decide +kernel) (by decide +kernel) (by decide +kernel) (by decide +kernel) ?_
  refine sb_aload_n rfl ?_
  refine ct_new (ci := 0) (N := 7) 116 rfl (by decide +kernel) (by decide +kernel) (by decide +kernel) (by decide +kernel) (by decide +kernel) ?_
  refine sb_dup rfl ?_
  refine sb_callIN 0 rfl oX0_init ln10_20 vX0_init rfl rfl (rnCk_of (by decide +kernel) rfl) cX0_init_115 ?_
  refine ct_putR (ci := 10) (N := 14) 118 1 rfl (by decide +kernel) (by decide +kernel) (by decide +kernel) (by decide +kernel) (by decide +kernel) ?_
  refine sb_aload_n rfl ?_
  refine sb_bipush (v := 7) (by decide +kernel) ?_
  refine ct_newI (N := 7) 122 rfl (by decide +kernel) (by decide +kernel) (by decide +kernel) (by decide +kernel) ar_int (by decide +kernel) ?_
  refine ct_putR (ci := 10) (N := 14) 119 2 rfl (by decide +kernel) (by decide +kernel) (by decide +kernel) (by decide +kernel) (by decide +kernel) ?_
  refine sb_aload_n rfl ?_
  refine sb_bipush (v := 99) (by decide +kernel) ?_
  refine ct_putI (ci := 10) (N := 14) 15 5 rfl (by decide +kernel) (by decide +kernel) (by decide +kernel) (by decide +kernel) (by decide +kernel) (by decide +kernel) ?_
  refine sb_aload_n rfl ?_
  refine sb_iload_n rfl ?_
  refine ct_putI (ci := 10) (N := 14) 16 13 rfl (by decide +kernel) (by decide +kernel) (by decide +kernel) (by decide +kernel) (by decide +kernel) (by decide +kernel) ?_
  refine sb_aload_n rfl ?_
  refine sb_iload_n rfl ?_
  refine sb_if_eq_t 56 (by decide) (by decide) ?_
  refine sb_in [(56, .iconst 0, 1), (57, .newarray .int, 2), (59, .putfield 37, 3), (62, .return_, 1)] 63 (by decide +kernel) ?_
  refine sb_iconst (v := 0) (by decide +kernel) ?_
  refine ct_newI (N := 0) 123 rfl (by decide +kernel) (by decide +kernel) (by decide +kernel) (by decide +kernel) ar_int (by decide +kernel) ?_
  refine ct_putR (ci := 10) (N := 14) 120 3 rfl (by decide +kernel) (by decide +kernel) (by decide +kernel) (by decide +kernel) (by decide +kernel) ?_
  refine sb_return ?_
  exact rfl
set_option maxRecDepth 20000 in
theorem cX4_init_31 {P : Px} : EX P 3 kX4_init [.ref 31] (T 4 30 32) (none, T 16 121 123) := by
  refine ex_of oX4_init (Nat.le_of_ble_eq_true rfl) ?_
  show RN P 3 kX4_init 0 [(0, .ref 31)] [] (T 4 30 32) (none, T 16 121 123)
  refine sb_in [(0, .aload_n 0, 1), (1, .invokespecial 1, 3), (4, .aload_n 0, 1), (5, .bipush 6, 2), (7, .anewarray 9, 3), (10, .putfield 11, 3), (13, .iconst 0, 1), (14, .istore_n 1, 1), (15, .iload_n 1, 1), (16, .bipush 6, 2), (18, .if_icmp .ge 24, 3)] 21 (by decide +kernel) ?_
  refine sb_aload_n rfl ?_
  refine sb_obj (rnIn1 (List.mem_of_getElem? (i := 179) rfl)) ctO1 ctO2 (by decide) rfl ?_
  refine sb_aload_n rfl ?_
  refine sb_bipush (v := 6) (by decide +kernel) ?_
  refine ct_newW (N := 6) 33 rfl (by decide +kernel) (by decide +kernel) (by decide +kernel) (by decide +kernel) (by decide +kernel) (by decide +kernel) ?_
  refine ct_putR (ci := 4) (N := 3) 31 2 rfl (by decide +kernel) (by decide +kernel) (by decide +kernel) (by decide +kernel) (by decide +kernel) ?_
  refine sb_iconst (v := 0) (by decide +kernel) ?_
  refine sb_istore_n (by decide) rfl ?_
  refine sb_iload_n rfl ?_
  refine sb_bipush (v := 6) (by decide +kernel) ?_
  refine sb_icmp_ge_f 42 (by decide) (by decide) ?_
  refine sb_in [(21, .aload_n 0, 1), (22, .getfield 11, 3), (25, .iload_n 1, 1), (26, .new 9, 3), (29, .dup, 1), (30, .iconst 0, 1), (31, .iconst 0, 1), (32, .invokespecial 15, 3), (35, .aastore, 1), (36, .iinc 1 1, 3), (39, .goto (-24), 3)] 42 (by decide +kernel) ?_
  refine sb_aload_n rfl ?_
  refine sb_getR (ci := 4) (n := 3) (k := 2) (b := 32) (by decide +kernel) (by decide +kernel) (by decide +kernel) (by decide +kernel) (by decide +kernel) ?_
  refine sb_iload_n rfl ?_
  refine ct_new (ci := 10) (N := 14) 34 rfl (by decide +kernel) (by decide +kernel) (by decide +kernel) (by decide +kernel) (by decide +kernel) ?_
  refine sb_dup rfl ?_
  refine sb_iconst (v := 0) (by decide +kernel) ?_
  refine sb_iconst (v := 0) (by decide +kernel) ?_
  refine sb_callI 2 rfl oX10_init ln4_15 vX10_init rfl rfl (rnCk_of (by decide +kernel) rfl) cX10_init_33 ?_
  refine ct_aast (N := 6) (N2 := 14) 46 0 rfl (by decide +kernel) (by decide +kernel) (by decide +kernel) (by decide +kernel) (by decide +kernel) (by decide +kernel) (by decide +kernel) ?_
  refine ct_iinc 1 rfl (by decide) rfl (by decide +kernel) ?_
  refine sb_goto 15 (by decide) ?_
  refine sb_in [(15, .iload_n 1, 1), (16, .bipush 6, 2), (18, .if_icmp .ge 24, 3)] 21 (by decide +kernel) ?_
  refine sb_iload_n rfl ?_
  refine sb_bipush (v := 6) (by decide +kernel) ?_
  refine sb_icmp_ge_f 42 (by decide) (by decide) ?_
  refine sb_in [(21, .aload_n 0, 1), (22, .getfield 11, 3), (25, .iload_n 1, 1), (26, .new 9, 3), (29, .dup, 1), (30, .iconst 0, 1), (31, .iconst 0, 1), (32, .invokespecial 15, 3), (35, .aastore, 1), (36, .iinc 1 1, 3), (39, .goto (-24), 3)] 42 (by decide +kernel) ?_
  refine sb_aload_n rfl ?_
  refine sb_getR (ci := 4) (n := 3) (k := 2) (b := 32) (by decide +kernel) (by decide +kernel) (by decide +kernel) (by decide +kernel) (by decide +kernel) ?_
  refine sb_iload_n rfl ?_
  refine ct_new (ci := 10) (N := 14) 49 rfl (by decide +kernel) (by decide +kernel) (by decide +kernel) (by decide +kernel) (by decide +kernel) ?_
  refine sb_dup rfl ?_
  refine sb_iconst (v := 0) (by decide +kernel) ?_
  refine sb_iconst (v := 0) (by decide +kernel) ?_
  refine sb_callI 2 rfl oX10_init ln4_15 vX10_init rfl rfl (rnCk_of (by decide +kernel) rfl) cX10_init_48 ?_
  refine ct_aast (N := 6) (N2 := 14) 61 1 rfl (by decide +kernel) (by decide +kernel) (by decide +kernel) (by decide +kernel) (by decide +kernel) (by decide +kernel) (by decide +kernel) ?_
  refine ct_iinc 2 rfl (by decide) rfl (by decide +kernel) ?_
  refine sb_goto 15 (by decide) ?_
  refine sb_in [(15, .iload_n 1, 1), (16, .bipush 6, 2), (18, .if_icmp .ge 24, 3)] 21 (by decide +kernel) ?_
  refine sb_iload_n rfl ?_
  refine sb_bipush (v := 6) (by decide +kernel) ?_
  refine sb_icmp_ge_f 42 (by decide) (by decide) ?_
  refine sb_in [(21, .aload_n 0, 1), (22, .getfield 11, 3), (25, .iload_n 1, 1), (26, .new 9, 3), (29, .dup, 1), (30, .iconst 0, 1), (31, .iconst 0, 1), (32, .invokespecial 15, 3), (35, .aastore, 1), (36, .iinc 1 1, 3), (39, .goto (-24), 3)] 42 (by decide +kernel) ?_
  refine sb_aload_n rfl ?_
  refine sb_getR (ci := 4) (n := 3) (k := 2) (b := 32) (by decide +kernel) (by decide +kernel) (by decide +kernel) (by decide +kernel) (by decide +kernel) ?_
  refine sb_iload_n rfl ?_
  refine ct_new (ci := 10) (N := 14) 64 rfl (by decide +kernel) (by decide +kernel) (by decide +kernel) (by decide +kernel) (by decide +kernel) ?_
  refine sb_dup rfl ?_
  refine sb_iconst (v := 0) (by decide +kernel) ?_
  refine sb_iconst (v := 0) (by decide +kernel) ?_
  refine sb_callI 2 rfl oX10_init ln4_15 vX10_init rfl rfl (rnCk_of (by decide +kernel) rfl) cX10_init_63 ?_
  refine ct_aast (N := 6) (N2 := 14) 76 2 rfl (by decide +kernel) (by decide +kernel) (by decide +kernel) (by decide +kernel) (by decide +kernel) (by decide +kernel) (by decide +kernel) ?_
  refine ct_iinc 3 rfl (by decide) rfl (by decide +kernel) ?_
  refine sb_goto 15 (by decide) ?_
  refine sb_in [(15, .iload_n 1, 1), (16, .bipush 6, 2), (18, .if_icmp .ge 24, 3)] 21 (by decide +kernel) ?_
  refine sb_iload_n rfl ?_
  refine sb_bipush (v := 6) (by decide +kernel) ?_
  refine sb_icmp_ge_f 42 (by decide) (by decide) ?_
  refine sb_in [(21, .aload_n 0, 1), (22, .getfield 11, 3), (25, .iload_n 1, 1), (26, .new 9, 3), (29, .dup, 1), (30, .iconst 0, 1), (31, .iconst 0, 1), (32, .invokespecial 15, 3), (35, .aastore, 1), (36, .iinc 1 1, 3), (39, .goto (-24), 3)] 42 (by decide +kernel) ?_
  refine sb_aload_n rfl ?_
  refine sb_getR (ci := 4) (n := 3) (k := 2) (b := 32) (by decide +kernel) (by decide +kernel) (by decide +kernel) (by decide +kernel) (by decide +kernel) ?_
  refine sb_iload_n rfl ?_
  refine ct_new (ci := 10) (N := 14) 79 rfl (by decide +kernel) (by decide +kernel) (by decide +kernel) (by decide +kernel) (by decide +kernel) ?_
  refine sb_dup rfl ?_
  refine sb_iconst (v := 0) (by decide +kernel) ?_
  refine sb_iconst (v := 0) (by decide +kernel) ?_
  refine sb_callI 2 rfl oX10_init ln4_15 vX10_init rfl rfl (rnCk_of (by decide +kernel) rfl) cX10_init_78 ?_
  refine ct_aast (N := 6) (N2 := 14) 91 3 rfl (by decide +kernel) (by decide +kernel) (by decide +kernel) (by decide +kernel) (by decide +kernel) (by decide +kernel) (by decide +kernel) ?_
  refine ct_iinc 4 rfl (by decide) rfl (by decide +kernel) ?_
  refine sb_goto 15 (by decide) ?_
  refine sb_in [(15, .iload_n 1, 1), (16, .bipush 6, 2), (18, .if_icmp .ge 24, 3)] 21 (by decide +kernel) ?_
  refine sb_iload_n rfl ?_
  refine sb_bipush (v := 6) (by decide +kernel) ?_
  refine sb_icmp_ge_f 42 (by decide) (by decide) ?_
  refine sb_in [(21, .aload_n 0, 1), (22, .getfield 11, 3), (25, .iload_n 1, 1), (26, .new 9, 3), (29, .dup, 1), (30, .iconst 0, 1), (31, .iconst 0, 1), (32, .invokespecial 15, 3), (35, .aastore, 1), (36, .iinc 1 1, 3), (39, .goto (-24), 3)] 42 (by decide +kernel) ?_
  refine sb_aload_n rfl ?_
  refine sb_getR (ci := 4) (n := 3) (k := 2) (b := 32) (by decide +kernel) (by decide +kernel) (by decide +kernel) (by decide +kernel) (by decide +kernel) ?_
  refine sb_iload_n rfl ?_
  refine ct_new (ci := 10) (N := 14) 94 rfl (by decide +kernel) (by decide +kernel) (by decide +kernel) (by decide +kernel) (by decide +kernel) ?_
  refine sb_dup rfl ?_
  refine sb_iconst (v := 0) (by decide +kernel) ?_
  refine sb_iconst (v := 0) (by decide +kernel) ?_
  refine sb_callI 2 rfl oX10_init ln4_15 vX10_init rfl rfl (rnCk_of (by decide +kernel) rfl) cX10_init_93 ?_
  refine ct_aast (N := 6) (N2 := 14) 106 4 rfl (by decide +kernel) (by decide +kernel) (by decide +kernel) (by decide +kernel) (by decide +kernel) (by decide +kernel) (by decide +kernel) ?_
  refine ct_iinc 5 rfl (by decide) rfl (by decide +kernel) ?_
  refine sb_goto 15 (by decide) ?_
  refine sb_in [(15, .iload_n 1, 1), (16, .bipush 6, 2), (18, .if_icmp .ge 24, 3)] 21 (by decide +kernel) ?_
  refine sb_iload_n rfl ?_
  refine sb_bipush (v := 6) (by decide +kernel) ?_
  refine sb_icmp_ge_f 42 (by decide) (by decide) ?_
  refine sb_in [(21, .aload_n 0, 1), (22, .getfield 11, 3), (25, .iload_n 1, 1), (26, .new 9, 3), (29, .dup, 1), (30, .iconst 0, 1), (31, .iconst 0, 1), (32, .invokespecial 15, 3), (35, .aastore, 1), (36, .iinc 1 1, 3), (39, .goto (-24), 3)] 42 (by decide +kernel) ?_
  refine sb_aload_n rfl ?_
  refine sb_getR (ci := 4) (n := 3) (k := 2) (b := 32) (by decide +kernel) (by decide +kernel) (by decide +kernel) (by decide +kernel) (by decide +kernel) ?_
  refine sb_iload_n rfl ?_
  refine ct_new (ci := 10) (N := 14) 109 rfl (by decide +kernel) (by decide +kernel) (by decide +kernel) (by decide +kernel) (by decide +kernel) ?_
  refine sb_dup rfl ?_
  refine sb_iconst (v := 0) (by decide +kernel) ?_
  refine sb_iconst (v := 0) (by decide +kernel) ?_
  refine sb_callI 2 rfl oX10_init ln4_15 vX10_init rfl rfl (rnCk_of (by decide +kernel) rfl) cX10_init_108 ?_
  refine ct_aast (N := 6) (N2 := 14) 121 5 rfl (by decide +kernel) (by decide +kernel) (by decide +kernel) (by decide +kernel) (by decide +kernel) (by decide +kernel) (by decide +kernel) ?_
  refine ct_iinc 6 rfl (by decide) rfl (by decide +kernel) ?_
  refine sb_goto 15 (by decide) ?_
  refine sb_in [(15, .iload_n 1, 1), (16, .bipush 6, 2), (18, .if_icmp .ge 24, 3)] 21 (by decide +kernel) ?_
  refine sb_iload_n rfl ?_
  refine sb_bipush (v := 6) (by decide +kernel) ?_
  refine sb_icmp_ge_t 42 (by decide) (by decide) ?_
  refine sb_in [(42, .return_, 1)] 43 (by decide +kernel) ?_
  refine sb_return ?_
  exact rfl
set_option maxRecDepth 20000 in
theorem cX2_init_124 {P : Px} : EX P 1 kX2_init [.ref 124] (T 16 122 125) (none, T 16 129 132) := by
  refine ex_of oX2_init (Nat.le_of_ble_eq_true rfl) ?_
  show RN P 1 kX2_init 0 [(0, .ref 124)] [] (T 16 122 125) (none, T 16 129 132)
  refine sb_in [(0, .aload_n 0, 1), (1, .invokespecial 5, 3), (4, .aload_n 0, 1), (5, .bipush 16, 2), (7, .newarray .int, 2), (9, .putfield 11, 3), (12, .aload_n 0, 1), (13, .bipush 16, 2), (15, .newarray .int, 2), (17, .putfield 15, 3), (20, .aload_n 0, 1), (21, .bipush 16, 2), (23, .newarray .int, 2), (25, .putfield 18, 3), (28, .aload_n 0, 1), (29, .bipush 16, 2), (31, .newarray .int, 2), (33, .putfield 21, 3), (36, .aload_n 0, 1), (37, .sipush 400, 3), (40, .newarray .int, 2), (42, .putfield 24, 3), (45, .aload_n 0, 1), (46, .bipush 11, 2), (48, .newarray .int, 2), (50, .putfield 27, 3), (53, .aload_n 0, 1), (54, .bipush 32, 2), (56, .newarray .int, 2), (58, .putfield 30, 3), (61, .return_, 1)] 62 (by decide +kernel) ?_
  refine sb_aload_n rfl ?_
  refine sb_obj (rnIn1 (List.mem_of_getElem? (i := 205) rfl)) ctO1 ctO2 (by decide) rfl ?_
  refine sb_aload_n rfl ?_
  refine sb_bipush (v := 16) (by decide +kernel) ?_
  refine ct_newI (N := 16) 126 rfl (by decide +kernel) (by decide +kernel) (by decide +kernel) (by decide +kernel) ar_int (by decide +kernel) ?_
  refine ct_putR (ci := 2) (N := 9) 123 2 rfl (by decide +kernel) (by decide +kernel) (by decide +kernel) (by decide +kernel) (by decide +kernel) ?_
  refine sb_aload_n rfl ?_
  refine sb_bipush (v := 16) (by decide +kernel) ?_
  refine ct_newI (N := 16) 127 rfl (by decide +kernel) (by decide +kernel) (by decide +kernel) (by decide +kernel) ar_int (by decide +kernel) ?_
  refine ct_putR (ci := 2) (N := 9) 124 3 rfl (by decide +kernel) (by decide +kernel) (by decide +kernel) (by decide +kernel) (by decide +kernel) ?_
  refine sb_aload_n rfl ?_
  refine sb_bipush (v := 16) (by decide +kernel) ?_
  refine ct_newI (N := 16) 128 rfl (by decide +kernel) (by decide +kernel) (by decide +kernel) (by decide +kernel) ar_int (by decide +kernel) ?_
  refine ct_putR (ci := 2) (N := 9) 125 4 rfl (by decide +kernel) (by decide +kernel) (by decide +kernel) (by decide +kernel) (by decide +kernel) ?_
  refine sb_aload_n rfl ?_
  refine sb_bipush (v := 16) (by decide +kernel) ?_
  refine ct_newI (N := 16) 129 rfl (by decide +kernel) (by decide +kernel) (by decide +kernel) (by decide +kernel) ar_int (by decide +kernel) ?_
  refine ct_putR (ci := 2) (N := 9) 126 5 rfl (by decide +kernel) (by decide +kernel) (by decide +kernel) (by decide +kernel) (by decide +kernel) ?_
  refine sb_aload_n rfl ?_
  refine sb_sipush (v := 400) (by decide +kernel) ?_
  refine ct_newI (N := 400) 130 rfl (by decide +kernel) (by decide +kernel) (by decide +kernel) (by decide +kernel) ar_int (by decide +kernel) ?_
  refine ct_putR (ci := 2) (N := 9) 127 6 rfl (by decide +kernel) (by decide +kernel) (by decide +kernel) (by decide +kernel) (by decide +kernel) ?_
  refine sb_aload_n rfl ?_
  refine sb_bipush (v := 11) (by decide +kernel) ?_
  refine ct_newI (N := 11) 131 rfl (by decide +kernel) (by decide +kernel) (by decide +kernel) (by decide +kernel) ar_int (by decide +kernel) ?_
  refine ct_putR (ci := 2) (N := 9) 128 7 rfl (by decide +kernel) (by decide +kernel) (by decide +kernel) (by decide +kernel) (by decide +kernel) ?_
  refine sb_aload_n rfl ?_
  refine sb_bipush (v := 32) (by decide +kernel) ?_
  refine ct_newI (N := 32) 132 rfl (by decide +kernel) (by decide +kernel) (by decide +kernel) (by decide +kernel) ar_int (by decide +kernel) ?_
  refine ct_putR (ci := 2) (N := 9) 129 8 rfl (by decide +kernel) (by decide +kernel) (by decide +kernel) (by decide +kernel) (by decide +kernel) ?_
  refine sb_return ?_
  exact rfl
set_option maxRecDepth 20000 in
theorem cX6_init_123 {P : Px} : EX P 2 kX6_init [.ref 123] (T 16 122 124) (none, T 16 136 138) := by
  refine ex_of oX6_init (Nat.le_of_ble_eq_true rfl) ?_
  show RN P 2 kX6_init 0 [(0, .ref 123)] [] (T 16 122 124) (none, T 16 136 138)
  refine sb_in [(0, .aload_n 0, 1), (1, .invokespecial 3, 3), (4, .aload_n 0, 1), (5, .new 9, 3), (8, .dup, 1), (9, .invokespecial 11, 3), (12, .putfield 12, 3), (15, .aload_n 0, 1), (16, .bipush 16, 2), (18, .newarray .int, 2), (20, .putfield 18, 3), (23, .aload_n 0, 1), (24, .bipush 16, 2), (26, .newarray .int, 2), (28, .putfield 22, 3), (31, .aload_n 0, 1), (32, .bipush 16, 2), (34, .newarray .int, 2), (36, .putfield 25, 3), (39, .aload_n 0, 1), (40, .bipush 16, 2), (42, .newarray .int, 2), (44, .putfield 28, 3), (47, .aload_n 0, 1), (48, .bipush 16, 2), (50, .newarray .int, 2), (52, .putfield 31, 3), (55, .aload_n 0, 1), (56, .sipush 144, 3), (59, .newarray .int, 2), (61, .putfield 34, 3), (64, .return_, 1)] 65 (by decide +kernel) ?_
  refine sb_aload_n rfl ?_
  refine sb_obj (rnIn1 (List.mem_of_getElem? (i := 199) rfl)) ctO1 ctO2 (by decide) rfl ?_
  refine sb_aload_n rfl ?_
  refine ct_new (ci := 2) (N := 9) 125 rfl (by decide +kernel) (by decide +kernel) (by decide +kernel) (by decide +kernel) (by decide +kernel) ?_
  refine sb_dup rfl ?_
  refine sb_callIN 0 rfl oX2_init ln6_11 vX2_init rfl rfl (rnCk_of (by decide +kernel) rfl) cX2_init_124 ?_
  refine ct_putR (ci := 6) (N := 10) 130 0 rfl (by decide +kernel) (by decide +kernel) (by decide +kernel) (by decide +kernel) (by decide +kernel) ?_
  refine sb_aload_n rfl ?_
  refine sb_bipush (v := 16) (by decide +kernel) ?_
  refine ct_newI (N := 16) 133 rfl (by decide +kernel) (by decide +kernel) (by decide +kernel) (by decide +kernel) ar_int (by decide +kernel) ?_
  refine ct_putR (ci := 6) (N := 10) 131 2 rfl (by decide +kernel) (by decide +kernel) (by decide +kernel) (by decide +kernel) (by decide +kernel) ?_
  refine sb_aload_n rfl ?_
  refine sb_bipush (v := 16) (by decide +kernel) ?_
  refine ct_newI (N := 16) 134 rfl (by decide +kernel) (by decide +kernel) (by decide +kernel) (by decide +kernel) ar_int (by decide +kernel) ?_
  refine ct_putR (ci := 6) (N := 10) 132 3 rfl (by decide +kernel) (by decide +kernel) (by decide +kernel) (by decide +kernel) (by decide +kernel) ?_
  refine sb_aload_n rfl ?_
  refine sb_bipush (v := 16) (by decide +kernel) ?_
  refine ct_newI (N := 16) 135 rfl (by decide +kernel) (by decide +kernel) (by decide +kernel) (by decide +kernel) ar_int (by decide +kernel) ?_
  refine ct_putR (ci := 6) (N := 10) 133 4 rfl (by decide +kernel) (by decide +kernel) (by decide +kernel) (by decide +kernel) (by decide +kernel) ?_
  refine sb_aload_n rfl ?_
  refine sb_bipush (v := 16) (by decide +kernel) ?_
  refine ct_newI (N := 16) 136 rfl (by decide +kernel) (by decide +kernel) (by decide +kernel) (by decide +kernel) ar_int (by decide +kernel) ?_
  refine ct_putR (ci := 6) (N := 10) 134 5 rfl (by decide +kernel) (by decide +kernel) (by decide +kernel) (by decide +kernel) (by decide +kernel) ?_
  refine sb_aload_n rfl ?_
  refine sb_bipush (v := 16) (by decide +kernel) ?_
  refine ct_newI (N := 16) 137 rfl (by decide +kernel) (by decide +kernel) (by decide +kernel) (by decide +kernel) ar_int (by decide +kernel) ?_
  refine ct_putR (ci := 6) (N := 10) 135 7 rfl (by decide +kernel) (by decide +kernel) (by decide +kernel) (by decide +kernel) (by decide +kernel) ?_
  refine sb_aload_n rfl ?_
  refine sb_sipush (v := 144) (by decide +kernel) ?_
  refine ct_newI (N := 144) 138 rfl (by decide +kernel) (by decide +kernel) (by decide +kernel) (by decide +kernel) ar_int (by decide +kernel) ?_
  refine ct_putR (ci := 6) (N := 10) 136 9 rfl (by decide +kernel) (by decide +kernel) (by decide +kernel) (by decide +kernel) (by decide +kernel) ?_
  refine sb_return ?_
  exact rfl
set_option maxRecDepth 20000 in
theorem cX8_init_138 {P : Px} : EX P 1 kX8_init [.ref 138] (T 16 137 139) (none, T 16 144 146) := by
  refine ex_of oX8_init (Nat.le_of_ble_eq_true rfl) ?_
  show RN P 1 kX8_init 0 [(0, .ref 138)] [] (T 16 137 139) (none, T 16 144 146)
  refine sb_in [(0, .aload_n 0, 1), (1, .invokespecial 3, 3), (4, .aload_n 0, 1), (5, .bipush 8, 2), (7, .newarray .int, 2), (9, .putfield 11, 3), (12, .aload_n 0, 1), (13, .bipush 12, 2), (15, .newarray .int, 2), (17, .putfield 15, 3), (20, .aload_n 0, 1), (21, .bipush 26, 2), (23, .newarray .int, 2), (25, .putfield 18, 3), (28, .aload_n 0, 1), (29, .bipush 26, 2), (31, .newarray .int, 2), (33, .putfield 21, 3), (36, .aload_n 0, 1), (37, .bipush 49, 2), (39, .newarray .int, 2), (41, .putfield 24, 3), (44, .aload_n 0, 1), (45, .bipush 8, 2), (47, .newarray .int, 2), (49, .putfield 27, 3), (52, .aload_n 0, 1), (53, .bipush 8, 2), (55, .newarray .int, 2), (57, .putfield 30, 3), (60, .return_, 1)] 61 (by decide +kernel) ?_
  refine sb_aload_n rfl ?_
  refine sb_obj (rnIn2 (List.mem_of_getElem? (i := 56) rfl)) ctO1 ctO2 (by decide) rfl ?_
  refine sb_aload_n rfl ?_
  refine sb_bipush (v := 8) (by decide +kernel) ?_
  refine ct_newI (N := 8) 140 rfl (by decide +kernel) (by decide +kernel) (by decide +kernel) (by decide +kernel) ar_int (by decide +kernel) ?_
  refine ct_putR (ci := 8) (N := 12) 138 1 rfl (by decide +kernel) (by decide +kernel) (by decide +kernel) (by decide +kernel) (by decide +kernel) ?_
  refine sb_aload_n rfl ?_
  refine sb_bipush (v := 12) (by decide +kernel) ?_
  refine ct_newI (N := 12) 141 rfl (by decide +kernel) (by decide +kernel) (by decide +kernel) (by decide +kernel) ar_int (by decide +kernel) ?_
  refine ct_putR (ci := 8) (N := 12) 139 3 rfl (by decide +kernel) (by decide +kernel) (by decide +kernel) (by decide +kernel) (by decide +kernel) ?_
  refine sb_aload_n rfl ?_
  refine sb_bipush (v := 26) (by decide +kernel) ?_
  refine ct_newI (N := 26) 142 rfl (by decide +kernel) (by decide +kernel) (by decide +kernel) (by decide +kernel) ar_int (by decide +kernel) ?_
  refine ct_putR (ci := 8) (N := 12) 140 4 rfl (by decide +kernel) (by decide +kernel) (by decide +kernel) (by decide +kernel) (by decide +kernel) ?_
  refine sb_aload_n rfl ?_
  refine sb_bipush (v := 26) (by decide +kernel) ?_
  refine ct_newI (N := 26) 143 rfl (by decide +kernel) (by decide +kernel) (by decide +kernel) (by decide +kernel) ar_int (by decide +kernel) ?_
  refine ct_putR (ci := 8) (N := 12) 141 6 rfl (by decide +kernel) (by decide +kernel) (by decide +kernel) (by decide +kernel) (by decide +kernel) ?_
  refine sb_aload_n rfl ?_
  refine sb_bipush (v := 49) (by decide +kernel) ?_
  refine ct_newI (N := 49) 144 rfl (by decide +kernel) (by decide +kernel) (by decide +kernel) (by decide +kernel) ar_int (by decide +kernel) ?_
  refine ct_putR (ci := 8) (N := 12) 142 8 rfl (by decide +kernel) (by decide +kernel) (by decide +kernel) (by decide +kernel) (by decide +kernel) ?_
  refine sb_aload_n rfl ?_
  refine sb_bipush (v := 8) (by decide +kernel) ?_
  refine ct_newI (N := 8) 145 rfl (by decide +kernel) (by decide +kernel) (by decide +kernel) (by decide +kernel) ar_int (by decide +kernel) ?_
  refine ct_putR (ci := 8) (N := 12) 143 10 rfl (by decide +kernel) (by decide +kernel) (by decide +kernel) (by decide +kernel) (by decide +kernel) ?_
  refine sb_aload_n rfl ?_
  refine sb_bipush (v := 8) (by decide +kernel) ?_
  refine ct_newI (N := 8) 146 rfl (by decide +kernel) (by decide +kernel) (by decide +kernel) (by decide +kernel) ar_int (by decide +kernel) ?_
  refine ct_putR (ci := 8) (N := 12) 144 11 rfl (by decide +kernel) (by decide +kernel) (by decide +kernel) (by decide +kernel) (by decide +kernel) ?_
  refine sb_return ?_
  exact rfl
set_option maxRecDepth 20000 in
theorem cX2_init_148 {P : Px} : EX P 1 kX2_init [.ref 148] (T 16 145 149) (none, T 16 152 156) := by
  refine ex_of oX2_init (Nat.le_of_ble_eq_true rfl) ?_
  show RN P 1 kX2_init 0 [(0, .ref 148)] [] (T 16 145 149) (none, T 16 152 156)
  refine sb_in [(0, .aload_n 0, 1), (1, .invokespecial 5, 3), (4, .aload_n 0, 1), (5, .bipush 16, 2), (7, .newarray .int, 2), (9, .putfield 11, 3), (12, .aload_n 0, 1), (13, .bipush 16, 2), (15, .newarray .int, 2), (17, .putfield 15, 3), (20, .aload_n 0, 1), (21, .bipush 16, 2), (23, .newarray .int, 2), (25, .putfield 18, 3), (28, .aload_n 0, 1), (29, .bipush 16, 2), (31, .newarray .int, 2), (33, .putfield 21, 3), (36, .aload_n 0, 1), (37, .sipush 400, 3), (40, .newarray .int, 2), (42, .putfield 24, 3), (45, .aload_n 0, 1), (46, .bipush 11, 2), (48, .newarray .int, 2), (50, .putfield 27, 3), (53, .aload_n 0, 1), (54, .bipush 32, 2), (56, .newarray .int, 2), (58, .putfield 30, 3), (61, .return_, 1)] 62 (by decide +kernel) ?_
  refine sb_aload_n rfl ?_
  refine sb_obj (rnIn1 (List.mem_of_getElem? (i := 205) rfl)) ctO1 ctO2 (by decide) rfl ?_
  refine sb_aload_n rfl ?_
  refine sb_bipush (v := 16) (by decide +kernel) ?_
  refine ct_newI (N := 16) 150 rfl (by decide +kernel) (by decide +kernel) (by decide +kernel) (by decide +kernel) ar_int (by decide +kernel) ?_
  refine ct_putR (ci := 2) (N := 9) 146 2 rfl (by decide +kernel) (by decide +kernel) (by decide +kernel) (by decide +kernel) (by decide +kernel) ?_
  refine sb_aload_n rfl ?_
  refine sb_bipush (v := 16) (by decide +kernel) ?_
  refine ct_newI (N := 16) 151 rfl (by decide +kernel) (by decide +kernel) (by decide +kernel) (by decide +kernel) ar_int (by decide +kernel) ?_
  refine ct_putR (ci := 2) (N := 9) 147 3 rfl (by decide +kernel) (by decide +kernel) (by decide +kernel) (by decide +kernel) (by decide +kernel) ?_
  refine sb_aload_n rfl ?_
  refine sb_bipush (v := 16) (by decide +kernel) ?_
  refine ct_newI (N := 16) 152 rfl (by decide +kernel) (by decide +kernel) (by decide +kernel) (by decide +kernel) ar_int (by decide +kernel) ?_
  refine ct_putR (ci := 2) (N := 9) 148 4 rfl (by decide +kernel) (by decide +kernel) (by decide +kernel) (by decide +kernel) (by decide +kernel) ?_
  refine sb_aload_n rfl ?_
  refine sb_bipush (v := 16) (by decide +kernel) ?_
  refine ct_newI (N := 16) 153 rfl (by decide +kernel) (by decide +kernel) (by decide +kernel) (by decide +kernel) ar_int (by decide +kernel) ?_
  refine ct_putR (ci := 2) (N := 9) 149 5 rfl (by decide +kernel) (by decide +kernel) (by decide +kernel) (by decide +kernel) (by decide +kernel) ?_
  refine sb_aload_n rfl ?_
  refine sb_sipush (v := 400) (by decide +kernel) ?_
  refine ct_newI (N := 400) 154 rfl (by decide +kernel) (by decide +kernel) (by decide +kernel) (by decide +kernel) ar_int (by decide +kernel) ?_
  refine ct_putR (ci := 2) (N := 9) 150 6 rfl (by decide +kernel) (by decide +kernel) (by decide +kernel) (by decide +kernel) (by decide +kernel) ?_
  refine sb_aload_n rfl ?_
  refine sb_bipush (v := 11) (by decide +kernel) ?_
  refine ct_newI (N := 11) 155 rfl (by decide +kernel) (by decide +kernel) (by decide +kernel) (by decide +kernel) ar_int (by decide +kernel) ?_
  refine ct_putR (ci := 2) (N := 9) 151 7 rfl (by decide +kernel) (by decide +kernel) (by decide +kernel) (by decide +kernel) (by decide +kernel) ?_
  refine sb_aload_n rfl ?_
  refine sb_bipush (v := 32) (by decide +kernel) ?_
  refine ct_newI (N := 32) 156 rfl (by decide +kernel) (by decide +kernel) (by decide +kernel) (by decide +kernel) ar_int (by decide +kernel) ?_
  refine ct_putR (ci := 2) (N := 9) 152 8 rfl (by decide +kernel) (by decide +kernel) (by decide +kernel) (by decide +kernel) (by decide +kernel) ?_
  refine sb_return ?_
  exact rfl
set_option maxRecDepth 20000 in
theorem cX6_init_147 {P : Px} : EX P 2 kX6_init [.ref 147] (T 16 145 148) (none, T 16 159 162) := by
  refine ex_of oX6_init (Nat.le_of_ble_eq_true rfl) ?_
  show RN P 2 kX6_init 0 [(0, .ref 147)] [] (T 16 145 148) (none, T 16 159 162)
  refine sb_in [(0, .aload_n 0, 1), (1, .invokespecial 3, 3), (4, .aload_n 0, 1), (5, .new 9, 3), (8, .dup, 1), (9, .invokespecial 11, 3), (12, .putfield 12, 3), (15, .aload_n 0, 1), (16, .bipush 16, 2), (18, .newarray .int, 2), (20, .putfield 18, 3), (23, .aload_n 0, 1), (24, .bipush 16, 2), (26, .newarray .int, 2), (28, .putfield 22, 3), (31, .aload_n 0, 1), (32, .bipush 16, 2), (34, .newarray .int, 2), (36, .putfield 25, 3), (39, .aload_n 0, 1), (40, .bipush 16, 2), (42, .newarray .int, 2), (44, .putfield 28, 3), (47, .aload_n 0, 1), (48, .bipush 16, 2), (50, .newarray .int, 2), (52, .putfield 31, 3), (55, .aload_n 0, 1), (56, .sipush 144, 3), (59, .newarray .int, 2), (61, .putfield 34, 3), (64, .return_, 1)] 65 (by decide +kernel) ?_
  refine sb_aload_n rfl ?_
  refine sb_obj (rnIn1 (List.mem_of_getElem? (i := 199) rfl)) ctO1 ctO2 (by decide) rfl ?_
  refine sb_aload_n rfl ?_
  refine ct_new (ci := 2) (N := 9) 149 rfl (by decide +kernel) (by decide +kernel) (by decide +kernel) (by decide +kernel) (by decide +kernel) ?_
  refine sb_dup rfl ?_
  refine sb_callIN 0 rfl oX2_init ln6_11 vX2_init rfl rfl (rnCk_of (by decide +kernel) rfl) cX2_init_148 ?_
  refine ct_putR (ci := 6) (N := 10) 153 0 rfl (by decide +kernel) (by decide +kernel) (by decide +kernel) (by decide +kernel) (by decide +kernel) ?_
  refine sb_aload_n rfl ?_
  refine sb_bipush (v := 16) (by decide +kernel) ?_
  refine ct_newI (N := 16) 157 rfl (by decide +kernel) (by decide +kernel) (by decide +kernel) (by decide +kernel) ar_int (by decide +kernel) ?_
  refine ct_putR (ci := 6) (N := 10) 154 2 rfl (by decide +kernel) (by decide +kernel) (by decide +kernel) (by decide +kernel) (by decide +kernel) ?_
  refine sb_aload_n rfl ?_
  refine sb_bipush (v := 16) (by decide +kernel) ?_
  refine ct_newI (N := 16) 158 rfl (by decide +kernel) (by decide +kernel) (by decide +kernel) (by decide +kernel) ar_int (by decide +kernel) ?_
  refine ct_putR (ci := 6) (N := 10) 155 3 rfl (by decide +kernel) (by decide +kernel) (by decide +kernel) (by decide +kernel) (by decide +kernel) ?_
  refine sb_aload_n rfl ?_
  refine sb_bipush (v := 16) (by decide +kernel) ?_
  refine ct_newI (N := 16) 159 rfl (by decide +kernel) (by decide +kernel) (by decide +kernel) (by decide +kernel) ar_int (by decide +kernel) ?_
  refine ct_putR (ci := 6) (N := 10) 156 4 rfl (by decide +kernel) (by decide +kernel) (by decide +kernel) (by decide +kernel) (by decide +kernel) ?_
  refine sb_aload_n rfl ?_
  refine sb_bipush (v := 16) (by decide +kernel) ?_
  refine ct_newI (N := 16) 160 rfl (by decide +kernel) (by decide +kernel) (by decide +kernel) (by decide +kernel) ar_int (by decide +kernel) ?_
  refine ct_putR (ci := 6) (N := 10) 157 5 rfl (by decide +kernel) (by decide +kernel) (by decide +kernel) (by decide +kernel) (by decide +kernel) ?_
  refine sb_aload_n rfl ?_
  refine sb_bipush (v := 16) (by decide +kernel) ?_
  refine ct_newI (N := 16) 161 rfl (by decide +kernel) (by decide +kernel) (by decide +kernel) (by decide +kernel) ar_int (by decide +kernel) ?_
  refine ct_putR (ci := 6) (N := 10) 158 7 rfl (by decide +kernel) (by decide +kernel) (by decide +kernel) (by decide +kernel) (by decide +kernel) ?_
  refine sb_aload_n rfl ?_
  refine sb_sipush (v := 144) (by decide +kernel) ?_
  refine ct_newI (N := 144) 162 rfl (by decide +kernel) (by decide +kernel) (by decide +kernel) (by decide +kernel) ar_int (by decide +kernel) ?_
  refine ct_putR (ci := 6) (N := 10) 159 9 rfl (by decide +kernel) (by decide +kernel) (by decide +kernel) (by decide +kernel) (by decide +kernel) ?_
  refine sb_return ?_
  exact rfl
set_option maxRecDepth 20000 in
theorem cX7_init_162 {P : Px} : EX P 1 kX7_init [.ref 162] (T 17 160 163) (none, T 17 164 167) := by
  refine ex_of oX7_init (Nat.le_of_ble_eq_true rfl) ?_
  show RN P 1 kX7_init 0 [(0, .ref 162)] [] (T 17 160 163) (none, T 17 164 167)
  refine sb_in [(0, .aload_n 0, 1), (1, .invokespecial 5, 3), (4, .aload_n 0, 1), (5, .sipush 401, 3), (8, .newarray .int, 2), (10, .putfield 11, 3), (13, .aload_n 0, 1), (14, .sipush 401, 3), (17, .newarray .int, 2), (19, .putfield 15, 3), (22, .aload_n 0, 1), (23, .sipush 401, 3), (26, .newarray .int, 2), (28, .putfield 18, 3), (31, .aload_n 0, 1), (32, .sipush 401, 3), (35, .newarray .int, 2), (37, .putfield 21, 3), (40, .return_, 1)] 41 (by decide +kernel) ?_
  refine sb_aload_n rfl ?_
  refine sb_obj (rnIn2 (List.mem_of_getElem? (i := 119) rfl)) ctO1 ctO2 (by decide) rfl ?_
  refine sb_aload_n rfl ?_
  refine sb_sipush (v := 401) (by decide +kernel) ?_
  refine ct_newI (N := 401) 164 rfl (by decide +kernel) (by decide +kernel) (by decide +kernel) (by decide +kernel) ar_int (by decide +kernel) ?_
  refine ct_putR (ci := 7) (N := 5) 161 1 rfl (by decide +kernel) (by decide +kernel) (by decide +kernel) (by decide +kernel) (by decide +kernel) ?_
  refine sb_aload_n rfl ?_
  refine sb_sipush (v := 401) (by decide +kernel) ?_
  refine ct_newI (N := 401) 165 rfl (by decide +kernel) (by decide +kernel) (by decide +kernel) (by decide +kernel) ar_int (by decide +kernel) ?_
  refine ct_putR (ci := 7) (N := 5) 162 2 rfl (by decide +kernel) (by decide +kernel) (by decide +kernel) (by decide +kernel) (by decide +kernel) ?_
  refine sb_aload_n rfl ?_
  refine sb_sipush (v := 401) (by decide +kernel) ?_
  refine ct_newI (N := 401) 166 rfl (by decide +kernel) (by decide +kernel) (by decide +kernel) (by decide +kernel) ar_int (by decide +kernel) ?_
  refine ct_putR (ci := 7) (N := 5) 163 3 rfl (by decide +kernel) (by decide +kernel) (by decide +kernel) (by decide +kernel) (by decide +kernel) ?_
  refine sb_aload_n rfl ?_
  refine sb_sipush (v := 401) (by decide +kernel) ?_
  refine ct_newI (N := 401) 167 rfl (by decide +kernel) (by decide +kernel) (by decide +kernel) (by decide +kernel) ar_int (by decide +kernel) ?_
  refine ct_putR (ci := 7) (N := 5) 164 4 rfl (by decide +kernel) (by decide +kernel) (by decide +kernel) (by decide +kernel) (by decide +kernel) ?_
  refine sb_return ?_
  exact rfl
set_option maxRecDepth 20000 in
theorem cX5_init_146 {P : Px} : EX P 3 kX5_init [.ref 146] (T 16 145 147) (none, T 17 166 168) := by
  refine ex_of oX5_init (Nat.le_of_ble_eq_true rfl) ?_
  show RN P 3 kX5_init 0 [(0, .ref 146)] [] (T 16 145 147) (none, T 17 166 168)
  refine sb_in [(0, .aload_n 0, 1), (1, .invokespecial 3, 3), (4, .aload_n 0, 1), (5, .new 9, 3), (8, .dup, 1), (9, .invokespecial 11, 3), (12, .putfield 12, 3), (15, .aload_n 0, 1), (16, .iconst (-1), 1), (17, .putfield 18, 3), (20, .aload_n 0, 1), (21, .new 22, 3), (24, .dup, 1), (25, .invokespecial 24, 3), (28, .putfield 25, 3), (31, .aload_n 0, 1), (32, .bipush 32, 2), (34, .newarray .int, 2), (36, .putfield 29, 3), (39, .return_, 1)] 40 (by decide +kernel) ?_
  refine sb_aload_n rfl ?_
  refine sb_obj (rnIn2 (List.mem_of_getElem? (i := 111) rfl)) ctO1 ctO2 (by decide) rfl ?_
  refine sb_aload_n rfl ?_
  refine ct_new (ci := 6) (N := 10) 148 rfl (by decide +kernel) (by decide +kernel) (by decide +kernel) (by decide +kernel) (by decide +kernel) ?_
  refine sb_dup rfl ?_
  refine sb_callIN 0 rfl oX6_init ln5_11 vX6_init rfl rfl (rnCk_of (by decide +kernel) rfl) cX6_init_147 ?_
  refine ct_putR (ci := 5) (N := 9) 160 0 rfl (by decide +kernel) (by decide +kernel) (by decide +kernel) (by decide +kernel) (by decide +kernel) ?_
  refine sb_aload_n rfl ?_
  refine sb_iconst (v := (-1)) (by decide +kernel) ?_
  refine ct_putI (ci := 5) (N := 9) 17 2 rfl (by decide +kernel) (by decide +kernel) (by decide +kernel) (by decide +kernel) (by decide +kernel) (by decide +kernel) ?_
  refine sb_aload_n rfl ?_
  refine ct_new (ci := 7) (N := 5) 163 rfl (by decide +kernel) (by decide +kernel) (by decide +kernel) (by decide +kernel) (by decide +kernel) ?_
  refine sb_dup rfl ?_
  refine sb_callIN 0 rfl oX7_init ln5_24 vX7_init rfl rfl (rnCk_of (by decide +kernel) rfl) cX7_init_162 ?_
  refine ct_putR (ci := 5) (N := 9) 165 3 rfl (by decide +kernel) (by decide +kernel) (by decide +kernel) (by decide +kernel) (by decide +kernel) ?_
  refine sb_aload_n rfl ?_
  refine sb_bipush (v := 32) (by decide +kernel) ?_
  refine ct_newI (N := 32) 168 rfl (by decide +kernel) (by decide +kernel) (by decide +kernel) (by decide +kernel) ar_int (by decide +kernel) ?_
  refine ct_putR (ci := 5) (N := 9) 166 6 rfl (by decide +kernel) (by decide +kernel) (by decide +kernel) (by decide +kernel) (by decide +kernel) ?_
  refine sb_return ?_
  exact rfl
set_option maxRecDepth 20000 in
theorem cX3_init_168 {P : Px} : EX P 1 kX3_init [.ref 168] (T 17 167 169) (none, T 17 171 173) := by
  refine ex_of oX3_init (Nat.le_of_ble_eq_true rfl) ?_
  show RN P 1 kX3_init 0 [(0, .ref 168)] [] (T 17 167 169) (none, T 17 171 173)
  refine sb_in [(0, .aload_n 0, 1), (1, .invokespecial 3, 3), (4, .aload_n 0, 1), (5, .sipush 256, 3), (8, .newarray .int, 2), (10, .putfield 11, 3), (13, .aload_n 0, 1), (14, .bipush 12, 2), (16, .newarray .int, 2), (18, .putfield 17, 3), (21, .aload_n 0, 1), (22, .bipush 6, 2), (24, .newarray .long, 2), (26, .putfield 20, 3), (29, .aload_n 0, 1), (30, .bipush 6, 2), (32, .newarray .int, 2), (34, .putfield 24, 3), (37, .return_, 1)] 38 (by decide +kernel) ?_
  refine sb_aload_n rfl ?_
  refine sb_obj (rnIn2 (List.mem_of_getElem? (i := 176) rfl)) ctO1 ctO2 (by decide) rfl ?_
  refine sb_aload_n rfl ?_
  refine sb_sipush (v := 256) (by decide +kernel) ?_
  refine ct_newI (N := 256) 170 rfl (by decide +kernel) (by decide +kernel) (by decide +kernel) (by decide +kernel) ar_int (by decide +kernel) ?_
  refine ct_putR (ci := 3) (N := 4) 168 0 rfl (by decide +kernel) (by decide +kernel) (by decide +kernel) (by decide +kernel) (by decide +kernel) ?_
  refine sb_aload_n rfl ?_
  refine sb_bipush (v := 12) (by decide +kernel) ?_
  refine ct_newI (N := 12) 171 rfl (by decide +kernel) (by decide +kernel) (by decide +kernel) (by decide +kernel) ar_int (by decide +kernel) ?_
  refine ct_putR (ci := 3) (N := 4) 169 1 rfl (by decide +kernel) (by decide +kernel) (by decide +kernel) (by decide +kernel) (by decide +kernel) ?_
  refine sb_aload_n rfl ?_
  refine sb_bipush (v := 6) (by decide +kernel) ?_
  refine ct_newL (N := 6) 172 rfl (by decide +kernel) (by decide +kernel) (by decide +kernel) (by decide +kernel) ar_long (by decide +kernel) ?_
  refine ct_putR (ci := 3) (N := 4) 170 2 rfl (by decide +kernel) (by decide +kernel) (by decide +kernel) (by decide +kernel) (by decide +kernel) ?_
  refine sb_aload_n rfl ?_
  refine sb_bipush (v := 6) (by decide +kernel) ?_
  refine ct_newI (N := 6) 173 rfl (by decide +kernel) (by decide +kernel) (by decide +kernel) (by decide +kernel) ar_int (by decide +kernel) ?_
  refine ct_putR (ci := 3) (N := 4) 171 3 rfl (by decide +kernel) (by decide +kernel) (by decide +kernel) (by decide +kernel) (by decide +kernel) ?_
  refine sb_return ?_
  exact rfl
set_option maxRecDepth 20000 in
theorem cX9_init_173 {P : Px} : EX P 1 kX9_init [.ref 173] (T 17 172 174) (none, T 17 175 177) := by
  refine ex_of oX9_init (Nat.le_of_ble_eq_true rfl) ?_
  show RN P 1 kX9_init 0 [(0, .ref 173)] [] (T 17 172 174) (none, T 17 175 177)
  refine sb_in [(0, .aload_n 0, 1), (1, .invokespecial 5, 3), (4, .aload_n 0, 1), (5, .sipush 144, 3), (8, .newarray .int, 2), (10, .putfield 11, 3), (13, .aload_n 0, 1), (14, .bipush 8, 2), (16, .newarray .int, 2), (18, .putfield 15, 3), (21, .aload_n 0, 1), (22, .bipush 12, 2), (24, .newarray .int, 2), (26, .putfield 18, 3), (29, .return_, 1)] 30 (by decide +kernel) ?_
  refine sb_aload_n rfl ?_
  refine sb_obj (rnIn2 (List.mem_of_getElem? (i := 196) rfl)) ctO1 ctO2 (by decide) rfl ?_
  refine sb_aload_n rfl ?_
  refine sb_sipush (v := 144) (by decide +kernel) ?_
  refine ct_newI (N := 144) 175 rfl (by decide +kernel) (by decide +kernel) (by decide +kernel) (by decide +kernel) ar_int (by decide +kernel) ?_
  refine ct_putR (ci := 9) (N := 3) 173 0 rfl (by decide +kernel) (by decide +kernel) (by decide +kernel) (by decide +kernel) (by decide +kernel) ?_
  refine sb_aload_n rfl ?_
  refine sb_bipush (v := 8) (by decide +kernel) ?_
  refine ct_newI (N := 8) 176 rfl (by decide +kernel) (by decide +kernel) (by decide +kernel) (by decide +kernel) ar_int (by decide +kernel) ?_
  refine ct_putR (ci := 9) (N := 3) 174 1 rfl (by decide +kernel) (by decide +kernel) (by decide +kernel) (by decide +kernel) (by decide +kernel) ?_
  refine sb_aload_n rfl ?_
  refine sb_bipush (v := 12) (by decide +kernel) ?_
  refine ct_newI (N := 12) 177 rfl (by decide +kernel) (by decide +kernel) (by decide +kernel) (by decide +kernel) ar_int (by decide +kernel) ?_
  refine ct_putR (ci := 9) (N := 3) 175 2 rfl (by decide +kernel) (by decide +kernel) (by decide +kernel) (by decide +kernel) (by decide +kernel) ?_
  refine sb_return ?_
  exact rfl
set_option maxRecDepth 20000 in
theorem cX1_init_180 {P : Px} : EX P 1 kX1_init [.ref 180] (T 17 178 181) (none, T 17 183 186) := by
  refine ex_of oX1_init (Nat.le_of_ble_eq_true rfl) ?_
  show RN P 1 kX1_init 0 [(0, .ref 180)] [] (T 17 178 181) (none, T 17 183 186)
  refine sb_in [(0, .aload_n 0, 1), (1, .invokespecial 3, 3), (4, .aload_n 0, 1), (5, .bipush 12, 2), (7, .newarray .int, 2), (9, .putfield 9, 3), (12, .aload_n 0, 1), (13, .bipush 12, 2), (15, .newarray .int, 2), (17, .putfield 15, 3), (20, .aload_n 0, 1), (21, .bipush 12, 2), (23, .newarray .int, 2), (25, .putfield 18, 3), (28, .aload_n 0, 1), (29, .bipush 12, 2), (31, .newarray .int, 2), (33, .putfield 21, 3), (36, .aload_n 0, 1), (37, .bipush 12, 2), (39, .newarray .int, 2), (41, .putfield 24, 3), (44, .return_, 1)] 45 (by decide +kernel) ?_
  refine sb_aload_n rfl ?_
  refine sb_obj (rnIn1 (List.mem_of_getElem? (i := 42) rfl)) ctO1 ctO2 (by decide) rfl ?_
  refine sb_aload_n rfl ?_
  refine sb_bipush (v := 12) (by decide +kernel) ?_
  refine ct_newI (N := 12) 182 rfl (by decide +kernel) (by decide +kernel) (by decide +kernel) (by decide +kernel) ar_int (by decide +kernel) ?_
  refine ct_putR (ci := 1) (N := 6) 179 1 rfl (by decide +kernel) (by decide +kernel) (by decide +kernel) (by decide +kernel) (by decide +kernel) ?_
  refine sb_aload_n rfl ?_
  refine sb_bipush (v := 12) (by decide +kernel) ?_
  refine ct_newI (N := 12) 183 rfl (by decide +kernel) (by decide +kernel) (by decide +kernel) (by decide +kernel) ar_int (by decide +kernel) ?_
  refine ct_putR (ci := 1) (N := 6) 180 2 rfl (by decide +kernel) (by decide +kernel) (by decide +kernel) (by decide +kernel) (by decide +kernel) ?_
  refine sb_aload_n rfl ?_
  refine sb_bipush (v := 12) (by decide +kernel) ?_
  refine ct_newI (N := 12) 184 rfl (by decide +kernel) (by decide +kernel) (by decide +kernel) (by decide +kernel) ar_int (by decide +kernel) ?_
  refine ct_putR (ci := 1) (N := 6) 181 3 rfl (by decide +kernel) (by decide +kernel) (by decide +kernel) (by decide +kernel) (by decide +kernel) ?_
  refine sb_aload_n rfl ?_
  refine sb_bipush (v := 12) (by decide +kernel) ?_
  refine ct_newI (N := 12) 185 rfl (by decide +kernel) (by decide +kernel) (by decide +kernel) (by decide +kernel) ar_int (by decide +kernel) ?_
  refine ct_putR (ci := 1) (N := 6) 182 4 rfl (by decide +kernel) (by decide +kernel) (by decide +kernel) (by decide +kernel) (by decide +kernel) ?_
  refine sb_aload_n rfl ?_
  refine sb_bipush (v := 12) (by decide +kernel) ?_
  refine ct_newI (N := 12) 186 rfl (by decide +kernel) (by decide +kernel) (by decide +kernel) (by decide +kernel) ar_int (by decide +kernel) ?_
  refine ct_putR (ci := 1) (N := 6) 183 5 rfl (by decide +kernel) (by decide +kernel) (by decide +kernel) (by decide +kernel) (by decide +kernel) ?_
  refine sb_return ?_
  exact rfl
set_option maxRecDepth 20000 in
theorem cX0_init_186 {P : Px} : EX P 1 kX0_init [.ref 186] (T 17 184 187) (none, T 17 189 192) := by
  refine ex_of oX0_init (Nat.le_of_ble_eq_true rfl) ?_
  show RN P 1 kX0_init 0 [(0, .ref 186)] [] (T 17 184 187) (none, T 17 189 192)
  refine sb_in [(0, .aload_n 0, 1), (1, .invokespecial 3, 3), (4, .aload_n 0, 1), (5, .bipush 24, 2), (7, .newarray .int, 2), (9, .putfield 9, 3), (12, .aload_n 0, 1), (13, .bipush 24, 2), (15, .newarray .int, 2), (17, .putfield 15, 3), (20, .aload_n 0, 1), (21, .bipush 24, 2), (23, .newarray .int, 2), (25, .putfield 18, 3), (28, .aload_n 0, 1), (29, .bipush 24, 2), (31, .newarray .int, 2), (33, .putfield 21, 3), (36, .aload_n 0, 1), (37, .bipush 24, 2), (39, .newarray .int, 2), (41, .putfield 24, 3), (44, .return_, 1)] 45 (by decide +kernel) ?_
  refine sb_aload_n rfl ?_
  refine sb_obj (rnIn1 (List.mem_of_getElem? (i := 79) rfl)) ctO1 ctO2 (by decide) rfl ?_
  refine sb_aload_n rfl ?_
  refine sb_bipush (v := 24) (by decide +kernel) ?_
  refine ct_newI (N := 24) 188 rfl (by decide +kernel) (by decide +kernel) (by decide +kernel) (by decide +kernel) ar_int (by decide +kernel) ?_
  refine ct_putR (ci := 0) (N := 7) 185 2 rfl (by decide +kernel) (by decide +kernel) (by decide +kernel) (by decide +kernel) (by decide +kernel) ?_
  refine sb_aload_n rfl ?_
  refine sb_bipush (v := 24) (by decide +kernel) ?_
  refine ct_newI (N := 24) 189 rfl (by decide +kernel) (by decide +kernel) (by decide +kernel) (by decide +kernel) ar_int (by decide +kernel) ?_
  refine ct_putR (ci := 0) (N := 7) 186 3 rfl (by decide +kernel) (by decide +kernel) (by decide +kernel) (by decide +kernel) (by decide +kernel) ?_
  refine sb_aload_n rfl ?_
  refine sb_bipush (v := 24) (by decide +kernel) ?_
  refine ct_newI (N := 24) 190 rfl (by decide +kernel) (by decide +kernel) (by decide +kernel) (by decide +kernel) ar_int (by decide +kernel) ?_
  refine ct_putR (ci := 0) (N := 7) 187 4 rfl (by decide +kernel) (by decide +kernel) (by decide +kernel) (by decide +kernel) (by decide +kernel) ?_
  refine sb_aload_n rfl ?_
  refine sb_bipush (v := 24) (by decide +kernel) ?_
  refine ct_newI (N := 24) 191 rfl (by decide +kernel) (by decide +kernel) (by decide +kernel) (by decide +kernel) ar_int (by decide +kernel) ?_
  refine ct_putR (ci := 0) (N := 7) 188 5 rfl (by decide +kernel) (by decide +kernel) (by decide +kernel) (by decide +kernel) (by decide +kernel) ?_
  refine sb_aload_n rfl ?_
  refine sb_bipush (v := 24) (by decide +kernel) ?_
  refine ct_newI (N := 24) 192 rfl (by decide +kernel) (by decide +kernel) (by decide +kernel) (by decide +kernel) ar_int (by decide +kernel) ?_
  refine ct_putR (ci := 0) (N := 7) 189 6 rfl (by decide +kernel) (by decide +kernel) (by decide +kernel) (by decide +kernel) (by decide +kernel) ?_
  refine sb_return ?_
  exact rfl
set_option maxRecDepth 20000 in
theorem cX10_init_179 {P : Px} : EX P 2 kX10_init [.ref 179, .int 0, .int 1] (T 17 178 180) (none, T 19 192 194) := by
  refine ex_of oX10_init (Nat.le_of_ble_eq_true rfl) ?_
  show RN P 2 kX10_init 0 [(0, .ref 179), (1, .int 0), (2, .int 1)] [] (T 17 178 180) (none, T 19 192 194)
  refine sb_in [(0, .aload_n 0, 1), (1, .invokespecial 3, 3), (4, .aload_n 0, 1), (5, .new 9, 3), (8, .dup, 1), (9, .invokespecial 11, 3), (12, .putfield 12, 3), (15, .aload_n 0, 1), (16, .new 18, 3), (19, .dup, 1), (20, .invokespecial 20, 3), (23, .putfield 21, 3), (26, .aload_n 0, 1), (27, .bipush 7, 2), (29, .newarray .int, 2), (31, .putfield 25, 3), (34, .aload_n 0, 1), (35, .bipush 99, 2), (37, .putfield 29, 3), (40, .aload_n 0, 1), (41, .iload_n 1, 1), (42, .putfield 33, 3), (45, .aload_n 0, 1), (46, .iload_n 2, 1), (47, .ifCond .eq 9, 3)] 50 (by decide +kernel) ?_
  refine sb_aload_n rfl ?_
  refine sb_obj (rnIn1 (List.mem_of_getElem? (i := 36) rfl)) ctO1 ctO2 (by decide) rfl ?_
  refine sb_aload_n rfl ?_
  refine ct_new (ci := 1) (N := 6) 181 rfl (by decide +kernel) (by decide +kernel) (by decide +kernel) (by decide +kernel) (by decide +kernel) ?_
  refine sb_dup rfl ?_
  refine sb_callIN 0 rfl oX1_init ln10_11 vX1_init rfl rfl (rnCk_of (by decide +kernel) rfl) cX1_init_180 ?_
  refine ct_putR (ci := 10) (N := 14) 184 0 rfl (by decide +kernel) (by decide +kernel) (by decide +kernel) (by decide +kernel) (by decide +kernel) ?_
  refine sb_aload_n rfl ?_
  refine ct_new (ci := 0) (N := 7) 187 rfl (by decide +kernel) (by decide +kernel) (by decide +kernel) (by decide +kernel) (by decide +kernel) ?_
  refine sb_dup rfl ?_
  refine sb_callIN 0 rfl oX0_init ln10_20 vX0_init rfl rfl (rnCk_of (by decide +kernel) rfl) cX0_init_186 ?_
  refine ct_putR (ci := 10) (N := 14) 190 1 rfl (by decide +kernel) (by decide +kernel) (by decide +kernel) (by decide +kernel) (by decide +kernel) ?_
  refine sb_aload_n rfl ?_
  refine sb_bipush (v := 7) (by decide +kernel) ?_
  refine ct_newI (N := 7) 193 rfl (by decide +kernel) (by decide +kernel) (by decide +kernel) (by decide +kernel) ar_int (by decide +kernel) ?_
  refine ct_putR (ci := 10) (N := 14) 191 2 rfl (by decide +kernel) (by decide +kernel) (by decide +kernel) (by decide +kernel) (by decide +kernel) ?_
  refine sb_aload_n rfl ?_
  refine sb_bipush (v := 99) (by decide +kernel) ?_
  refine ct_putI (ci := 10) (N := 14) 18 5 rfl (by decide +kernel) (by decide +kernel) (by decide +kernel) (by decide +kernel) (by decide +kernel) (by decide +kernel) ?_
  refine sb_aload_n rfl ?_
  refine sb_iload_n rfl ?_
  refine ct_putI (ci := 10) (N := 14) 19 13 rfl (by decide +kernel) (by decide +kernel) (by decide +kernel) (by decide +kernel) (by decide +kernel) (by decide +kernel) ?_
  refine sb_aload_n rfl ?_
  refine sb_iload_n rfl ?_
  refine sb_if_eq_f 56 (by decide) (by decide) ?_
  refine sb_in [(50, .sipush 600, 3), (53, .goto 4, 3)] 56 (by decide +kernel) ?_
  refine sb_sipush (v := 600) (by decide +kernel) ?_
  refine sb_goto 57 (by decide) ?_
  refine sb_in [(57, .newarray .int, 2), (59, .putfield 37, 3), (62, .return_, 1)] 63 (by decide +kernel) ?_
  refine ct_newI (N := 600) 194 rfl (by decide +kernel) (by decide +kernel) (by decide +kernel) (by decide +kernel) ar_int (by decide +kernel) ?_
  refine ct_putR (ci := 10) (N := 14) 192 3 rfl (by decide +kernel) (by decide +kernel) (by decide +kernel) (by decide +kernel) (by decide +kernel) ?_
  refine sb_return ?_
  exact rfl
set_option maxRecDepth 20000 in
theorem cX2_init_195 {P : Px} : EX P 1 kX2_init [.ref 195] (T 19 193 196) (none, T 19 200 203) := by
  refine ex_of oX2_init (Nat.le_of_ble_eq_true rfl) ?_
  show RN P 1 kX2_init 0 [(0, .ref 195)] [] (T 19 193 196) (none, T 19 200 203)
  refine sb_in [(0, .aload_n 0, 1), (1, .invokespecial 5, 3), (4, .aload_n 0, 1), (5, .bipush 16, 2), (7, .newarray .int, 2), (9, .putfield 11, 3), (12, .aload_n 0, 1), (13, .bipush 16, 2), (15, .newarray .int, 2), (17, .putfield 15, 3), (20, .aload_n 0, 1), (21, .bipush 16, 2), (23, .newarray .int, 2), (25, .putfield 18, 3), (28, .aload_n 0, 1), (29, .bipush 16, 2), (31, .newarray .int, 2), (33, .putfield 21, 3), (36, .aload_n 0, 1), (37, .sipush 400, 3), (40, .newarray .int, 2), (42, .putfield 24, 3), (45, .aload_n 0, 1), (46, .bipush 11, 2), (48, .newarray .int, 2), (50, .putfield 27, 3), (53, .aload_n 0, 1), (54, .bipush 32, 2), (56, .newarray .int, 2), (58, .putfield 30, 3), (61, .return_, 1)] 62 (by decide +kernel) ?_
  refine sb_aload_n rfl ?_
  refine sb_obj (rnIn1 (List.mem_of_getElem? (i := 205) rfl)) ctO1 ctO2 (by decide) rfl ?_
  refine sb_aload_n rfl ?_
  refine sb_bipush (v := 16) (by decide +kernel) ?_
  refine ct_newI (N := 16) 197 rfl (by decide +kernel) (by decide +kernel) (by decide +kernel) (by decide +kernel) ar_int (by decide +kernel) ?_
  refine ct_putR (ci := 2) (N := 9) 194 2 rfl (by decide +kernel) (by decide +kernel) (by decide +kernel) (by decide +kernel) (by decide +kernel) ?_
  refine sb_aload_n rfl ?_
  refine sb_bipush (v := 16) (by decide +kernel) ?_
  refine ct_newI (N := 16) 198 rfl (by decide +kernel) (by decide +kernel) (by decide +kernel) (by decide +kernel) ar_int (by decide +kernel) ?_
  refine ct_putR (ci := 2) (N := 9) 195 3 rfl (by decide +kernel) (by decide +kernel) (by decide +kernel) (by decide +kernel) (by decide +kernel) ?_
  refine sb_aload_n rfl ?_
  refine sb_bipush (v := 16) (by decide +kernel) ?_
  refine ct_newI (N := 16) 199 rfl (by decide +kernel) (by decide +kernel) (by decide +kernel) (by decide +kernel) ar_int (by decide +kernel) ?_
  refine ct_putR (ci := 2) (N := 9) 196 4 rfl (by decide +kernel) (by decide +kernel) (by decide +kernel) (by decide +kernel) (by decide +kernel) ?_
  refine sb_aload_n rfl ?_
  refine sb_bipush (v := 16) (by decide +kernel) ?_
  refine ct_newI (N := 16) 200 rfl (by decide +kernel) (by decide +kernel) (by decide +kernel) (by decide +kernel) ar_int (by decide +kernel) ?_
  refine ct_putR (ci := 2) (N := 9) 197 5 rfl (by decide +kernel) (by decide +kernel) (by decide +kernel) (by decide +kernel) (by decide +kernel) ?_
  refine sb_aload_n rfl ?_
  refine sb_sipush (v := 400) (by decide +kernel) ?_
  refine ct_newI (N := 400) 201 rfl (by decide +kernel) (by decide +kernel) (by decide +kernel) (by decide +kernel) ar_int (by decide +kernel) ?_
  refine ct_putR (ci := 2) (N := 9) 198 6 rfl (by decide +kernel) (by decide +kernel) (by decide +kernel) (by decide +kernel) (by decide +kernel) ?_
  refine sb_aload_n rfl ?_
  refine sb_bipush (v := 11) (by decide +kernel) ?_
  refine ct_newI (N := 11) 202 rfl (by decide +kernel) (by decide +kernel) (by decide +kernel) (by decide +kernel) ar_int (by decide +kernel) ?_
  refine ct_putR (ci := 2) (N := 9) 199 7 rfl (by decide +kernel) (by decide +kernel) (by decide +kernel) (by decide +kernel) (by decide +kernel) ?_
  refine sb_aload_n rfl ?_
  refine sb_bipush (v := 32) (by decide +kernel) ?_
  refine ct_newI (N := 32) 203 rfl (by decide +kernel) (by decide +kernel) (by decide +kernel) (by decide +kernel) ar_int (by decide +kernel) ?_
  refine ct_putR (ci := 2) (N := 9) 200 8 rfl (by decide +kernel) (by decide +kernel) (by decide +kernel) (by decide +kernel) (by decide +kernel) ?_
  refine sb_return ?_
  exact rfl
set_option maxRecDepth 20000 in
theorem cX6_init_194 {P : Px} : EX P 2 kX6_init [.ref 194] (T 19 193 195) (none, T 19 207 209) := by
  refine ex_of oX6_init (Nat.le_of_ble_eq_true rfl) ?_
  show RN P 2 kX6_init 0 [(0, .ref 194)] [] (T 19 193 195) (none, T 19 207 209)
  refine sb_in [(0, .aload_n 0, 1), (1, .invokespecial 3, 3), (4, .aload_n 0, 1), (5, .new 9, 3), (8, .dup, 1), (9, .invokespecial 11, 3), (12, .putfield 12, 3), (15, .aload_n 0, 1), (16, .bipush 16, 2), (18, .newarray .int, 2), (20, .putfield 18, 3), (23, .aload_n 0, 1), (24, .bipush 16, 2), (26, .newarray .int, 2), (28, .putfield 22, 3), (31, .aload_n 0, 1), (32, .bipush 16, 2), (34, .newarray .int, 2), (36, .putfield 25, 3), (39, .aload_n 0, 1), (40, .bipush 16, 2), (42, .newarray .int, 2), (44, .putfield 28, 3), (47, .aload_n 0, 1), (48, .bipush 16, 2), (50, .newarray .int, 2), (52, .putfield 31, 3), (55, .aload_n 0, 1), (56, .sipush 144, 3), (59, .newarray .int, 2), (61, .putfield 34, 3), (64, .return_, 1)] 65 (by decide +kernel) ?_
  refine sb_aload_n rfl ?_
  refine sb_obj (rnIn1 (List.mem_of_getElem? (i := 199) rfl)) ctO1 ctO2 (by decide) rfl ?_
  refine sb_aload_n rfl ?_
  refine ct_new (ci := 2) (N := 9) 196 rfl (by decide +kernel) (by decide +kernel) (by decide +kernel) (by decide +kernel) (by decide +kernel) ?_
  refine sb_dup rfl ?_
  refine sb_callIN 0 rfl oX2_init ln6_11 vX2_init rfl rfl (rnCk_of (by decide +kernel) rfl) cX2_init_195 ?_
  refine ct_putR (ci := 6) (N := 10) 201 0 rfl (by decide +kernel) (by decide +kernel) (by decide +kernel) (by decide +kernel) (by decide +kernel) ?_
  refine sb_aload_n rfl ?_
  refine sb_bipush (v := 16) (by decide +kernel) ?_
  refine ct_newI (N := 16) 204 rfl (by decide +kernel) (by decide +kernel) (by decide +kernel) (by decide +kernel) ar_int (by decide +kernel) ?_
  refine ct_putR (ci := 6) (N := 10) 202 2 rfl (by decide +kernel) (by decide +kernel) (by decide +kernel) (by decide +kernel) (by decide +kernel) ?_
  refine sb_aload_n rfl ?_
  refine sb_bipush (v := 16) (by decide +kernel) ?_
  refine ct_newI (N := 16) 205 rfl (by decide +kernel) (by decide +kernel) (by decide +kernel) (by decide +kernel) ar_int (by decide +kernel) ?_
  refine ct_putR (ci := 6) (N := 10) 203 3 rfl (by decide +kernel) (by decide +kernel) (by decide +kernel) (by decide +kernel) (by decide +kernel) ?_
  refine sb_aload_n rfl ?_
  refine sb_bipush (v := 16) (by decide +kernel) ?_
  refine ct_newI (N := 16) 206 rfl (by decide +kernel) (by decide +kernel) (by decide +kernel) (by decide +kernel) ar_int (by decide +kernel) ?_
  refine ct_putR (ci := 6) (N := 10) 204 4 rfl (by decide +kernel) (by decide +kernel) (by decide +kernel) (by decide +kernel) (by decide +kernel) ?_
  refine sb_aload_n rfl ?_
  refine sb_bipush (v := 16) (by decide +kernel) ?_
  refine ct_newI (N := 16) 207 rfl (by decide +kernel) (by decide +kernel) (by decide +kernel) (by decide +kernel) ar_int (by decide +kernel) ?_
  refine ct_putR (ci := 6) (N := 10) 205 5 rfl (by decide +kernel) (by decide +kernel) (by decide +kernel) (by decide +kernel) (by decide +kernel) ?_
  refine sb_aload_n rfl ?_
  refine sb_bipush (v := 16) (by decide +kernel) ?_
  refine ct_newI (N := 16) 208 rfl (by decide +kernel) (by decide +kernel) (by decide +kernel) (by decide +kernel) ar_int (by decide +kernel) ?_
  refine ct_putR (ci := 6) (N := 10) 206 7 rfl (by decide +kernel) (by decide +kernel) (by decide +kernel) (by decide +kernel) (by decide +kernel) ?_
  refine sb_aload_n rfl ?_
  refine sb_sipush (v := 144) (by decide +kernel) ?_
  refine ct_newI (N := 144) 209 rfl (by decide +kernel) (by decide +kernel) (by decide +kernel) (by decide +kernel) ar_int (by decide +kernel) ?_
  refine ct_putR (ci := 6) (N := 10) 207 9 rfl (by decide +kernel) (by decide +kernel) (by decide +kernel) (by decide +kernel) (by decide +kernel) ?_
  refine sb_return ?_
  exact rfl
set_option maxRecDepth 20000 in
theorem cX8_init_209 {P : Px} : EX P 1 kX8_init [.ref 209] (T 19 208 210) (none, T 19 215 217) := by
  refine ex_of oX8_init (Nat.le_of_ble_eq_true rfl) ?_
  show RN P 1 kX8_init 0 [(0, .ref 209)] [] (T 19 208 210) (none, T 19 215 217)
  refine sb_in [(0, .aload_n 0, 1), (1, .invokespecial 3, 3), (4, .aload_n 0, 1), (5, .bipush 8, 2), (7, .newarray .int, 2), (9, .putfield 11, 3), (12, .aload_n 0, 1), (13, .bipush 12, 2), (15, .newarray .int, 2), (17, .putfield 15, 3), (20, .aload_n 0, 1), (21, .bipush 26, 2), (23, .newarray .int, 2), (25, .putfield 18, 3), (28, .aload_n 0, 1), (29, .bipush 26, 2), (31, .newarray .int, 2), (33, .putfield 21, 3), (36, .aload_n 0, 1), (37, .bipush 49, 2), (39, .newarray .int, 2), (41, .putfield 24, 3), (44, .aload_n 0, 1), (45, .bipush 8, 2), (47, .newarray .int, 2), (49, .putfield 27, 3), (52, .aload_n 0, 1), (53, .bipush 8, 2), (55, .newarray .int, 2), (57, .putfield 30, 3), (60, .return_, 1)] 61 (by decide +kernel) ?_
  refine sb_aload_n rfl ?_
  refine sb_obj (rnIn2 (List.mem_of_getElem? (i := 56) rfl)) ctO1 ctO2 (by decide) rfl ?_
  refine sb_aload_n rfl ?_
  refine sb_bipush (v := 8) (by decide +kernel) ?_
  refine ct_newI (N := 8) 211 rfl (by decide +kernel) (by decide +kernel) (by decide +kernel) (by decide +kernel) ar_int (by decide +kernel) ?_
  refine ct_putR (ci := 8) (N := 12) 209 1 rfl (by decide +kernel) (by decide +kernel) (by decide +kernel) (by decide +kernel) (by decide +kernel) ?_
  refine sb_aload_n rfl ?_
  refine sb_bipush (v := 12) (by decide +kernel) ?_
  refine ct_newI (N := 12) 212 rfl (by decide +kernel) (by decide +kernel) (by decide +kernel) (by decide +kernel) ar_int (by decide +kernel) ?_
  refine ct_putR (ci := 8) (N := 12) 210 3 rfl (by decide +kernel) (by decide +kernel) (by decide +kernel) (by decide +kernel) (by decide +kernel) ?_
  refine sb_aload_n rfl ?_
  refine sb_bipush (v := 26) (by decide +kernel) ?_
  refine ct_newI (N := 26) 213 rfl (by decide +kernel) (by decide +kernel) (by decide +kernel) (by decide +kernel) ar_int (by decide +kernel) ?_
  refine ct_putR (ci := 8) (N := 12) 211 4 rfl (by decide +kernel) (by decide +kernel) (by decide +kernel) (by decide +kernel) (by decide +kernel) ?_
  refine sb_aload_n rfl ?_
  refine sb_bipush (v := 26) (by decide +kernel) ?_
  refine ct_newI (N := 26) 214 rfl (by decide +kernel) (by decide +kernel) (by decide +kernel) (by decide +kernel) ar_int (by decide +kernel) ?_
  refine ct_putR (ci := 8) (N := 12) 212 6 rfl (by decide +kernel) (by decide +kernel) (by decide +kernel) (by decide +kernel) (by decide +kernel) ?_
  refine sb_aload_n rfl ?_
  refine sb_bipush (v := 49) (by decide +kernel) ?_
  refine ct_newI (N := 49) 215 rfl (by decide +kernel) (by decide +kernel) (by decide +kernel) (by decide +kernel) ar_int (by decide +kernel) ?_
  refine ct_putR (ci := 8) (N := 12) 213 8 rfl (by decide +kernel) (by decide +kernel) (by decide +kernel) (by decide +kernel) (by decide +kernel) ?_
  refine sb_aload_n rfl ?_
  refine sb_bipush (v := 8) (by decide +kernel) ?_
  refine ct_newI (N := 8) 216 rfl (by decide +kernel) (by decide +kernel) (by decide +kernel) (by decide +kernel) ar_int (by decide +kernel) ?_
  refine ct_putR (ci := 8) (N := 12) 214 10 rfl (by decide +kernel) (by decide +kernel) (by decide +kernel) (by decide +kernel) (by decide +kernel) ?_
  refine sb_aload_n rfl ?_
  refine sb_bipush (v := 8) (by decide +kernel) ?_
  refine ct_newI (N := 8) 217 rfl (by decide +kernel) (by decide +kernel) (by decide +kernel) (by decide +kernel) ar_int (by decide +kernel) ?_
  refine ct_putR (ci := 8) (N := 12) 215 11 rfl (by decide +kernel) (by decide +kernel) (by decide +kernel) (by decide +kernel) (by decide +kernel) ?_
  refine sb_return ?_
  exact rfl
set_option maxRecDepth 20000 in
theorem cX11_init_0 {P : Px} : EX P 4 kX11_init [.ref 0] (T 0 0 1) (none, T 19 216 217) := by
  refine ex_of oX11_init (Nat.le_of_ble_eq_true rfl) ?_
  show RN P 4 kX11_init 0 [(0, .ref 0)] [] (T 0 0 1) (none, T 19 216 217)
  refine sb_in [(0, .aload_n 0, 1), (1, .invokespecial 5, 3), (4, .aload_n 0, 1), (5, .new 11, 3), (8, .dup, 1), (9, .iconst 0, 1), (10, .iconst 1, 1), (11, .invokespecial 13, 3), (14, .putfield 16, 3), (17, .aload_n 0, 1), (18, .new 11, 3), (21, .dup, 1), (22, .iconst 1, 1), (23, .iconst 0, 1), (24, .invokespecial 13, 3), (27, .putfield 20, 3), (30, .aload_n 0, 1), (31, .new 23, 3), (34, .dup, 1), (35, .invokespecial 25, 3), (38, .putfield 26, 3), (41, .aload_n 0, 1), (42, .new 30, 3), (45, .dup, 1), (46, .invokespecial 32, 3), (49, .putfield 33, 3), (52, .aload_n 0, 1), (53, .new 37, 3), (56, .dup, 1), (57, .invokespecial 39, 3), (60, .putfield 40, 3), (63, .aload_n 0, 1), (64, .new 44, 3), (67, .dup, 1), (68, .invokespecial 46, 3), (71, .putfield 47, 3), (74, .aload_n 0, 1), (75, .new 51, 3), (78, .dup, 1), (79, .invokespecial 53, 3)] 82 (by decide +kernel) ?_
  refine sb_aload_n rfl ?_
  refine sb_obj (rnIn1 (List.mem_of_getElem? (i := 28) rfl)) ctO1 ctO2 (by decide) rfl ?_
  refine sb_aload_n rfl ?_
  refine ct_new (ci := 10) (N := 14) 2 rfl (by decide +kernel) (by decide +kernel) (by decide +kernel) (by decide +kernel) (by decide +kernel) ?_
  refine sb_dup rfl ?_
  refine sb_iconst (v := 0) (by decide +kernel) ?_
  refine sb_iconst (v := 1) (by decide +kernel) ?_
  refine sb_callI 2 rfl oX10_init ln11_13 vX10_init rfl rfl (rnCk_of (by decide +kernel) rfl) cX10_init_1 ?_
  refine ct_putR (ci := 11) (N := 15) 15 0 rfl (by decide +kernel) (by decide +kernel) (by decide +kernel) (by decide +kernel) (by decide +kernel) ?_
  refine sb_aload_n rfl ?_
  refine ct_new (ci := 10) (N := 14) 17 rfl (by decide +kernel) (by decide +kernel) (by decide +kernel) (by decide +kernel) (by decide +kernel) ?_
  refine sb_dup rfl ?_
  refine sb_iconst (v := 1) (by decide +kernel) ?_
  refine sb_iconst (v := 0) (by decide +kernel) ?_
  refine sb_callI 2 rfl oX10_init ln11_13 vX10_init rfl rfl (rnCk_of (by decide +kernel) rfl) cX10_init_16 ?_
  refine ct_putR (ci := 11) (N := 15) 30 1 rfl (by decide +kernel) (by decide +kernel) (by decide +kernel) (by decide +kernel) (by decide +kernel) ?_
  refine sb_aload_n rfl ?_
  refine ct_new (ci := 4) (N := 3) 32 rfl (by decide +kernel) (by decide +kernel) (by decide +kernel) (by decide +kernel) (by decide +kernel) ?_
  refine sb_dup rfl ?_
  refine sb_callI 0 rfl oX4_init ln11_25 vX4_init rfl rfl (rnCk_of (by decide +kernel) rfl) cX4_init_31 ?_
  refine ct_putR (ci := 11) (N := 15) 122 2 rfl (by decide +kernel) (by decide +kernel) (by decide +kernel) (by decide +kernel) (by decide +kernel) ?_
  refine sb_aload_n rfl ?_
  refine ct_new (ci := 6) (N := 10) 124 rfl (by decide +kernel) (by decide +kernel) (by decide +kernel) (by decide +kernel) (by decide +kernel) ?_
  refine sb_dup rfl ?_
  refine sb_callIN 0 rfl oX6_init ln11_32 vX6_init rfl rfl (rnCk_of (by decide +kernel) rfl) cX6_init_123 ?_
  refine ct_putR (ci := 11) (N := 15) 137 3 rfl (by decide +kernel) (by decide +kernel) (by decide +kernel) (by decide +kernel) (by decide +kernel) ?_
  refine sb_aload_n rfl ?_
  refine ct_new (ci := 8) (N := 12) 139 rfl (by decide +kernel) (by decide +kernel) (by decide +kernel) (by decide +kernel) (by decide +kernel) ?_
  refine sb_dup rfl ?_
  refine sb_callIN 0 rfl oX8_init ln11_39 vX8_init rfl rfl (rnCk_of (by decide +kernel) rfl) cX8_init_138 ?_
  refine ct_putR (ci := 11) (N := 15) 145 4 rfl (by decide +kernel) (by decide +kernel) (by decide +kernel) (by decide +kernel) (by decide +kernel) ?_
  refine sb_aload_n rfl ?_
  refine ct_new (ci := 5) (N := 9) 147 rfl (by decide +kernel) (by decide +kernel) (by decide +kernel) (by decide +kernel) (by decide +kernel) ?_
  refine sb_dup rfl ?_
  refine sb_callIN 0 rfl oX5_init ln11_46 vX5_init rfl rfl (rnCk_of (by decide +kernel) rfl) cX5_init_146 ?_
  refine ct_putR (ci := 11) (N := 15) 167 5 rfl (by decide +kernel) (by decide +kernel) (by decide +kernel) (by decide +kernel) (by decide +kernel) ?_
  refine sb_aload_n rfl ?_
  refine ct_new (ci := 3) (N := 4) 169 rfl (by decide +kernel) (by decide +kernel) (by decide +kernel) (by decide +kernel) (by decide +kernel) ?_
  refine sb_dup rfl ?_
  refine sb_callIN 0 rfl oX3_init ln11_53 vX3_init rfl rfl (rnCk_of (by decide +kernel) rfl) cX3_init_168 ?_
  refine sb_end ?_
  refine sb_in [(82, .putfield 54, 3), (85, .aload_n 0, 1), (86, .new 3, 3), (89, .dup, 1), (90, .invokespecial 58, 3), (93, .putfield 59, 3), (96, .aload_n 0, 1), (97, .iconst 0, 1), (98, .newarray .int, 2), (100, .putfield 63, 3), (103, .aload_n 0, 1), (104, .sipush 400, 3), (107, .newarray .byte, 2), (109, .putfield 67, 3), (112, .aload_n 0, 1), (113, .new 11, 3), (116, .dup, 1), (117, .iconst 0, 1), (118, .iconst 1, 1), (119, .invokespecial 13, 3), (122, .putfield 71, 3), (125, .aload_n 0, 1), (126, .new 30, 3), (129, .dup, 1), (130, .invokespecial 32, 3), (133, .putfield 74, 3), (136, .aload_n 0, 1), (137, .new 37, 3), (140, .dup, 1), (141, .invokespecial 39, 3), (144, .putfield 77, 3), (147, .return_, 1)] 148 (by decide +kernel) ?_
  refine ct_putR (ci := 11) (N := 15) 172 6 rfl (by decide +kernel) (by decide +kernel) (by decide +kernel) (by decide +kernel) (by decide +kernel) ?_
  refine sb_aload_n rfl ?_
  refine ct_new (ci := 9) (N := 3) 174 rfl (by decide +kernel) (by decide +kernel) (by decide +kernel) (by decide +kernel) (by decide +kernel) ?_
  refine sb_dup rfl ?_
  refine sb_callIN 0 rfl oX9_init ln11_58 vX9_init rfl rfl (rnCk_of (by decide +kernel) rfl) cX9_init_173 ?_
  refine ct_putR (ci := 11) (N := 15) 176 7 rfl (by decide +kernel) (by decide +kernel) (by decide +kernel) (by decide +kernel) (by decide +kernel) ?_
  refine sb_aload_n rfl ?_
  refine sb_iconst (v := 0) (by decide +kernel) ?_
  refine ct_newI (N := 0) 178 rfl (by decide +kernel) (by decide +kernel) (by decide +kernel) (by decide +kernel) ar_int (by decide +kernel) ?_
  refine ct_putR (ci := 11) (N := 15) 177 8 rfl (by decide +kernel) (by decide +kernel) (by decide +kernel) (by decide +kernel) (by decide +kernel) ?_
  refine sb_aload_n rfl ?_
  refine sb_sipush (v := 400) (by decide +kernel) ?_
  refine ct_newB (N := 400) 179 rfl (by decide +kernel) (by decide +kernel) (by decide +kernel) (by decide +kernel) ar_byte (by decide +kernel) ?_
  refine ct_putR (ci := 11) (N := 15) 178 9 rfl (by decide +kernel) (by decide +kernel) (by decide +kernel) (by decide +kernel) (by decide +kernel) ?_
  refine sb_aload_n rfl ?_
  refine ct_new (ci := 10) (N := 14) 180 rfl (by decide +kernel) (by decide +kernel) (by decide +kernel) (by decide +kernel) (by decide +kernel) ?_
  refine sb_dup rfl ?_
  refine sb_iconst (v := 0) (by decide +kernel) ?_
  refine sb_iconst (v := 1) (by decide +kernel) ?_
  refine sb_callI 2 rfl oX10_init ln11_13 vX10_init rfl rfl (rnCk_of (by decide +kernel) rfl) cX10_init_179 ?_
  refine ct_putR (ci := 11) (N := 15) 193 11 rfl (by decide +kernel) (by decide +kernel) (by decide +kernel) (by decide +kernel) (by decide +kernel) ?_
  refine sb_aload_n rfl ?_
  refine ct_new (ci := 6) (N := 10) 195 rfl (by decide +kernel) (by decide +kernel) (by decide +kernel) (by decide +kernel) (by decide +kernel) ?_
  refine sb_dup rfl ?_
  refine sb_callIN 0 rfl oX6_init ln11_32 vX6_init rfl rfl (rnCk_of (by decide +kernel) rfl) cX6_init_194 ?_
  refine ct_putR (ci := 11) (N := 15) 208 12 rfl (by decide +kernel) (by decide +kernel) (by decide +kernel) (by decide +kernel) (by decide +kernel) ?_
  refine sb_aload_n rfl ?_
  refine ct_new (ci := 8) (N := 12) 210 rfl (by decide +kernel) (by decide +kernel) (by decide +kernel) (by decide +kernel) (by decide +kernel) ?_
  refine sb_dup rfl ?_
  refine sb_callIN 0 rfl oX8_init ln11_39 vX8_init rfl rfl (rnCk_of (by decide +kernel) rfl) cX8_init_209 ?_
  refine ct_putR (ci := 11) (N := 15) 216 13 rfl (by decide +kernel) (by decide +kernel) (by decide +kernel) (by decide +kernel) (by decide +kernel) ?_
  refine sb_return ?_
  exact rfl
set_option maxRecDepth 20000 in
theorem cX12_init_217 {P : Px} : EX P 1 kX12_init [.ref 217] (T 19 216 218) (none, T 173 250 252) := by
  refine ex_of oX12_init (Nat.le_of_ble_eq_true rfl) ?_
  show RN P 1 kX12_init 0 [(0, .ref 217)] [] (T 19 216 218) (none, T 173 250 252)
  refine sb_in [(0, .aload_n 0, 1), (1, .invokespecial 1, 3), (4, .aload_n 0, 1), (5, .sipush 174, 3), (8, .newarray .int, 2), (10, .putfield 7, 3), (13, .aload_n 0, 1), (14, .sipush 1044, 3), (17, .newarray .int, 2), (19, .putfield 13, 3), (22, .aload_n 0, 1), (23, .sipush 174, 3), (26, .newarray .int, 2), (28, .putfield 16, 3), (31, .aload_n 0, 1), (32, .bipush 12, 2), (34, .newarray .int, 2), (36, .putfield 19, 3), (39, .aload_n 0, 1), (40, .sipush 600, 3), (43, .newarray .int, 2), (45, .putfield 22, 3), (48, .aload_n 0, 1), (49, .sipush 400, 3), (52, .newarray .int, 2), (54, .putfield 25, 3), (57, .aload_n 0, 1), (58, .sipush 153, 3), (61, .newarray .int, 2), (63, .dup, 1), (64, .iconst 0, 1), (65, .bipush 32, 2), (67, .iastore, 1), (68, .dup, 1), (69, .iconst 1, 1), (70, .bipush 111, 2), (72, .iastore, 1), (73, .dup, 1), (74, .iconst 2, 1), (75, .bipush 112, 2)] 77 (by decide +kernel) ?_
  refine sb_aload_n rfl ?_
  refine sb_obj (rnIn6 (List.mem_of_getElem? (i := 22) rfl)) ctO1 ctO2 (by decide) rfl ?_
  refine sb_aload_n rfl ?_
  refine sb_sipush (v := 174) (by decide +kernel) ?_
  refine ct_newI (N := 174) 219 rfl (by decide +kernel) (by decide +kernel) (by decide +kernel) (by decide +kernel) ar_int (by decide +kernel) ?_
  refine ct_putR (ci := 12) (N := 64) 217 1 rfl (by decide +kernel) (by decide +kernel) (by decide +kernel) (by decide +kernel) (by decide +kernel) ?_
  refine sb_aload_n rfl ?_
  refine sb_sipush (v := 1044) (by decide +kernel) ?_
  refine ct_newI (N := 1044) 220 rfl (by decide +kernel) (by decide +kernel) (by decide +kernel) (by decide +kernel) ar_int (by decide +kernel) ?_
  refine ct_putR (ci := 12) (N := 64) 218 2 rfl (by decide +kernel) (by decide +kernel) (by decide +kernel) (by decide +kernel) (by decide +kernel) ?_
  refine sb_aload_n rfl ?_
  refine sb_sipush (v := 174) (by decide +kernel) ?_
  refine ct_newI (N := 174) 221 rfl (by decide +kernel) (by decide +kernel) (by decide +kernel) (by decide +kernel) ar_int (by decide +kernel) ?_
  refine ct_putR (ci := 12) (N := 64) 219 4 rfl (by decide +kernel) (by decide +kernel) (by decide +kernel) (by decide +kernel) (by decide +kernel) ?_
  refine sb_aload_n rfl ?_
  refine sb_bipush (v := 12) (by decide +kernel) ?_
  refine ct_newI (N := 12) 222 rfl (by decide +kernel) (by decide +kernel) (by decide +kernel) (by decide +kernel) ar_int (by decide +kernel) ?_
  refine ct_putR (ci := 12) (N := 64) 220 7 rfl (by decide +kernel) (by decide +kernel) (by decide +kernel) (by decide +kernel) (by decide +kernel) ?_
  refine sb_aload_n rfl ?_
  refine sb_sipush (v := 600) (by decide +kernel) ?_
  refine ct_newI (N := 600) 223 rfl (by decide +kernel) (by decide +kernel) (by decide +kernel) (by decide +kernel) ar_int (by decide +kernel) ?_
  refine ct_putR (ci := 12) (N := 64) 221 8 rfl (by decide +kernel) (by decide +kernel) (by decide +kernel) (by decide +kernel) (by decide +kernel) ?_
  refine sb_aload_n rfl ?_
  refine sb_sipush (v := 400) (by decide +kernel) ?_
  refine ct_newI (N := 400) 224 rfl (by decide +kernel) (by decide +kernel) (by decide +kernel) (by decide +kernel) ar_int (by decide +kernel) ?_
  refine ct_putR (ci := 12) (N := 64) 222 9 rfl (by decide +kernel) (by decide +kernel) (by decide +kernel) (by decide +kernel) (by decide +kernel) ?_
  refine sb_aload_n rfl ?_
  refine sb_sipush (v := 153) (by decide +kernel) ?_
  refine ct_newI (N := 153) 225 rfl (by decide +kernel) (by decide +kernel) (by decide +kernel) (by decide +kernel) ar_int (by decide +kernel) ?_
  refine sb_dup rfl ?_
  refine sb_iconst (v := 0) (by decide +kernel) ?_
  refine sb_bipush (v := 32) (by decide +kernel) ?_
  refine ct_iast (N := 153) 20 0 rfl (by decide +kernel) (by decide +kernel) (by decide +kernel) (by decide +kernel) (by decide +kernel) ?_
  refine sb_dup rfl ?_
  refine sb_iconst (v := 1) (by decide +kernel) ?_
  refine sb_bipush (v := 111) (by decide +kernel) ?_
  refine ct_iast (N := 153) 21 1 rfl (by decide +kernel) (by decide +kernel) (by decide +kernel) (by decide +kernel) (by decide +kernel) ?_
  refine sb_dup rfl ?_
  refine sb_iconst (v := 2) (by decide +kernel) ?_
  refine sb_bipush (v := 112) (by decide +kernel) ?_
  refine sb_end ?_
  refine sb_in [(77, .iastore, 1), (78, .dup, 1), (79, .iconst 3, 1), (80, .bipush 101, 2), (82, .iastore, 1), (83, .dup, 1), (84, .iconst 4, 1), (85, .bipush 110, 2), (87, .iastore, 1), (88, .dup, 1), (89, .iconst 5, 1), (90, .bipush 115, 2), (92, .iastore, 1), (93, .dup, 1), (94, .bipush 6, 2), (96, .bipush 32, 2), (98, .iastore, 1), (99, .dup, 1), (100, .bipush 7, 2), (102, .bipush 103, 2), (104, .iastore, 1), (105, .dup, 1), (106, .bipush 8, 2), (108, .bipush 105, 2), (110, .iastore, 1), (111, .dup, 1), (112, .bipush 9, 2), (114, .bipush 118, 2), (116, .iastore, 1), (117, .dup, 1), (118, .bipush 10, 2), (120, .bipush 101, 2), (122, .iastore, 1), (123, .dup, 1), (124, .bipush 11, 2), (126, .bipush 115, 2), (128, .iastore, 1), (129, .dup, 1), (130, .bipush 12, 2), (132, .bipush 32, 2)] 134 (by decide +kernel) ?_
  refine ct_iast (N := 153) 22 2 rfl (by decide +kernel) (by decide +kernel) (by decide +kernel) (by decide +kernel) (by decide +kernel) ?_
  refine sb_dup rfl ?_
  refine sb_iconst (v := 3) (by decide +kernel) ?_
  refine sb_bipush (v := 101) (by decide +kernel) ?_
  refine ct_iast (N := 153) 23 3 rfl (by decide +kernel) (by decide +kernel) (by decide +kernel) (by decide +kernel) (by decide +kernel) ?_
  refine sb_dup rfl ?_
  refine sb_iconst (v := 4) (by decide +kernel) ?_
  refine sb_bipush (v := 110) (by decide +kernel) ?_
  refine ct_iast (N := 153) 24 4 rfl (by decide +kernel) (by decide +kernel) (by decide +kernel) (by decide +kernel) (by decide +kernel) ?_
  refine sb_dup rfl ?_
  refine sb_iconst (v := 5) (by decide +kernel) ?_
  refine sb_bipush (v := 115) (by decide +kernel) ?_
  refine ct_iast (N := 153) 25 5 rfl (by decide +kernel) (by decide +kernel) (by decide +kernel) (by decide +kernel) (by decide +kernel) ?_
  refine sb_dup rfl ?_
  refine sb_bipush (v := 6) (by decide +kernel) ?_
  refine sb_bipush (v := 32) (by decide +kernel) ?_
  refine ct_iast (N := 153) 26 6 rfl (by decide +kernel) (by decide +kernel) (by decide +kernel) (by decide +kernel) (by decide +kernel) ?_
  refine sb_dup rfl ?_
  refine sb_bipush (v := 7) (by decide +kernel) ?_
  refine sb_bipush (v := 103) (by decide +kernel) ?_
  refine ct_iast (N := 153) 27 7 rfl (by decide +kernel) (by decide +kernel) (by decide +kernel) (by decide +kernel) (by decide +kernel) ?_
  refine sb_dup rfl ?_
  refine sb_bipush (v := 8) (by decide +kernel) ?_
  refine sb_bipush (v := 105) (by decide +kernel) ?_
  refine ct_iast (N := 153) 28 8 rfl (by decide +kernel) (by decide +kernel) (by decide +kernel) (by decide +kernel) (by decide +kernel) ?_
  refine sb_dup rfl ?_
  refine sb_bipush (v := 9) (by decide +kernel) ?_
  refine sb_bipush (v := 118) (by decide +kernel) ?_
  refine ct_iast (N := 153) 29 9 rfl (by decide +kernel) (by decide +kernel) (by decide +kernel) (by decide +kernel) (by decide +kernel) ?_
  refine sb_dup rfl ?_
  refine sb_bipush (v := 10) (by decide +kernel) ?_
  refine sb_bipush (v := 101) (by decide +kernel) ?_
  refine ct_iast (N := 153) 30 10 rfl (by decide +kernel) (by decide +kernel) (by decide +kernel) (by decide +kernel) (by decide +kernel) ?_
  refine sb_dup rfl ?_
  refine sb_bipush (v := 11) (by decide +kernel) ?_
  refine sb_bipush (v := 115) (by decide +kernel) ?_
  refine ct_iast (N := 153) 31 11 rfl (by decide +kernel) (by decide +kernel) (by decide +kernel) (by decide +kernel) (by decide +kernel) ?_
  refine sb_dup rfl ?_
  refine sb_bipush (v := 12) (by decide +kernel) ?_
  refine sb_bipush (v := 32) (by decide +kernel) ?_
  refine sb_end ?_
  refine sb_in [(134, .iastore, 1), (135, .dup, 1), (136, .bipush 13, 2), (138, .bipush 116, 2), (140, .iastore, 1), (141, .dup, 1), (142, .bipush 14, 2), (144, .bipush 105, 2), (146, .iastore, 1), (147, .dup, 1), (148, .bipush 15, 2), (150, .bipush 114, 2), (152, .iastore, 1), (153, .dup, 1), (154, .bipush 16, 2), (156, .bipush 101, 2), (158, .iastore, 1), (159, .dup, 1), (160, .bipush 17, 2), (162, .bipush 115, 2), (164, .iastore, 1), (165, .dup, 1), (166, .bipush 18, 2), (168, .bipush 32, 2), (170, .iastore, 1), (171, .dup, 1), (172, .bipush 19, 2), (174, .bipush 119, 2), (176, .iastore, 1), (177, .dup, 1), (178, .bipush 20, 2), (180, .bipush 104, 2), (182, .iastore, 1), (183, .dup, 1), (184, .bipush 21, 2), (186, .bipush 101, 2), (188, .iastore, 1), (189, .dup, 1), (190, .bipush 22, 2), (192, .bipush 110, 2)] 194 (by decide +kernel) ?_
  refine ct_iast (N := 153) 32 12 rfl (by decide +kernel) (by decide +kernel) (by decide +kernel) (by decide +kernel) (by decide +kernel) ?_
  refine sb_dup rfl ?_
  refine sb_bipush (v := 13) (by decide +kernel) ?_
  refine sb_bipush (v := 116) (by decide +kernel) ?_
  refine ct_iast (N := 153) 33 13 rfl (by decide +kernel) (by decide +kernel) (by decide +kernel) (by decide +kernel) (by decide +kernel) ?_
  refine sb_dup rfl ?_
  refine sb_bipush (v := 14) (by decide +kernel) ?_
  refine sb_bipush (v := 105) (by decide +kernel) ?_
  refine ct_iast (N := 153) 34 14 rfl (by decide +kernel) (by decide +kernel) (by decide +kernel) (by decide +kernel) (by decide +kernel) ?_
  refine sb_dup rfl ?_
  refine sb_bipush (v := 15) (by decide +kernel) ?_
  refine sb_bipush (v := 114) (by decide +kernel) ?_
  refine ct_iast (N := 153) 35 15 rfl (by decide +kernel) (by decide +kernel) (by decide +kernel) (by decide +kernel) (by decide +kernel) ?_
  refine sb_dup rfl ?_
  refine sb_bipush (v := 16) (by decide +kernel) ?_
  refine sb_bipush (v := 101) (by decide +kernel) ?_
  refine ct_iast (N := 153) 36 16 rfl (by decide +kernel) (by decide +kernel) (by decide +kernel) (by decide +kernel) (by decide +kernel) ?_
  refine sb_dup rfl ?_
  refine sb_bipush (v := 17) (by decide +kernel) ?_
  refine sb_bipush (v := 115) (by decide +kernel) ?_
  refine ct_iast (N := 153) 37 17 rfl (by decide +kernel) (by decide +kernel) (by decide +kernel) (by decide +kernel) (by decide +kernel) ?_
  refine sb_dup rfl ?_
  refine sb_bipush (v := 18) (by decide +kernel) ?_
  refine sb_bipush (v := 32) (by decide +kernel) ?_
  refine ct_iast (N := 153) 38 18 rfl (by decide +kernel) (by decide +kernel) (by decide +kernel) (by decide +kernel) (by decide +kernel) ?_
  refine sb_dup rfl ?_
  refine sb_bipush (v := 19) (by decide +kernel) ?_
  refine sb_bipush (v := 119) (by decide +kernel) ?_
  refine ct_iast (N := 153) 39 19 rfl (by decide +kernel) (by decide +kernel) (by decide +kernel) (by decide +kernel) (by decide +kernel) ?_
  refine sb_dup rfl ?_
  refine sb_bipush (v := 20) (by decide +kernel) ?_
  refine sb_bipush (v := 104) (by decide +kernel) ?_
  refine ct_iast (N := 153) 40 20 rfl (by decide +kernel) (by decide +kernel) (by decide +kernel) (by decide +kernel) (by decide +kernel) ?_
  refine sb_dup rfl ?_
  refine sb_bipush (v := 21) (by decide +kernel) ?_
  refine sb_bipush (v := 101) (by decide +kernel) ?_
  refine ct_iast (N := 153) 41 21 rfl (by decide +kernel) (by decide +kernel) (by decide +kernel) (by decide +kernel) (by decide +kernel) ?_
  refine sb_dup rfl ?_
  refine sb_bipush (v := 22) (by decide +kernel) ?_
  refine sb_bipush (v := 110) (by decide +kernel) ?_
  refine sb_end ?_
  refine sb_in [(194, .iastore, 1), (195, .dup, 1), (196, .bipush 23, 2), (198, .bipush 32, 2), (200, .iastore, 1), (201, .dup, 1), (202, .bipush 24, 2), (204, .bipush 111, 2), (206, .iastore, 1), (207, .dup, 1), (208, .bipush 25, 2), (210, .bipush 114, 2), (212, .iastore, 1), (213, .dup, 1), (214, .bipush 26, 2), (216, .bipush 32, 2), (218, .iastore, 1), (219, .dup, 1), (220, .bipush 27, 2), (222, .bipush 97, 2), (224, .iastore, 1), (225, .dup, 1), (226, .bipush 28, 2), (228, .bipush 110, 2), (230, .iastore, 1), (231, .dup, 1), (232, .bipush 29, 2), (234, .bipush 100, 2), (236, .iastore, 1), (237, .dup, 1), (238, .bipush 30, 2), (240, .bipush 32, 2), (242, .iastore, 1), (243, .dup, 1), (244, .bipush 31, 2), (246, .bipush 110, 2), (248, .iastore, 1), (249, .dup, 1), (250, .bipush 32, 2), (252, .bipush 111, 2)] 254 (by decide +kernel) ?_
  refine ct_iast (N := 153) 42 22 rfl (by decide +kernel) (by decide +kernel) (by decide +kernel) (by decide +kernel) (by decide +kernel) ?_
  refine sb_dup rfl ?_
  refine sb_bipush (v := 23) (by decide +kernel) ?_
  refine sb_bipush (v := 32) (by decide +kernel) ?_
  refine ct_iast (N := 153) 43 23 rfl (by decide +kernel) (by decide +kernel) (by decide +kernel) (by decide +kernel) (by decide +kernel) ?_
  refine sb_dup rfl ?_
  refine sb_bipush (v := 24) (by decide +kernel) ?_
  refine sb_bipush (v := 111) (by decide +kernel) ?_
  refine ct_iast (N := 153) 44 24 rfl (by decide +kernel) (by decide +kernel) (by decide +kernel) (by decide +kernel) (by decide +kernel) ?_
  refine sb_dup rfl ?_
  refine sb_bipush (v := 25) (by decide +kernel) ?_
  refine sb_bipush (v := 114) (by decide +kernel) ?_
  refine ct_iast (N := 153) 45 25 rfl (by decide +kernel) (by decide +kernel) (by decide +kernel) (by decide +kernel) (by decide +kernel) ?_
  refine sb_dup rfl ?_
  refine sb_bipush (v := 26) (by decide +kernel) ?_
  refine sb_bipush (v := 32) (by decide +kernel) ?_
  refine ct_iast (N := 153) 46 26 rfl (by decide +kernel) (by decide +kernel) (by decide +kernel) (by decide +kernel) (by decide +kernel) ?_
  refine sb_dup rfl ?_
  refine sb_bipush (v := 27) (by decide +kernel) ?_
  refine sb_bipush (v := 97) (by decide +kernel) ?_
  refine ct_iast (N := 153) 47 27 rfl (by decide +kernel) (by decide +kernel) (by decide +kernel) (by decide +kernel) (by decide +kernel) ?_
  refine sb_dup rfl ?_
  refine sb_bipush (v := 28) (by decide +kernel) ?_
  refine sb_bipush (v := 110) (by decide +kernel) ?_
  refine ct_iast (N := 153) 48 28 rfl (by decide +kernel) (by decide +kernel) (by decide +kernel) (by decide +kernel) (by decide +kernel) ?_
  refine sb_dup rfl ?_
  refine sb_bipush (v := 29) (by decide +kernel) ?_
  refine sb_bipush (v := 100) (by decide +kernel) ?_
  refine ct_iast (N := 153) 49 29 rfl (by decide +kernel) (by decide +kernel) (by decide +kernel) (by decide +kernel) (by decide +kernel) ?_
  refine sb_dup rfl ?_
  refine sb_bipush (v := 30) (by decide +kernel) ?_
  refine sb_bipush (v := 32) (by decide +kernel) ?_
  refine ct_iast (N := 153) 50 30 rfl (by decide +kernel) (by decide +kernel) (by decide +kernel) (by decide +kernel) (by decide +kernel) ?_
  refine sb_dup rfl ?_
  refine sb_bipush (v := 31) (by decide +kernel) ?_
  refine sb_bipush (v := 110) (by decide +kernel) ?_
  refine ct_iast (N := 153) 51 31 rfl (by decide +kernel) (by decide +kernel) (by decide +kernel) (by decide +kernel) (by decide +kernel) ?_
  refine sb_dup rfl ?_
  refine sb_bipush (v := 32) (by decide +kernel) ?_
  refine sb_bipush (v := 111) (by decide +kernel) ?_
  refine sb_end ?_
  refine sb_in [(254, .iastore, 1), (255, .dup, 1), (256, .bipush 33, 2), (258, .bipush 116, 2), (260, .iastore, 1), (261, .dup, 1), (262, .bipush 34, 2), (264, .bipush 32, 2), (266, .iastore, 1), (267, .dup, 1), (268, .bipush 35, 2), (270, .bipush 107, 2), (272, .iastore, 1), (273, .dup, 1), (274, .bipush 36, 2), (276, .bipush 105, 2), (278, .iastore, 1), (279, .dup, 1), (280, .bipush 37, 2), (282, .bipush 110, 2), (284, .iastore, 1), (285, .dup, 1), (286, .bipush 38, 2), (288, .bipush 100, 2), (290, .iastore, 1), (291, .dup, 1), (292, .bipush 39, 2), (294, .bipush 32, 2), (296, .iastore, 1), (297, .dup, 1), (298, .bipush 40, 2), (300, .bipush 109, 2), (302, .iastore, 1), (303, .dup, 1), (304, .bipush 41, 2), (306, .bipush 117, 2), (308, .iastore, 1), (309, .dup, 1), (310, .bipush 42, 2), (312, .bipush 99, 2)] 314 (by decide +kernel) ?_
  refine ct_iast (N := 153) 52 32 rfl (by decide +kernel) (by decide +kernel) (by decide +kernel) (by decide +kernel) (by decide +kernel) ?_
  refine sb_dup rfl ?_
  refine sb_bipush (v := 33) (by decide +kernel) ?_
  refine sb_bipush (v := 116) (by decide +kernel) ?_
  refine ct_iast (N := 153) 53 33 rfl (by decide +kernel) (by decide +kernel) (by decide +kernel) (by decide +kernel) (by decide +kernel) ?_
  refine sb_dup rfl ?_
  refine sb_bipush (v := 34) (by decide +kernel) ?_
  refine sb_bipush (v := 32) (by decide +kernel) ?_
  refine ct_iast (N := 153) 54 34 rfl (by decide +kernel) (by decide +kernel) (by decide +kernel) (by decide +kernel) (by decide +kernel) ?_
  refine sb_dup rfl ?_
  refine sb_bipush (v := 35) (by decide +kernel) ?_
  refine sb_bipush (v := 107) (by decide +kernel) ?_
  refine ct_iast (N := 153) 55 35 rfl (by decide +kernel) (by decide +kernel) (by decide +kernel) (by decide +kernel) (by decide +kernel) ?_
  refine sb_dup rfl ?_
  refine sb_bipush (v := 36) (by decide +kernel) ?_
  refine sb_bipush (v := 105) (by decide +kernel) ?_
  refine ct_iast (N := 153) 56 36 rfl (by decide +kernel) (by decide +kernel) (by decide +kernel) (by decide +kernel) (by decide +kernel) ?_
  refine sb_dup rfl ?_
  refine sb_bipush (v := 37) (by decide +kernel) ?_
  refine sb_bipush (v := 110) (by decide +kernel) ?_
  refine ct_iast (N := 153) 57 37 rfl (by decide +kernel) (by decide +kernel) (by decide +kernel) (by decide +kernel) (by decide +kernel) ?_
  refine sb_dup rfl ?_
  refine sb_bipush (v := 38) (by decide +kernel) ?_
  refine sb_bipush (v := 100) (by decide +kernel) ?_
  refine ct_iast (N := 153) 58 38 rfl (by decide +kernel) (by decide +kernel) (by decide +kernel) (by decide +kernel) (by decide +kernel) ?_
  refine sb_dup rfl ?_
  refine sb_bipush (v := 39) (by decide +kernel) ?_
  refine sb_bipush (v := 32) (by decide +kernel) ?_
  refine ct_iast (N := 153) 59 39 rfl (by decide +kernel) (by decide +kernel) (by decide +kernel) (by decide +kernel) (by decide +kernel) ?_
  refine sb_dup rfl ?_
  refine sb_bipush (v := 40) (by decide +kernel) ?_
  refine sb_bipush (v := 109) (by decide +kernel) ?_
  refine ct_iast (N := 153) 60 40 rfl (by decide +kernel) (by decide +kernel) (by decide +kernel) (by decide +kernel) (by decide +kernel) ?_
  refine sb_dup rfl ?_
  refine sb_bipush (v := 41) (by decide +kernel) ?_
  refine sb_bipush (v := 117) (by decide +kernel) ?_
  refine ct_iast (N := 153) 61 41 rfl (by decide +kernel) (by decide +kernel) (by decide +kernel) (by decide +kernel) (by decide +kernel) ?_
  refine sb_dup rfl ?_
  refine sb_bipush (v := 42) (by decide +kernel) ?_
  refine sb_bipush (v := 99) (by decide +kernel) ?_
  refine sb_end ?_
  refine sb_in [(314, .iastore, 1), (315, .dup, 1), (316, .bipush 43, 2), (318, .bipush 104, 2), (320, .iastore, 1), (321, .dup, 1), (322, .bipush 44, 2), (324, .bipush 32, 2), (326, .iastore, 1), (327, .dup, 1), (328, .bipush 45, 2), (330, .bipush 97, 2), (332, .iastore, 1), (333, .dup, 1), (334, .bipush 46, 2), (336, .bipush 103, 2), (338, .iastore, 1), (339, .dup, 1), (340, .bipush 47, 2), (342, .bipush 101, 2), (344, .iastore, 1), (345, .dup, 1), (346, .bipush 48, 2), (348, .bipush 32, 2), (350, .iastore, 1), (351, .dup, 1), (352, .bipush 49, 2), (354, .bipush 102, 2), (356, .iastore, 1), (357, .dup, 1), (358, .bipush 50, 2), (360, .bipush 97, 2), (362, .iastore, 1), (363, .dup, 1), (364, .bipush 51, 2), (366, .bipush 99, 2), (368, .iastore, 1), (369, .dup, 1), (370, .bipush 52, 2), (372, .bipush 101, 2)] 374 (by decide +kernel) ?_
  refine ct_iast (N := 153) 62 42 rfl (by decide +kernel) (by decide +kernel) (by decide +kernel) (by decide +kernel) (by decide +kernel) ?_
  refine sb_dup rfl ?_
  refine sb_bipush (v := 43) (by decide +kernel) ?_
  refine sb_bipush (v := 104) (by decide +kernel) ?_
  refine ct_iast (N := 153) 63 43 rfl (by decide +kernel) (by decide +kernel) (by decide +kernel) (by decide +kernel) (by decide +kernel) ?_
  refine sb_dup rfl ?_
  refine sb_bipush (v := 44) (by decide +kernel) ?_
  refine sb_bipush (v := 32) (by decide +kernel) ?_
  refine ct_iast (N := 153) 64 44 rfl (by decide +kernel) (by decide +kernel) (by decide +kernel) (by decide +kernel) (by decide +kernel) ?_
  refine sb_dup rfl ?_
  refine sb_bipush (v := 45) (by decide +kernel) ?_
  refine sb_bipush (v := 97) (by decide +kernel) ?_
  refine ct_iast (N := 153) 65 45 rfl (by decide +kernel) (by decide +kernel) (by decide +kernel) (by decide +kernel) (by decide +kernel) ?_
  refine sb_dup rfl ?_
  refine sb_bipush (v := 46) (by decide +kernel) ?_
  refine sb_bipush (v := 103) (by decide +kernel) ?_
  refine ct_iast (N := 153) 66 46 rfl (by decide +kernel) (by decide +kernel) (by decide +kernel) (by decide +kernel) (by decide +kernel) ?_
  refine sb_dup rfl ?_
  refine sb_bipush (v := 47) (by decide +kernel) ?_
  refine sb_bipush (v := 101) (by decide +kernel) ?_
  refine ct_iast (N := 153) 67 47 rfl (by decide +kernel) (by decide +kernel) (by decide +kernel) (by decide +kernel) (by decide +kernel) ?_
  refine sb_dup rfl ?_
  refine sb_bipush (v := 48) (by decide +kernel) ?_
  refine sb_bipush (v := 32) (by decide +kernel) ?_
  refine ct_iast (N := 153) 68 48 rfl (by decide +kernel) (by decide +kernel) (by decide +kernel) (by decide +kernel) (by decide +kernel) ?_
  refine sb_dup rfl ?_
  refine sb_bipush (v := 49) (by decide +kernel) ?_
  refine sb_bipush (v := 102) (by decide +kernel) ?_
  refine ct_iast (N := 153) 69 49 rfl (by decide +kernel) (by decide +kernel) (by decide +kernel) (by decide +kernel) (by decide +kernel) ?_
  refine sb_dup rfl ?_
  refine sb_bipush (v := 50) (by decide +kernel) ?_
  refine sb_bipush (v := 97) (by decide +kernel) ?_
  refine ct_iast (N := 153) 70 50 rfl (by decide +kernel) (by decide +kernel) (by decide +kernel) (by decide +kernel) (by decide +kernel) ?_
  refine sb_dup rfl ?_
  refine sb_bipush (v := 51) (by decide +kernel) ?_
  refine sb_bipush (v := 99) (by decide +kernel) ?_
  refine ct_iast (N := 153) 71 51 rfl (by decide +kernel) (by decide +kernel) (by decide +kernel) (by decide +kernel) (by decide +kernel) ?_
  refine sb_dup rfl ?_
  refine sb_bipush (v := 52) (by decide +kernel) ?_
  refine sb_bipush (v := 101) (by decide +kernel) ?_
  refine sb_end ?_
  refine sb_in [(374, .iastore, 1), (375, .dup, 1), (376, .bipush 53, 2), (378, .bipush 32, 2), (380, .iastore, 1), (381, .dup, 1), (382, .bipush 54, 2), (384, .bipush 108, 2), (386, .iastore, 1), (387, .dup, 1), (388, .bipush 55, 2), (390, .bipush 111, 2), (392, .iastore, 1), (393, .dup, 1), (394, .bipush 56, 2), (396, .bipush 118, 2), (398, .iastore, 1), (399, .dup, 1), (400, .bipush 57, 2), (402, .bipush 101, 2), (404, .iastore, 1), (405, .dup, 1), (406, .bipush 58, 2), (408, .bipush 32, 2), (410, .iastore, 1), (411, .dup, 1), (412, .bipush 59, 2), (414, .bipush 112, 2), (416, .iastore, 1), (417, .dup, 1), (418, .bipush 60, 2), (420, .bipush 117, 2), (422, .iastore, 1), (423, .dup, 1), (424, .bipush 61, 2), (426, .bipush 114, 2), (428, .iastore, 1), (429, .dup, 1), (430, .bipush 62, 2), (432, .bipush 115, 2)] 434 (by decide +kernel) ?_
  refine ct_iast (N := 153) 72 52 rfl (by decide +kernel) (by decide +kernel) (by decide +kernel) (by decide +kernel) (by decide +kernel) ?_
  refine sb_dup rfl ?_
  refine sb_bipush (v := 53) (by decide +kernel) ?_
  refine sb_bipush (v := 32) (by decide +kernel) ?_
  refine ct_iast (N := 153) 73 53 rfl (by decide +kernel) (by decide +kernel) (by decide +kernel) (by decide +kernel) (by decide +kernel) ?_
  refine sb_dup rfl ?_
  refine sb_bipush (v := 54) (by decide +kernel) ?_
  refine sb_bipush (v := 108) (by decide +kernel) ?_
  refine ct_iast (N := 153) 74 54 rfl (by decide +kernel) (by decide +kernel) (by decide +kernel) (by decide +kernel) (by decide +kernel) ?_
  refine sb_dup rfl ?_
  refine sb_bipush (v := 55) (by decide +kernel) ?_
  refine sb_bipush (v := 111) (by decide +kernel) ?_
  refine ct_iast (N := 153) 75 55 rfl (by decide +kernel) (by decide +kernel) (by decide +kernel) (by decide +kernel) (by decide +kernel) ?_
  refine sb_dup rfl ?_
  refine sb_bipush (v := 56) (by decide +kernel) ?_
  refine sb_bipush (v := 118) (by decide +kernel) ?_
  refine ct_iast (N := 153) 76 56 rfl (by decide +kernel) (by decide +kernel) (by decide +kernel) (by decide +kernel) (by decide +kernel) ?_
  refine sb_dup rfl ?_
  refine sb_bipush (v := 57) (by decide +kernel) ?_
  refine sb_bipush (v := 101) (by decide +kernel) ?_
  refine ct_iast (N := 153) 77 57 rfl (by decide +kernel) (by decide +kernel) (by decide +kernel) (by decide +kernel) (by decide +kernel) ?_
  refine sb_dup rfl ?_
  refine sb_bipush (v := 58) (by decide +kernel) ?_
  refine sb_bipush (v := 32) (by decide +kernel) ?_
  refine ct_iast (N := 153) 78 58 rfl (by decide +kernel) (by decide +kernel) (by decide +kernel) (by decide +kernel) (by decide +kernel) ?_
  refine sb_dup rfl ?_
  refine sb_bipush (v := 59) (by decide +kernel) ?_
  refine sb_bipush (v := 112) (by decide +kernel) ?_
  refine ct_iast (N := 153) 79 59 rfl (by decide +kernel) (by decide +kernel) (by decide +kernel) (by decide +kernel) (by decide +kernel) ?_
  refine sb_dup rfl ?_
  refine sb_bipush (v := 60) (by decide +kernel) ?_
  refine sb_bipush (v := 117) (by decide +kernel) ?_
  refine ct_iast (N := 153) 80 60 rfl (by decide +kernel) (by decide +kernel) (by decide +kernel) (by decide +kernel) (by decide +kernel) ?_
  refine sb_dup rfl ?_
  refine sb_bipush (v := 61) (by decide +kernel) ?_
  refine sb_bipush (v := 114) (by decide +kernel) ?_
  refine ct_iast (N := 153) 81 61 rfl (by decide +kernel) (by decide +kernel) (by decide +kernel) (by decide +kernel) (by decide +kernel) ?_
  refine sb_dup rfl ?_
  refine sb_bipush (v := 62) (by decide +kernel) ?_
  refine sb_bipush (v := 115) (by decide +kernel) ?_
  refine sb_end ?_
  refine sb_in [(434, .iastore, 1), (435, .dup, 1), (436, .bipush 63, 2), (438, .bipush 101, 2), (440, .iastore, 1), (441, .dup, 1), (442, .bipush 64, 2), (444, .bipush 32, 2), (446, .iastore, 1), (447, .dup, 1), (448, .bipush 65, 2), (450, .bipush 104, 2), (452, .iastore, 1), (453, .dup, 1), (454, .bipush 66, 2), (456, .bipush 101, 2), (458, .iastore, 1), (459, .dup, 1), (460, .bipush 67, 2), (462, .bipush 97, 2), (464, .iastore, 1), (465, .dup, 1), (466, .bipush 68, 2), (468, .bipush 108, 2), (470, .iastore, 1), (471, .dup, 1), (472, .bipush 69, 2), (474, .bipush 116, 2), (476, .iastore, 1), (477, .dup, 1), (478, .bipush 70, 2), (480, .bipush 104, 2), (482, .iastore, 1), (483, .dup, 1), (484, .bipush 71, 2), (486, .bipush 32, 2), (488, .iastore, 1), (489, .dup, 1), (490, .bipush 72, 2), (492, .bipush 104, 2)] 494 (by decide +kernel) ?_
  refine ct_iast (N := 153) 82 62 rfl (by decide +kernel) (by decide +kernel) (by decide +kernel) (by decide +kernel) (by decide +kernel) ?_
  refine sb_dup rfl ?_
  refine sb_bipush (v := 63) (by decide +kernel) ?_
  refine sb_bipush (v := 101) (by decide +kernel) ?_
  refine ct_iast (N := 153) 83 63 rfl (by decide +kernel) (by decide +kernel) (by decide +kernel) (by decide +kernel) (by decide +kernel) ?_
  refine sb_dup rfl ?_
  refine sb_bipush (v := 64) (by decide +kernel) ?_
  refine sb_bipush (v := 32) (by decide +kernel) ?_
  refine ct_iast (N := 153) 84 64 rfl (by decide +kernel) (by decide +kernel) (by decide +kernel) (by decide +kernel) (by decide +kernel) ?_
  refine sb_dup rfl ?_
  refine sb_bipush (v := 65) (by decide +kernel) ?_
  refine sb_bipush (v := 104) (by decide +kernel) ?_
  refine ct_iast (N := 153) 85 65 rfl (by decide +kernel) (by decide +kernel) (by decide +kernel) (by decide +kernel) (by decide +kernel) ?_
  refine sb_dup rfl ?_
  refine sb_bipush (v := 66) (by decide +kernel) ?_
  refine sb_bipush (v := 101) (by decide +kernel) ?_
  refine ct_iast (N := 153) 86 66 rfl (by decide +kernel) (by decide +kernel) (by decide +kernel) (by decide +kernel) (by decide +kernel) ?_
  refine sb_dup rfl ?_
  refine sb_bipush (v := 67) (by decide +kernel) ?_
  refine sb_bipush (v := 97) (by decide +kernel) ?_
  refine ct_iast (N := 153) 87 67 rfl (by decide +kernel) (by decide +kernel) (by decide +kernel) (by decide +kernel) (by decide +kernel) ?_
  refine sb_dup rfl ?_
  refine sb_bipush (v := 68) (by decide +kernel) ?_
  refine sb_bipush (v := 108) (by decide +kernel) ?_
  refine ct_iast (N := 153) 88 68 rfl (by decide +kernel) (by decide +kernel) (by decide +kernel) (by decide +kernel) (by decide +kernel) ?_
  refine sb_dup rfl ?_
  refine sb_bipush (v := 69) (by decide +kernel) ?_
  refine sb_bipush (v := 116) (by decide +kernel) ?_
  refine ct_iast (N := 153) 89 69 rfl (by decide +kernel) (by decide +kernel) (by decide +kernel) (by decide +kernel) (by decide +kernel) ?_
  refine sb_dup rfl ?_
  refine sb_bipush (v := 70) (by decide +kernel) ?_
  refine sb_bipush (v := 104) (by decide +kernel) ?_
  refine ct_iast (N := 153) 90 70 rfl (by decide +kernel) (by decide +kernel) (by decide +kernel) (by decide +kernel) (by decide +kernel) ?_
  refine sb_dup rfl ?_
  refine sb_bipush (v := 71) (by decide +kernel) ?_
  refine sb_bipush (v := 32) (by decide +kernel) ?_
  refine ct_iast (N := 153) 91 71 rfl (by decide +kernel) (by decide +kernel) (by decide +kernel) (by decide +kernel) (by decide +kernel) ?_
  refine sb_dup rfl ?_
  refine sb_bipush (v := 72) (by decide +kernel) ?_
  refine sb_bipush (v := 104) (by decide +kernel) ?_
  refine sb_end ?_
  refine sb_in [(494, .iastore, 1), (495, .dup, 1), (496, .bipush 73, 2), (498, .bipush 117, 2), (500, .iastore, 1), (501, .dup, 1), (502, .bipush 74, 2), (504, .bipush 110, 2), (506, .iastore, 1), (507, .dup, 1), (508, .bipush 75, 2), (510, .bipush 103, 2), (512, .iastore, 1), (513, .dup, 1), (514, .bipush 76, 2), (516, .bipush 101, 2), (518, .iastore, 1), (519, .dup, 1), (520, .bipush 77, 2), (522, .bipush 114, 2), (524, .iastore, 1), (525, .dup, 1), (526, .bipush 78, 2), (528, .bipush 32, 2), (530, .iastore, 1), (531, .dup, 1), (532, .bipush 79, 2), (534, .bipush 104, 2), (536, .iastore, 1), (537, .dup, 1), (538, .bipush 80, 2), (540, .bipush 111, 2), (542, .iastore, 1), (543, .dup, 1), (544, .bipush 81, 2), (546, .bipush 117, 2), (548, .iastore, 1), (549, .dup, 1), (550, .bipush 82, 2), (552, .bipush 114, 2)] 554 (by decide +kernel) ?_
  refine ct_iast (N := 153) 92 72 rfl (by decide +kernel) (by decide +kernel) (by decide +kernel) (by decide +kernel) (by decide +kernel) ?_
  refine sb_dup rfl ?_
  refine sb_bipush (v := 73) (by decide +kernel) ?_
  refine sb_bipush (v := 117) (by decide +kernel) ?_
  refine ct_iast (N := 153) 93 73 rfl (by decide +kernel) (by decide +kernel) (by decide +kernel) (by decide +kernel) (by decide +kernel) ?_
  refine sb_dup rfl ?_
  refine sb_bipush (v := 74) (by decide +kernel) ?_
  refine sb_bipush (v := 110) (by decide +kernel) ?_
  refine ct_iast (N := 153) 94 74 rfl (by decide +kernel) (by decide +kernel) (by decide +kernel) (by decide +kernel) (by decide +kernel) ?_
  refine sb_dup rfl ?_
  refine sb_bipush (v := 75) (by decide +kernel) ?_
  refine sb_bipush (v := 103) (by decide +kernel) ?_
  refine ct_iast (N := 153) 95 75 rfl (by decide +kernel) (by decide +kernel) (by decide +kernel) (by decide +kernel) (by decide +kernel) ?_
  refine sb_dup rfl ?_
  refine sb_bipush (v := 76) (by decide +kernel) ?_
  refine sb_bipush (v := 101) (by decide +kernel) ?_
  refine ct_iast (N := 153) 96 76 rfl (by decide +kernel) (by decide +kernel) (by decide +kernel) (by decide +kernel) (by decide +kernel) ?_
  refine sb_dup rfl ?_
  refine sb_bipush (v := 77) (by decide +kernel) ?_
  refine sb_bipush (v := 114) (by decide +kernel) ?_
  refine ct_iast (N := 153) 97 77 rfl (by decide +kernel) (by decide +kernel) (by decide +kernel) (by decide +kernel) (by decide +kernel) ?_
  refine sb_dup rfl ?_
  refine sb_bipush (v := 78) (by decide +kernel) ?_
  refine sb_bipush (v := 32) (by decide +kernel) ?_
  refine ct_iast (N := 153) 98 78 rfl (by decide +kernel) (by decide +kernel) (by decide +kernel) (by decide +kernel) (by decide +kernel) ?_
  refine sb_dup rfl ?_
  refine sb_bipush (v := 79) (by decide +kernel) ?_
  refine sb_bipush (v := 104) (by decide +kernel) ?_
  refine ct_iast (N := 153) 99 79 rfl (by decide +kernel) (by decide +kernel) (by decide +kernel) (by decide +kernel) (by decide +kernel) ?_
  refine sb_dup rfl ?_
  refine sb_bipush (v := 80) (by decide +kernel) ?_
  refine sb_bipush (v := 111) (by decide +kernel) ?_
  refine ct_iast (N := 153) 100 80 rfl (by decide +kernel) (by decide +kernel) (by decide +kernel) (by decide +kernel) (by decide +kernel) ?_
  refine sb_dup rfl ?_
  refine sb_bipush (v := 81) (by decide +kernel) ?_
  refine sb_bipush (v := 117) (by decide +kernel) ?_
  refine ct_iast (N := 153) 101 81 rfl (by decide +kernel) (by decide +kernel) (by decide +kernel) (by decide +kernel) (by decide +kernel) ?_
  refine sb_dup rfl ?_
  refine sb_bipush (v := 82) (by decide +kernel) ?_
  refine sb_bipush (v := 114) (by decide +kernel) ?_
  refine sb_end ?_
  refine sb_in [(554, .iastore, 1), (555, .dup, 1), (556, .bipush 83, 2), (558, .bipush 32, 2), (560, .iastore, 1), (561, .dup, 1), (562, .bipush 84, 2), (564, .bipush 114, 2), (566, .iastore, 1), (567, .dup, 1), (568, .bipush 85, 2), (570, .bipush 97, 2), (572, .iastore, 1), (573, .dup, 1), (574, .bipush 86, 2), (576, .bipush 105, 2), (578, .iastore, 1), (579, .dup, 1), (580, .bipush 87, 2), (582, .bipush 110, 2), (584, .iastore, 1), (585, .dup, 1), (586, .bipush 88, 2), (588, .bipush 32, 2), (590, .iastore, 1), (591, .dup, 1), (592, .bipush 89, 2), (594, .bipush 100, 2), (596, .iastore, 1), (597, .dup, 1), (598, .bipush 90, 2), (600, .bipush 97, 2), (602, .iastore, 1), (603, .dup, 1), (604, .bipush 91, 2), (606, .bipush 121, 2), (608, .iastore, 1), (609, .dup, 1), (610, .bipush 92, 2), (612, .bipush 32, 2)] 614 (by decide +kernel) ?_
  refine ct_iast (N := 153) 102 82 rfl (by decide +kernel) (by decide +kernel) (by decide +kernel) (by decide +kernel) (by decide +kernel) ?_
  refine sb_dup rfl ?_
  refine sb_bipush (v := 83) (by decide +kernel) ?_
  refine sb_bipush (v := 32) (by decide +kernel) ?_
  refine ct_iast (N := 153) 103 83 rfl (by decide +kernel) (by decide +kernel) (by decide +kernel) (by decide +kernel) (by decide +kernel) ?_
  refine sb_dup rfl ?_
  refine sb_bipush (v := 84) (by decide +kernel) ?_
  refine sb_bipush (v := 114) (by decide +kernel) ?_
  refine ct_iast (N := 153) 104 84 rfl (by decide +kernel) (by decide +kernel) (by decide +kernel) (by decide +kernel) (by decide +kernel) ?_
  refine sb_dup rfl ?_
  refine sb_bipush (v := 85) (by decide +kernel) ?_
  refine sb_bipush (v := 97) (by decide +kernel) ?_
  refine ct_iast (N := 153) 105 85 rfl (by decide +kernel) (by decide +kernel) (by decide +kernel) (by decide +kernel) (by decide +kernel) ?_
  refine sb_dup rfl ?_
  refine sb_bipush (v := 86) (by decide +kernel) ?_
  refine sb_bipush (v := 105) (by decide +kernel) ?_
  refine ct_iast (N := 153) 106 86 rfl (by decide +kernel) (by decide +kernel) (by decide +kernel) (by decide +kernel) (by decide +kernel) ?_
  refine sb_dup rfl ?_
  refine sb_bipush (v := 87) (by decide +kernel) ?_
  refine sb_bipush (v := 110) (by decide +kernel) ?_
  refine ct_iast (N := 153) 107 87 rfl (by decide +kernel) (by decide +kernel) (by decide +kernel) (by decide +kernel) (by decide +kernel) ?_
  refine sb_dup rfl ?_
  refine sb_bipush (v := 88) (by decide +kernel) ?_
  refine sb_bipush (v := 32) (by decide +kernel) ?_
  refine ct_iast (N := 153) 108 88 rfl (by decide +kernel) (by decide +kernel) (by decide +kernel) (by decide +kernel) (by decide +kernel) ?_
  refine sb_dup rfl ?_
  refine sb_bipush (v := 89) (by decide +kernel) ?_
  refine sb_bipush (v := 100) (by decide +kernel) ?_
  refine ct_iast (N := 153) 109 89 rfl (by decide +kernel) (by decide +kernel) (by decide +kernel) (by decide +kernel) (by decide +kernel) ?_
  refine sb_dup rfl ?_
  refine sb_bipush (v := 90) (by decide +kernel) ?_
  refine sb_bipush (v := 97) (by decide +kernel) ?_
  refine ct_iast (N := 153) 110 90 rfl (by decide +kernel) (by decide +kernel) (by decide +kernel) (by decide +kernel) (by decide +kernel) ?_
  refine sb_dup rfl ?_
  refine sb_bipush (v := 91) (by decide +kernel) ?_
  refine sb_bipush (v := 121) (by decide +kernel) ?_
  refine ct_iast (N := 153) 111 91 rfl (by decide +kernel) (by decide +kernel) (by decide +kernel) (by decide +kernel) (by decide +kernel) ?_
  refine sb_dup rfl ?_
  refine sb_bipush (v := 92) (by decide +kernel) ?_
  refine sb_bipush (v := 32) (by decide +kernel) ?_
  refine sb_end ?_
  refine sb_in [(614, .iastore, 1), (615, .dup, 1), (616, .bipush 93, 2), (618, .bipush 111, 2), (620, .iastore, 1), (621, .dup, 1), (622, .bipush 94, 2), (624, .bipush 110, 2), (626, .iastore, 1), (627, .dup, 1), (628, .bipush 95, 2), (630, .bipush 32, 2), (632, .iastore, 1), (633, .dup, 1), (634, .bipush 96, 2), (636, .bipush 116, 2), (638, .iastore, 1), (639, .dup, 1), (640, .bipush 97, 2), (642, .bipush 111, 2), (644, .iastore, 1), (645, .dup, 1), (646, .bipush 98, 2), (648, .bipush 32, 2), (650, .iastore, 1), (651, .dup, 1), (652, .bipush 99, 2), (654, .bipush 119, 2), (656, .iastore, 1), (657, .dup, 1), (658, .bipush 100, 2), (660, .bipush 97, 2), (662, .iastore, 1), (663, .dup, 1), (664, .bipush 101, 2), (666, .bipush 108, 2), (668, .iastore, 1), (669, .dup, 1), (670, .bipush 102, 2), (672, .bipush 107, 2)] 674 (by decide +kernel) ?_
  refine ct_iast (N := 153) 112 92 rfl (by decide +kernel) (by decide +kernel) (by decide +kernel) (by decide +kernel) (by decide +kernel) ?_
  refine sb_dup rfl ?_
  refine sb_bipush (v := 93) (by decide +kernel) ?_
  refine sb_bipush (v := 111) (by decide +kernel) ?_
  refine ct_iast (N := 153) 113 93 rfl (by decide +kernel) (by decide +kernel) (by decide +kernel) (by decide +kernel) (by decide +kernel) ?_
  refine sb_dup rfl ?_
  refine sb_bipush (v := 94) (by decide +kernel) ?_
  refine sb_bipush (v := 110) (by decide +kernel) ?_
  refine ct_iast (N := 153) 114 94 rfl (by decide +kernel) (by decide +kernel) (by decide +kernel) (by decide +kernel) (by decide +kernel) ?_
  refine sb_dup rfl ?_
  refine sb_bipush (v := 95) (by decide +kernel) ?_
  refine sb_bipush (v := 32) (by decide +kernel) ?_
  refine ct_iast (N := 153) 115 95 rfl (by decide +kernel) (by decide +kernel) (by decide +kernel) (by decide +kernel) (by decide +kernel) ?_
  refine sb_dup rfl ?_
  refine sb_bipush (v := 96) (by decide +kernel) ?_
  refine sb_bipush (v := 116) (by decide +kernel) ?_
  refine ct_iast (N := 153) 116 96 rfl (by decide +kernel) (by decide +kernel) (by decide +kernel) (by decide +kernel) (by decide +kernel) ?_
  refine sb_dup rfl ?_
  refine sb_bipush (v := 97) (by decide +kernel) ?_
  refine sb_bipush (v := 111) (by decide +kernel) ?_
  refine ct_iast (N := 153) 117 97 rfl (by decide +kernel) (by decide +kernel) (by decide +kernel) (by decide +kernel) (by decide +kernel) ?_
  refine sb_dup rfl ?_
  refine sb_bipush (v := 98) (by decide +kernel) ?_
  refine sb_bipush (v := 32) (by decide +kernel) ?_
  refine ct_iast (N := 153) 118 98 rfl (by decide +kernel) (by decide +kernel) (by decide +kernel) (by decide +kernel) (by decide +kernel) ?_
  refine sb_dup rfl ?_
  refine sb_bipush (v := 99) (by decide +kernel) ?_
  refine sb_bipush (v := 119) (by decide +kernel) ?_
  refine ct_iast (N := 153) 119 99 rfl (by decide +kernel) (by decide +kernel) (by decide +kernel) (by decide +kernel) (by decide +kernel) ?_
  refine sb_dup rfl ?_
  refine sb_bipush (v := 100) (by decide +kernel) ?_
  refine sb_bipush (v := 97) (by decide +kernel) ?_
  refine ct_iast (N := 153) 120 100 rfl (by decide +kernel) (by decide +kernel) (by decide +kernel) (by decide +kernel) (by decide +kernel) ?_
  refine sb_dup rfl ?_
  refine sb_bipush (v := 101) (by decide +kernel) ?_
  refine sb_bipush (v := 108) (by decide +kernel) ?_
  refine ct_iast (N := 153) 121 101 rfl (by decide +kernel) (by decide +kernel) (by decide +kernel) (by decide +kernel) (by decide +kernel) ?_
  refine sb_dup rfl ?_
  refine sb_bipush (v := 102) (by decide +kernel) ?_
  refine sb_bipush (v := 107) (by decide +kernel) ?_
  refine sb_end ?_
  refine sb_in [(674, .iastore, 1), (675, .dup, 1), (676, .bipush 103, 2), (678, .bipush 32, 2), (680, .iastore, 1), (681, .dup, 1), (682, .bipush 104, 2), (684, .bipush 115, 2), (686, .iastore, 1), (687, .dup, 1), (688, .bipush 105, 2), (690, .bipush 116, 2), (692, .iastore, 1), (693, .dup, 1), (694, .bipush 106, 2), (696, .bipush 114, 2), (698, .iastore, 1), (699, .dup, 1), (700, .bipush 107, 2), (702, .bipush 101, 2), (704, .iastore, 1), (705, .dup, 1), (706, .bipush 108, 2), (708, .bipush 101, 2), (710, .iastore, 1), (711, .dup, 1), (712, .bipush 109, 2), (714, .bipush 116, 2), (716, .iastore, 1), (717, .dup, 1), (718, .bipush 110, 2), (720, .bipush 32, 2), (722, .iastore, 1), (723, .dup, 1), (724, .bipush 111, 2), (726, .bipush 110, 2), (728, .iastore, 1), (729, .dup, 1), (730, .bipush 112, 2), (732, .bipush 101, 2)] 734 (by decide +kernel) ?_
  refine ct_iast (N := 153) 122 102 rfl (by decide +kernel) (by decide +kernel) (by decide +kernel) (by decide +kernel) (by decide +kernel) ?_
  refine sb_dup rfl ?_
  refine sb_bipush (v := 103) (by decide +kernel) ?_
  refine sb_bipush (v := 32) (by decide +kernel) ?_
  refine ct_iast (N := 153) 123 103 rfl (by decide +kernel) (by decide +kernel) (by decide +kernel) (by decide +kernel) (by decide +kernel) ?_
  refine sb_dup rfl ?_
  refine sb_bipush (v := 104) (by decide +kernel) ?_
  refine sb_bipush (v := 115) (by decide +kernel) ?_
  refine ct_iast (N := 153) 124 104 rfl (by decide +kernel) (by decide +kernel) (by decide +kernel) (by decide +kernel) (by decide +kernel) ?_
  refine sb_dup rfl ?_
  refine sb_bipush (v := 105) (by decide +kernel) ?_
  refine sb_bipush (v := 116) (by decide +kernel) ?_
  refine ct_iast (N := 153) 125 105 rfl (by decide +kernel) (by decide +kernel) (by decide +kernel) (by decide +kernel) (by decide +kernel) ?_
  refine sb_dup rfl ?_
  refine sb_bipush (v := 106) (by decide +kernel) ?_
  refine sb_bipush (v := 114) (by decide +kernel) ?_
  refine ct_iast (N := 153) 126 106 rfl (by decide +kernel) (by decide +kernel) (by decide +kernel) (by decide +kernel) (by decide +kernel) ?_
  refine sb_dup rfl ?_
  refine sb_bipush (v := 107) (by decide +kernel) ?_
  refine sb_bipush (v := 101) (by decide +kernel) ?_
  refine ct_iast (N := 153) 127 107 rfl (by decide +kernel) (by decide +kernel) (by decide +kernel) (by decide +kernel) (by decide +kernel) ?_
  refine sb_dup rfl ?_
  refine sb_bipush (v := 108) (by decide +kernel) ?_
  refine sb_bipush (v := 101) (by decide +kernel) ?_
  refine ct_iast (N := 153) 128 108 rfl (by decide +kernel) (by decide +kernel) (by decide +kernel) (by decide +kernel) (by decide +kernel) ?_
  refine sb_dup rfl ?_
  refine sb_bipush (v := 109) (by decide +kernel) ?_
  refine sb_bipush (v := 116) (by decide +kernel) ?_
  refine ct_iast (N := 153) 129 109 rfl (by decide +kernel) (by decide +kernel) (by decide +kernel) (by decide +kernel) (by decide +kernel) ?_
  refine sb_dup rfl ?_
  refine sb_bipush (v := 110) (by decide +kernel) ?_
  refine sb_bipush (v := 32) (by decide +kernel) ?_
  refine ct_iast (N := 153) 130 110 rfl (by decide +kernel) (by decide +kernel) (by decide +kernel) (by decide +kernel) (by decide +kernel) ?_
  refine sb_dup rfl ?_
  refine sb_bipush (v := 111) (by decide +kernel) ?_
  refine sb_bipush (v := 110) (by decide +kernel) ?_
  refine ct_iast (N := 153) 131 111 rfl (by decide +kernel) (by decide +kernel) (by decide +kernel) (by decide +kernel) (by decide +kernel) ?_
  refine sb_dup rfl ?_
  refine sb_bipush (v := 112) (by decide +kernel) ?_
  refine sb_bipush (v := 101) (by decide +kernel) ?_
  refine sb_end ?_
  refine sb_in [(734, .iastore, 1), (735, .dup, 1), (736, .bipush 113, 2), (738, .bipush 119, 2), (740, .iastore, 1), (741, .dup, 1), (742, .bipush 114, 2), (744, .bipush 115, 2), (746, .iastore, 1), (747, .dup, 1), (748, .bipush 115, 2), (750, .bipush 32, 2), (752, .iastore, 1), (753, .dup, 1), (754, .bipush 116, 2), (756, .bipush 98, 2), (758, .iastore, 1), (759, .dup, 1), (760, .bipush 117, 2), (762, .bipush 105, 2), (764, .iastore, 1), (765, .dup, 1), (766, .bipush 118, 2), (768, .bipush 108, 2), (770, .iastore, 1), (771, .dup, 1), (772, .bipush 119, 2), (774, .bipush 108, 2), (776, .iastore, 1), (777, .dup, 1), (778, .bipush 120, 2), (780, .bipush 32, 2), (782, .iastore, 1), (783, .dup, 1), (784, .bipush 121, 2), (786, .bipush 107, 2), (788, .iastore, 1), (789, .dup, 1), (790, .bipush 122, 2), (792, .bipush 105, 2)] 794 (by decide +kernel) ?_
  refine ct_iast (N := 153) 132 112 rfl (by decide +kernel) (by decide +kernel) (by decide +kernel) (by decide +kernel) (by decide +kernel) ?_
  refine sb_dup rfl ?_
  refine sb_bipush (v := 113) (by decide +kernel) ?_
  refine sb_bipush (v := 119) (by decide +kernel) ?_
  refine ct_iast (N := 153) 133 113 rfl (by decide +kernel) (by decide +kernel) (by decide +kernel) (by decide +kernel) (by decide +kernel) ?_
  refine sb_dup rfl ?_
  refine sb_bipush (v := 114) (by decide +kernel) ?_
  refine sb_bipush (v := 115) (by decide +kernel) ?_
  refine ct_iast (N := 153) 134 114 rfl (by decide +kernel) (by decide +kernel) (by decide +kernel) (by decide +kernel) (by decide +kernel) ?_
  refine sb_dup rfl ?_
  refine sb_bipush (v := 115) (by decide +kernel) ?_
  refine sb_bipush (v := 32) (by decide +kernel) ?_
  refine ct_iast (N := 153) 135 115 rfl (by decide +kernel) (by decide +kernel) (by decide +kernel) (by decide +kernel) (by decide +kernel) ?_
  refine sb_dup rfl ?_
  refine sb_bipush (v := 116) (by decide +kernel) ?_
  refine sb_bipush (v := 98) (by decide +kernel) ?_
  refine ct_iast (N := 153) 136 116 rfl (by decide +kernel) (by decide +kernel) (by decide +kernel) (by decide +kernel) (by decide +kernel) ?_
  refine sb_dup rfl ?_
  refine sb_bipush (v := 117) (by decide +kernel) ?_
  refine sb_bipush (v := 105) (by decide +kernel) ?_
  refine ct_iast (N := 153) 137 117 rfl (by decide +kernel) (by decide +kernel) (by decide +kernel) (by decide +kernel) (by decide +kernel) ?_
  refine sb_dup rfl ?_
  refine sb_bipush (v := 118) (by decide +kernel) ?_
  refine sb_bipush (v := 108) (by decide +kernel) ?_
  refine ct_iast (N := 153) 138 118 rfl (by decide +kernel) (by decide +kernel) (by decide +kernel) (by decide +kernel) (by decide +kernel) ?_
  refine sb_dup rfl ?_
  refine sb_bipush (v := 119) (by decide +kernel) ?_
  refine sb_bipush (v := 108) (by decide +kernel) ?_
  refine ct_iast (N := 153) 139 119 rfl (by decide +kernel) (by decide +kernel) (by decide +kernel) (by decide +kernel) (by decide +kernel) ?_
  refine sb_dup rfl ?_
  refine sb_bipush (v := 120) (by decide +kernel) ?_
  refine sb_bipush (v := 32) (by decide +kernel) ?_
  refine ct_iast (N := 153) 140 120 rfl (by decide +kernel) (by decide +kernel) (by decide +kernel) (by decide +kernel) (by decide +kernel) ?_
  refine sb_dup rfl ?_
  refine sb_bipush (v := 121) (by decide +kernel) ?_
  refine sb_bipush (v := 107) (by decide +kernel) ?_
  refine ct_iast (N := 153) 141 121 rfl (by decide +kernel) (by decide +kernel) (by decide +kernel) (by decide +kernel) (by decide +kernel) ?_
  refine sb_dup rfl ?_
  refine sb_bipush (v := 122) (by decide +kernel) ?_
  refine sb_bipush (v := 105) (by decide +kernel) ?_
  refine sb_end ?_
  refine sb_in [(794, .iastore, 1), (795, .dup, 1), (796, .bipush 123, 2), (798, .bipush 115, 2), (800, .iastore, 1), (801, .dup, 1), (802, .bipush 124, 2), (804, .bipush 115, 2), (806, .iastore, 1), (807, .dup, 1), (808, .bipush 125, 2), (810, .bipush 32, 2), (812, .iastore, 1), (813, .dup, 1), (814, .bipush 126, 2), (816, .bipush 97, 2), (818, .iastore, 1), (819, .dup, 1), (820, .bipush 127, 2), (822, .bipush 110, 2), (824, .iastore, 1), (825, .dup, 1), (826, .sipush 128, 3), (829, .bipush 103, 2), (831, .iastore, 1), (832, .dup, 1), (833, .sipush 129, 3), (836, .bipush 101, 2), (838, .iastore, 1), (839, .dup, 1), (840, .sipush 130, 3), (843, .bipush 114, 2), (845, .iastore, 1), (846, .dup, 1), (847, .sipush 131, 3), (850, .bipush 32, 2), (852, .iastore, 1), (853, .dup, 1), (854, .sipush 132, 3), (857, .bipush 105, 2)] 859 (by decide +kernel) ?_
  refine ct_iast (N := 153) 142 122 rfl (by decide +kernel) (by decide +kernel) (by decide +kernel) (by decide +kernel) (by decide +kernel) ?_
  refine sb_dup rfl ?_
  refine sb_bipush (v := 123) (by decide +kernel) ?_
  refine sb_bipush (v := 115) (by decide +kernel) ?_
  refine ct_iast (N := 153) 143 123 rfl (by decide +kernel) (by decide +kernel) (by decide +kernel) (by decide +kernel) (by decide +kernel) ?_
  refine sb_dup rfl ?_
  refine sb_bipush (v := 124) (by decide +kernel) ?_
  refine sb_bipush (v := 115) (by decide +kernel) ?_
  refine ct_iast (N := 153) 144 124 rfl (by decide +kernel) (by decide +kernel) (by decide +kernel) (by decide +kernel) (by decide +kernel) ?_
  refine sb_dup rfl ?_
  refine sb_bipush (v := 125) (by decide +kernel) ?_
  refine sb_bipush (v := 32) (by decide +kernel) ?_
  refine ct_iast (N := 153) 145 125 rfl (by decide +kernel) (by decide +kernel) (by decide +kernel) (by decide +kernel) (by decide +kernel) ?_
  refine sb_dup rfl ?_
  refine sb_bipush (v := 126) (by decide +kernel) ?_
  refine sb_bipush (v := 97) (by decide +kernel) ?_
  refine ct_iast (N := 153) 146 126 rfl (by decide +kernel) (by decide +kernel) (by decide +kernel) (by decide +kernel) (by decide +kernel) ?_
  refine sb_dup rfl ?_
  refine sb_bipush (v := 127) (by decide +kernel) ?_
  refine sb_bipush (v := 110) (by decide +kernel) ?_
  refine ct_iast (N := 153) 147 127 rfl (by decide +kernel) (by decide +kernel) (by decide +kernel) (by decide +kernel) (by decide +kernel) ?_
  refine sb_dup rfl ?_
  refine sb_sipush (v := 128) (by decide +kernel) ?_
  refine sb_bipush (v := 103) (by decide +kernel) ?_
  refine ct_iast (N := 153) 148 128 rfl (by decide +kernel) (by decide +kernel) (by decide +kernel) (by decide +kernel) (by decide +kernel) ?_
  refine sb_dup rfl ?_
  refine sb_sipush (v := 129) (by decide +kernel) ?_
  refine sb_bipush (v := 101) (by decide +kernel) ?_
  refine ct_iast (N := 153) 149 129 rfl (by decide +kernel) (by decide +kernel) (by decide +kernel) (by decide +kernel) (by decide +kernel) ?_
  refine sb_dup rfl ?_
  refine sb_sipush (v := 130) (by decide +kernel) ?_
  refine sb_bipush (v := 114) (by decide +kernel) ?_
  refine ct_iast (N := 153) 150 130 rfl (by decide +kernel) (by decide +kernel) (by decide +kernel) (by decide +kernel) (by decide +kernel) ?_
  refine sb_dup rfl ?_
  refine sb_sipush (v := 131) (by decide +kernel) ?_
  refine sb_bipush (v := 32) (by decide +kernel) ?_
  refine ct_iast (N := 153) 151 131 rfl (by decide +kernel) (by decide +kernel) (by decide +kernel) (by decide +kernel) (by decide +kernel) ?_
  refine sb_dup rfl ?_
  refine sb_sipush (v := 132) (by decide +kernel) ?_
  refine sb_bipush (v := 105) (by decide +kernel) ?_
  refine sb_end ?_
  refine sb_in [(859, .iastore, 1), (860, .dup, 1), (861, .sipush 133, 3), (864, .bipush 110, 2), (866, .iastore, 1), (867, .dup, 1), (868, .sipush 134, 3), (871, .bipush 118, 2), (873, .iastore, 1), (874, .dup, 1), (875, .sipush 135, 3), (878, .bipush 105, 2), (880, .iastore, 1), (881, .dup, 1), (882, .sipush 136, 3), (885, .bipush 116, 2), (887, .iastore, 1), (888, .dup, 1), (889, .sipush 137, 3), (892, .bipush 97, 2), (894, .iastore, 1), (895, .dup, 1), (896, .sipush 138, 3), (899, .bipush 116, 2), (901, .iastore, 1), (902, .dup, 1), (903, .sipush 139, 3), (906, .bipush 105, 2), (908, .iastore, 1), (909, .dup, 1), (910, .sipush 140, 3), (913, .bipush 111, 2), (915, .iastore, 1), (916, .dup, 1), (917, .sipush 141, 3), (920, .bipush 110, 2), (922, .iastore, 1), (923, .dup, 1), (924, .sipush 142, 3), (927, .bipush 32, 2)] 929 (by decide +kernel) ?_
  refine ct_iast (N := 153) 152 132 rfl (by decide +kernel) (by decide +kernel) (by decide +kernel) (by decide +kernel) (by decide +kernel) ?_
  refine sb_dup rfl ?_
  refine sb_sipush (v := 133) (by decide +kernel) ?_
  refine sb_bipush (v := 110) (by decide +kernel) ?_
  refine ct_iast (N := 153) 153 133 rfl (by decide +kernel) (by decide +kernel) (by decide +kernel) (by decide +kernel) (by decide +kernel) ?_
  refine sb_dup rfl ?_
  refine sb_sipush (v := 134) (by decide +kernel) ?_
  refine sb_bipush (v := 118) (by decide +kernel) ?_
  refine ct_iast (N := 153) 154 134 rfl (by decide +kernel) (by decide +kernel) (by decide +kernel) (by decide +kernel) (by decide +kernel) ?_
  refine sb_dup rfl ?_
  refine sb_sipush (v := 135) (by decide +kernel) ?_
  refine sb_bipush (v := 105) (by decide +kernel) ?_
  refine ct_iast (N := 153) 155 135 rfl (by decide +kernel) (by decide +kernel) (by decide +kernel) (by decide +kernel) (by decide +kernel) ?_
  refine sb_dup rfl ?_
  refine sb_sipush (v := 136) (by decide +kernel) ?_
  refine sb_bipush (v := 116) (by decide +kernel) ?_
  refine ct_iast (N := 153) 156 136 rfl (by decide +kernel) (by decide +kernel) (by decide +kernel) (by decide +kernel) (by decide +kernel) ?_
  refine sb_dup rfl ?_
  refine sb_sipush (v := 137) (by decide +kernel) ?_
  refine sb_bipush (v := 97) (by decide +kernel) ?_
  refine ct_iast (N := 153) 157 137 rfl (by decide +kernel) (by decide +kernel) (by decide +kernel) (by decide +kernel) (by decide +kernel) ?_
  refine sb_dup rfl ?_
  refine sb_sipush (v := 138) (by decide +kernel) ?_
  refine sb_bipush (v := 116) (by decide +kernel) ?_
  refine ct_iast (N := 153) 158 138 rfl (by decide +kernel) (by decide +kernel) (by decide +kernel) (by decide +kernel) (by decide +kernel) ?_
  refine sb_dup rfl ?_
  refine sb_sipush (v := 139) (by decide +kernel) ?_
  refine sb_bipush (v := 105) (by decide +kernel) ?_
  refine ct_iast (N := 153) 159 139 rfl (by decide +kernel) (by decide +kernel) (by decide +kernel) (by decide +kernel) (by decide +kernel) ?_
  refine sb_dup rfl ?_
  refine sb_sipush (v := 140) (by decide +kernel) ?_
  refine sb_bipush (v := 111) (by decide +kernel) ?_
  refine ct_iast (N := 153) 160 140 rfl (by decide +kernel) (by decide +kernel) (by decide +kernel) (by decide +kernel) (by decide +kernel) ?_
  refine sb_dup rfl ?_
  refine sb_sipush (v := 141) (by decide +kernel) ?_
  refine sb_bipush (v := 110) (by decide +kernel) ?_
  refine ct_iast (N := 153) 161 141 rfl (by decide +kernel) (by decide +kernel) (by decide +kernel) (by decide +kernel) (by decide +kernel) ?_
  refine sb_dup rfl ?_
  refine sb_sipush (v := 142) (by decide +kernel) ?_
  refine sb_bipush (v := 32) (by decide +kernel) ?_
  refine sb_end ?_
  refine sb_in [(929, .iastore, 1), (930, .dup, 1), (931, .sipush 143, 3), (934, .bipush 116, 2), (936, .iastore, 1), (937, .dup, 1), (938, .sipush 144, 3), (941, .bipush 101, 2), (943, .iastore, 1), (944, .dup, 1), (945, .sipush 145, 3), (948, .bipush 120, 2), (950, .iastore, 1), (951, .dup, 1), (952, .sipush 146, 3), (955, .bipush 116, 2), (957, .iastore, 1), (958, .dup, 1), (959, .sipush 147, 3), (962, .bipush 32, 2), (964, .iastore, 1), (965, .dup, 1), (966, .sipush 148, 3), (969, .bipush 106, 2), (971, .iastore, 1), (972, .dup, 1), (973, .sipush 149, 3), (976, .bipush 111, 2), (978, .iastore, 1), (979, .dup, 1), (980, .sipush 150, 3), (983, .bipush 107, 2), (985, .iastore, 1), (986, .dup, 1), (987, .sipush 151, 3), (990, .bipush 101, 2), (992, .iastore, 1), (993, .dup, 1), (994, .sipush 152, 3), (997, .bipush 32, 2)] 999 (by decide +kernel) ?_
  refine ct_iast (N := 153) 162 142 rfl (by decide +kernel) (by decide +kernel) (by decide +kernel) (by decide +kernel) (by decide +kernel) ?_
  refine sb_dup rfl ?_
  refine sb_sipush (v := 143) (by decide +kernel) ?_
  refine sb_bipush (v := 116) (by decide +kernel) ?_
  refine ct_iast (N := 153) 163 143 rfl (by decide +kernel) (by decide +kernel) (by decide +kernel) (by decide +kernel) (by decide +kernel) ?_
  refine sb_dup rfl ?_
  refine sb_sipush (v := 144) (by decide +kernel) ?_
  refine sb_bipush (v := 101) (by decide +kernel) ?_
  refine ct_iast (N := 153) 164 144 rfl (by decide +kernel) (by decide +kernel) (by decide +kernel) (by decide +kernel) (by decide +kernel) ?_
  refine sb_dup rfl ?_
  refine sb_sipush (v := 145) (by decide +kernel) ?_
  refine sb_bipush (v := 120) (by decide +kernel) ?_
  refine ct_iast (N := 153) 165 145 rfl (by decide +kernel) (by decide +kernel) (by decide +kernel) (by decide +kernel) (by decide +kernel) ?_
  refine sb_dup rfl ?_
  refine sb_sipush (v := 146) (by decide +kernel) ?_
  refine sb_bipush (v := 116) (by decide +kernel) ?_
  refine ct_iast (N := 153) 166 146 rfl (by decide +kernel) (by decide +kernel) (by decide +kernel) (by decide +kernel) (by decide +kernel) ?_
  refine sb_dup rfl ?_
  refine sb_sipush (v := 147) (by decide +kernel) ?_
  refine sb_bipush (v := 32) (by decide +kernel) ?_
  refine ct_iast (N := 153) 167 147 rfl (by decide +kernel) (by decide +kernel) (by decide +kernel) (by decide +kernel) (by decide +kernel) ?_
  refine sb_dup rfl ?_
  refine sb_sipush (v := 148) (by decide +kernel) ?_
  refine sb_bipush (v := 106) (by decide +kernel) ?_
  refine ct_iast (N := 153) 168 148 rfl (by decide +kernel) (by decide +kernel) (by decide +kernel) (by decide +kernel) (by decide +kernel) ?_
  refine sb_dup rfl ?_
  refine sb_sipush (v := 149) (by decide +kernel) ?_
  refine sb_bipush (v := 111) (by decide +kernel) ?_
  refine ct_iast (N := 153) 169 149 rfl (by decide +kernel) (by decide +kernel) (by decide +kernel) (by decide +kernel) (by decide +kernel) ?_
  refine sb_dup rfl ?_
  refine sb_sipush (v := 150) (by decide +kernel) ?_
  refine sb_bipush (v := 107) (by decide +kernel) ?_
  refine ct_iast (N := 153) 170 150 rfl (by decide +kernel) (by decide +kernel) (by decide +kernel) (by decide +kernel) (by decide +kernel) ?_
  refine sb_dup rfl ?_
  refine sb_sipush (v := 151) (by decide +kernel) ?_
  refine sb_bipush (v := 101) (by decide +kernel) ?_
  refine ct_iast (N := 153) 171 151 rfl (by decide +kernel) (by decide +kernel) (by decide +kernel) (by decide +kernel) (by decide +kernel) ?_
  refine sb_dup rfl ?_
  refine sb_sipush (v := 152) (by decide +kernel) ?_
  refine sb_bipush (v := 32) (by decide +kernel) ?_
  refine sb_end ?_
  refine sb_in [(999, .iastore, 1), (1000, .putfield 28, 3), (1003, .aload_n 0, 1), (1004, .iconst 2, 1), (1005, .newarray .int, 2), (1007, .putfield 31, 3), (1010, .aload_n 0, 1), (1011, .bipush 48, 2), (1013, .newarray .int, 2), (1015, .putfield 34, 3), (1018, .aload_n 0, 1), (1019, .bipush 48, 2), (1021, .newarray .int, 2), (1023, .putfield 37, 3), (1026, .aload_n 0, 1), (1027, .bipush 48, 2), (1029, .newarray .int, 2), (1031, .putfield 40, 3), (1034, .aload_n 0, 1), (1035, .bipush 48, 2), (1037, .newarray .int, 2), (1039, .putfield 43, 3), (1042, .aload_n 0, 1), (1043, .sipush 1200, 3), (1046, .newarray .int, 2), (1048, .putfield 46, 3), (1051, .aload_n 0, 1), (1052, .sipush 1200, 3), (1055, .newarray .int, 2), (1057, .putfield 49, 3), (1060, .aload_n 0, 1), (1061, .bipush 40, 2), (1063, .newarray .int, 2), (1065, .putfield 52, 3), (1068, .aload_n 0, 1), (1069, .iconst (-1), 1), (1070, .putfield 55, 3), (1073, .aload_n 0, 1), (1074, .sipush 128, 3), (1077, .newarray .int, 2)] 1079 (by decide +kernel) ?_
  refine ct_iast (N := 153) 172 152 rfl (by decide +kernel) (by decide +kernel) (by decide +kernel) (by decide +kernel) (by decide +kernel) ?_
  refine ct_putR (ci := 12) (N := 64) 223 15 rfl (by decide +kernel) (by decide +kernel) (by decide +kernel) (by decide +kernel) (by decide +kernel) ?_
  refine sb_aload_n rfl ?_
  refine sb_iconst (v := 2) (by decide +kernel) ?_
  refine ct_newI (N := 2) 226 rfl (by decide +kernel) (by decide +kernel) (by decide +kernel) (by decide +kernel) ar_int (by decide +kernel) ?_
  refine ct_putR (ci := 12) (N := 64) 224 16 rfl (by decide +kernel) (by decide +kernel) (by decide +kernel) (by decide +kernel) (by decide +kernel) ?_
  refine sb_aload_n rfl ?_
  refine sb_bipush (v := 48) (by decide +kernel) ?_
  refine ct_newI (N := 48) 227 rfl (by decide +kernel) (by decide +kernel) (by decide +kernel) (by decide +kernel) ar_int (by decide +kernel) ?_
  refine ct_putR (ci := 12) (N := 64) 225 17 rfl (by decide +kernel) (by decide +kernel) (by decide +kernel) (by decide +kernel) (by decide +kernel) ?_
  refine sb_aload_n rfl ?_
  refine sb_bipush (v := 48) (by decide +kernel) ?_
  refine ct_newI (N := 48) 228 rfl (by decide +kernel) (by decide +kernel) (by decide +kernel) (by decide +kernel) ar_int (by decide +kernel) ?_
  refine ct_putR (ci := 12) (N := 64) 226 18 rfl (by decide +kernel) (by decide +kernel) (by decide +kernel) (by decide +kernel) (by decide +kernel) ?_
  refine sb_aload_n rfl ?_
  refine sb_bipush (v := 48) (by decide +kernel) ?_
  refine ct_newI (N := 48) 229 rfl (by decide +kernel) (by decide +kernel) (by decide +kernel) (by decide +kernel) ar_int (by decide +kernel) ?_
  refine ct_putR (ci := 12) (N := 64) 227 19 rfl (by decide +kernel) (by decide +kernel) (by decide +kernel) (by decide +kernel) (by decide +kernel) ?_
  refine sb_aload_n rfl ?_
  refine sb_bipush (v := 48) (by decide +kernel) ?_
  refine ct_newI (N := 48) 230 rfl (by decide +kernel) (by decide +kernel) (by decide +kernel) (by decide +kernel) ar_int (by decide +kernel) ?_
  refine ct_putR (ci := 12) (N := 64) 228 20 rfl (by decide +kernel) (by decide +kernel) (by decide +kernel) (by decide +kernel) (by decide +kernel) ?_
  refine sb_aload_n rfl ?_
  refine sb_sipush (v := 1200) (by decide +kernel) ?_
  refine ct_newI (N := 1200) 231 rfl (by decide +kernel) (by decide +kernel) (by decide +kernel) (by decide +kernel) ar_int (by decide +kernel) ?_
  refine ct_putR (ci := 12) (N := 64) 229 21 rfl (by decide +kernel) (by decide +kernel) (by decide +kernel) (by decide +kernel) (by decide +kernel) ?_
  refine sb_aload_n rfl ?_
  refine sb_sipush (v := 1200) (by decide +kernel) ?_
  refine ct_newI (N := 1200) 232 rfl (by decide +kernel) (by decide +kernel) (by decide +kernel) (by decide +kernel) ar_int (by decide +kernel) ?_
  refine ct_putR (ci := 12) (N := 64) 230 22 rfl (by decide +kernel) (by decide +kernel) (by decide +kernel) (by decide +kernel) (by decide +kernel) ?_
  refine sb_aload_n rfl ?_
  refine sb_bipush (v := 40) (by decide +kernel) ?_
  refine ct_newI (N := 40) 233 rfl (by decide +kernel) (by decide +kernel) (by decide +kernel) (by decide +kernel) ar_int (by decide +kernel) ?_
  refine ct_putR (ci := 12) (N := 64) 231 26 rfl (by decide +kernel) (by decide +kernel) (by decide +kernel) (by decide +kernel) (by decide +kernel) ?_
  refine sb_aload_n rfl ?_
  refine sb_iconst (v := (-1)) (by decide +kernel) ?_
  refine ct_putI (ci := 12) (N := 64) 173 31 rfl (by decide +kernel) (by decide +kernel) (by decide +kernel) (by decide +kernel) (by decide +kernel) (by decide +kernel) ?_
  refine sb_aload_n rfl ?_
  refine sb_sipush (v := 128) (by decide +kernel) ?_
  refine ct_newI (N := 128) 234 rfl (by decide +kernel) (by decide +kernel) (by decide +kernel) (by decide +kernel) ar_int (by decide +kernel) ?_
  refine sb_end ?_
  refine sb_in [(1079, .putfield 59, 3), (1082, .aload_n 0, 1), (1083, .bipush 32, 2), (1085, .newarray .int, 2), (1087, .putfield 62, 3), (1090, .aload_n 0, 1), (1091, .sipush 288, 3), (1094, .newarray .int, 2), (1096, .putfield 65, 3), (1099, .aload_n 0, 1), (1100, .bipush 11, 2), (1102, .newarray .int, 2), (1104, .putfield 68, 3), (1107, .aload_n 0, 1), (1108, .sipush 420, 3), (1111, .newarray .int, 2), (1113, .putfield 71, 3), (1116, .aload_n 0, 1), (1117, .sipush 144, 3), (1120, .newarray .int, 2), (1122, .putfield 74, 3), (1125, .aload_n 0, 1), (1126, .bipush 12, 2), (1128, .newarray .int, 2), (1130, .putfield 77, 3), (1133, .aload_n 0, 1), (1134, .sipush 2048, 3), (1137, .newarray .int, 2), (1139, .putfield 80, 3), (1142, .aload_n 0, 1), (1143, .bipush 8, 2), (1145, .newarray .int, 2), (1147, .putfield 83, 3), (1150, .aload_n 0, 1), (1151, .sipush 256, 3), (1154, .newarray .int, 2), (1156, .putfield 86, 3), (1159, .aload_n 0, 1), (1160, .sipush 10025, 3), (1163, .newarray .int, 2)] 1165 (by decide +kernel) ?_
  refine ct_putR (ci := 12) (N := 64) 232 33 rfl (by decide +kernel) (by decide +kernel) (by decide +kernel) (by decide +kernel) (by decide +kernel) ?_
  refine sb_aload_n rfl ?_
  refine sb_bipush (v := 32) (by decide +kernel) ?_
  refine ct_newI (N := 32) 235 rfl (by decide +kernel) (by decide +kernel) (by decide +kernel) (by decide +kernel) ar_int (by decide +kernel) ?_
  refine ct_putR (ci := 12) (N := 64) 233 35 rfl (by decide +kernel) (by decide +kernel) (by decide +kernel) (by decide +kernel) (by decide +kernel) ?_
  refine sb_aload_n rfl ?_
  refine sb_sipush (v := 288) (by decide +kernel) ?_
  refine ct_newI (N := 288) 236 rfl (by decide +kernel) (by decide +kernel) (by decide +kernel) (by decide +kernel) ar_int (by decide +kernel) ?_
  refine ct_putR (ci := 12) (N := 64) 234 37 rfl (by decide +kernel) (by decide +kernel) (by decide +kernel) (by decide +kernel) (by decide +kernel) ?_
  refine sb_aload_n rfl ?_
  refine sb_bipush (v := 11) (by decide +kernel) ?_
  refine ct_newI (N := 11) 237 rfl (by decide +kernel) (by decide +kernel) (by decide +kernel) (by decide +kernel) ar_int (by decide +kernel) ?_
  refine ct_putR (ci := 12) (N := 64) 235 38 rfl (by decide +kernel) (by decide +kernel) (by decide +kernel) (by decide +kernel) (by decide +kernel) ?_
  refine sb_aload_n rfl ?_
  refine sb_sipush (v := 420) (by decide +kernel) ?_
  refine ct_newI (N := 420) 238 rfl (by decide +kernel) (by decide +kernel) (by decide +kernel) (by decide +kernel) ar_int (by decide +kernel) ?_
  refine ct_putR (ci := 12) (N := 64) 236 39 rfl (by decide +kernel) (by decide +kernel) (by decide +kernel) (by decide +kernel) (by decide +kernel) ?_
  refine sb_aload_n rfl ?_
  refine sb_sipush (v := 144) (by decide +kernel) ?_
  refine ct_newI (N := 144) 239 rfl (by decide +kernel) (by decide +kernel) (by decide +kernel) (by decide +kernel) ar_int (by decide +kernel) ?_
  refine ct_putR (ci := 12) (N := 64) 237 41 rfl (by decide +kernel) (by decide +kernel) (by decide +kernel) (by decide +kernel) (by decide +kernel) ?_
  refine sb_aload_n rfl ?_
  refine sb_bipush (v := 12) (by decide +kernel) ?_
  refine ct_newI (N := 12) 240 rfl (by decide +kernel) (by decide +kernel) (by decide +kernel) (by decide +kernel) ar_int (by decide +kernel) ?_
  refine ct_putR (ci := 12) (N := 64) 238 43 rfl (by decide +kernel) (by decide +kernel) (by decide +kernel) (by decide +kernel) (by decide +kernel) ?_
  refine sb_aload_n rfl ?_
  refine sb_sipush (v := 2048) (by decide +kernel) ?_
  refine ct_newI (N := 2048) 241 rfl (by decide +kernel) (by decide +kernel) (by decide +kernel) (by decide +kernel) ar_int (by decide +kernel) ?_
  refine ct_putR (ci := 12) (N := 64) 239 44 rfl (by decide +kernel) (by decide +kernel) (by decide +kernel) (by decide +kernel) (by decide +kernel) ?_
  refine sb_aload_n rfl ?_
  refine sb_bipush (v := 8) (by decide +kernel) ?_
  refine ct_newI (N := 8) 242 rfl (by decide +kernel) (by decide +kernel) (by decide +kernel) (by decide +kernel) ar_int (by decide +kernel) ?_
  refine ct_putR (ci := 12) (N := 64) 240 46 rfl (by decide +kernel) (by decide +kernel) (by decide +kernel) (by decide +kernel) (by decide +kernel) ?_
  refine sb_aload_n rfl ?_
  refine sb_sipush (v := 256) (by decide +kernel) ?_
  refine ct_newI (N := 256) 243 rfl (by decide +kernel) (by decide +kernel) (by decide +kernel) (by decide +kernel) ar_int (by decide +kernel) ?_
  refine ct_putR (ci := 12) (N := 64) 241 47 rfl (by decide +kernel) (by decide +kernel) (by decide +kernel) (by decide +kernel) (by decide +kernel) ?_
  refine sb_aload_n rfl ?_
  refine sb_sipush (v := 10025) (by decide +kernel) ?_
  refine ct_newI (N := 10025) 244 rfl (by decide +kernel) (by decide +kernel) (by decide +kernel) (by decide +kernel) ar_int (by decide +kernel) ?_
  refine sb_end ?_
  refine sb_in [(1165, .putfield 89, 3), (1168, .aload_n 0, 1), (1169, .bipush 12, 2), (1171, .newarray .int, 2), (1173, .putfield 92, 3), (1176, .aload_n 0, 1), (1177, .sipush 4096, 3), (1180, .newarray .int, 2), (1182, .putfield 95, 3), (1185, .aload_n 0, 1), (1186, .bipush 26, 2), (1188, .newarray .int, 2), (1190, .putfield 98, 3), (1193, .aload_n 0, 1), (1194, .bipush 8, 2), (1196, .newarray .int, 2), (1198, .putfield 101, 3), (1201, .aload_n 0, 1), (1202, .bipush 49, 2), (1204, .newarray .int, 2), (1206, .putfield 104, 3), (1209, .aload_n 0, 1), (1210, .bipush 8, 2), (1212, .newarray .int, 2), (1214, .putfield 107, 3), (1217, .aload_n 0, 1), (1218, .bipush 8, 2), (1220, .newarray .int, 2), (1222, .putfield 110, 3), (1225, .aload_n 0, 1), (1226, .sipush 2300, 3), (1229, .newarray .int, 2), (1231, .putfield 113, 3), (1234, .return_, 1)] 1235 (by decide +kernel) ?_
  refine ct_putR (ci := 12) (N := 64) 242 48 rfl (by decide +kernel) (by decide +kernel) (by decide +kernel) (by decide +kernel) (by decide +kernel) ?_
  refine sb_aload_n rfl ?_
  refine sb_bipush (v := 12) (by decide +kernel) ?_
  refine ct_newI (N := 12) 245 rfl (by decide +kernel) (by decide +kernel) (by decide +kernel) (by decide +kernel) ar_int (by decide +kernel) ?_
  refine ct_putR (ci := 12) (N := 64) 243 50 rfl (by decide +kernel) (by decide +kernel) (by decide +kernel) (by decide +kernel) (by decide +kernel) ?_
  refine sb_aload_n rfl ?_
  refine sb_sipush (v := 4096) (by decide +kernel) ?_
  refine ct_newI (N := 4096) 246 rfl (by decide +kernel) (by decide +kernel) (by decide +kernel) (by decide +kernel) ar_int (by decide +kernel) ?_
  refine ct_putR (ci := 12) (N := 64) 244 51 rfl (by decide +kernel) (by decide +kernel) (by decide +kernel) (by decide +kernel) (by decide +kernel) ?_
  refine sb_aload_n rfl ?_
  refine sb_bipush (v := 26) (by decide +kernel) ?_
  refine ct_newI (N := 26) 247 rfl (by decide +kernel) (by decide +kernel) (by decide +kernel) (by decide +kernel) ar_int (by decide +kernel) ?_
  refine ct_putR (ci := 12) (N := 64) 245 52 rfl (by decide +kernel) (by decide +kernel) (by decide +kernel) (by decide +kernel) (by decide +kernel) ?_
  refine sb_aload_n rfl ?_
  refine sb_bipush (v := 8) (by decide +kernel) ?_
  refine ct_newI (N := 8) 248 rfl (by decide +kernel) (by decide +kernel) (by decide +kernel) (by decide +kernel) ar_int (by decide +kernel) ?_
  refine ct_putR (ci := 12) (N := 64) 246 54 rfl (by decide +kernel) (by decide +kernel) (by decide +kernel) (by decide +kernel) (by decide +kernel) ?_
  refine sb_aload_n rfl ?_
  refine sb_bipush (v := 49) (by decide +kernel) ?_
  refine ct_newI (N := 49) 249 rfl (by decide +kernel) (by decide +kernel) (by decide +kernel) (by decide +kernel) ar_int (by decide +kernel) ?_
  refine ct_putR (ci := 12) (N := 64) 247 56 rfl (by decide +kernel) (by decide +kernel) (by decide +kernel) (by decide +kernel) (by decide +kernel) ?_
  refine sb_aload_n rfl ?_
  refine sb_bipush (v := 8) (by decide +kernel) ?_
  refine ct_newI (N := 8) 250 rfl (by decide +kernel) (by decide +kernel) (by decide +kernel) (by decide +kernel) ar_int (by decide +kernel) ?_
  refine ct_putR (ci := 12) (N := 64) 248 58 rfl (by decide +kernel) (by decide +kernel) (by decide +kernel) (by decide +kernel) (by decide +kernel) ?_
  refine sb_aload_n rfl ?_
  refine sb_bipush (v := 8) (by decide +kernel) ?_
  refine ct_newI (N := 8) 251 rfl (by decide +kernel) (by decide +kernel) (by decide +kernel) (by decide +kernel) ar_int (by decide +kernel) ?_
  refine ct_putR (ci := 12) (N := 64) 249 59 rfl (by decide +kernel) (by decide +kernel) (by decide +kernel) (by decide +kernel) (by decide +kernel) ?_
  refine sb_aload_n rfl ?_
  refine sb_sipush (v := 2300) (by decide +kernel) ?_
  refine ct_newI (N := 2300) 252 rfl (by decide +kernel) (by decide +kernel) (by decide +kernel) (by decide +kernel) ar_int (by decide +kernel) ?_
  refine ct_putR (ci := 12) (N := 64) 250 63 rfl (by decide +kernel) (by decide +kernel) (by decide +kernel) (by decide +kernel) (by decide +kernel) ?_
  refine sb_return ?_
  exact rfl
end RnCtor
