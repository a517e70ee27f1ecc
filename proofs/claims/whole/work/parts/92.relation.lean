/-! WHAT HOLDS BETWEEN THE TWO SIDES, BEFORE EACH CALL -/
/-- a byte as the class holds it -/
def isB (x : Int32) : Prop := ∃ z : Int, -128 ≤ z ∧ z < 128 ∧ x = iZ z
/-- the tape -/
def RT (s1 s2 : Int32) (b t : Nat → Int32) : Prop := ∃ n : Nat, n ≤ 4096 ∧ s1 = nI n ∧ s2 = nI n ∧ ∀ k, k < n → t k = b k &&& 255 ∧ isB (b k)
/-- the fonts -/
def RF (s t c d : Nat → Int32) : Prop := (∀ k, k < 12 → t k = s k) ∧ (∀ k, k < 32768 → d k = c k) ∧ ∀ f, f < 4 → ∃ a b g : Nat, s (3 * f) = nI a ∧ s (3 * f + 1) = nI b ∧ s (3 * f + 2) = nI g ∧ 1 ≤ a ∧ a ≤ 32 ∧ 1 ≤ b ∧ b ≤ 32 ∧ g ≤ 32
/-- labels: how many, rows -/
def RB (n1 n2 : Int32) (r1 r2 : Nat → Int32) : Prop := ∃ n : Nat, n ≤ 12 ∧ n1 = nI n ∧ n2 = nI n ∧ ∀ k, k < 4 * n → r2 k = r1 k
/-- orders: how many, rows, bytes -/
def RO (n1 n2 : Int32) (r1 r2 b1 b2 : Nat → Int32) : Prop := ∃ n : Nat, n ≤ 120 ∧ n1 = nI n ∧ n2 = nI n ∧ ∀ k, k < n → (∀ j, j < 9 → r2 (9 * k + j) = r1 (14 * k + j)) ∧ ∃ s : Nat, s ≤ 200 ∧ r1 (14 * k + 8) = nI s ∧ ∀ i, i < s → b2 (200 * k + i) = b1 (200 * k + i) &&& 255
/-- what is known of an order's numbers -/
def OG (r b : Nat → Int32) : Prop := ∃ (kd qd sz : Nat) (x y p s t : Int), (r 0 = nI kd ∧ r 1 = iZ x ∧ r 2 = iZ y ∧ r 3 = nI qd ∧ r 5 = iZ p ∧ r 6 = iZ s ∧ r 7 = iZ t ∧ r 8 = nI sz) ∧ (r 4 = 0 ∨ r 4 = 2) ∧ (-4096 ≤ x ∧ x ≤ 4096 ∧ -4096 ≤ y ∧ y ≤ 4096 ∧ qd < 4 ∧ sz ≤ 200) ∧ ((kd = 0 ∧ 0 ≤ p ∧ p ≤ 3 ∧ 1 ≤ s ∧ s ≤ 10 ∧ 1 ≤ t ∧ t ≤ 10) ∨ (kd = 1 ∧ 1 ≤ p ∧ p ≤ 50 ∧ 1 ≤ s ∧ s ≤ 2048 ∧ t = 0 ∧ 1 ≤ sz) ∨ (kd = 2 ∧ 1 ≤ p ∧ p ≤ 50 ∧ 1 ≤ s ∧ s ≤ 2048 ∧ t = 0 ∧ sz = 12 ∧ ∀ i, i < 12 → ∃ g : Nat, g < 10 ∧ b i = nI (48 + g)) ∨ (kd = 3 ∧ 1 ≤ p ∧ p ≤ 50 ∧ 0 ≤ s ∧ s ≤ 3 ∧ -1 ≤ t ∧ t ≤ 7 ∧ 1 ≤ sz) ∨ ((kd = 4 ∨ kd = 5) ∧ 1 ≤ p ∧ p ≤ 2048 ∧ 1 ≤ s ∧ s ≤ 2048 ∧ 1 ≤ t ∧ t ≤ 200 ∧ sz = 0) ∨ (kd = 6 ∧ -4096 ≤ p ∧ p ≤ 4096 ∧ -4096 ≤ s ∧ s ≤ 4096 ∧ 1 ≤ t ∧ t ≤ 200 ∧ sz = 0 ∧ -4096 ≤ x + p ∧ x + p ≤ 4096 ∧ -4096 ≤ y + s ∧ y + s ≤ 4096) ∨ (kd = 7 ∧ 1 ≤ p ∧ p ≤ 1024 ∧ s = 0 ∧ t = 0 ∧ 1 ≤ sz ∧ sz ≤ 100 ∧ sz % ((p.toNat + 7) / 8) = 0))
/-- labels and orders: what is known of all of them -/
def OR (nl : Int32) (lr : Nat → Int32) (no : Int32) (rw bs : Nat → Int32) : Prop := ∃ n m : Nat, no = nI n ∧ n ≤ 120 ∧ nl = nI m ∧ m ≤ 12 ∧ (∀ k, k < n → OG (fun j => rw (14 * k + j)) (fun i => bs (200 * k + i))) ∧ ∀ k, k < m → ∃ W H f c : Nat, lr (4 * k) = nI W ∧ lr (4 * k + 1) = nI H ∧ lr (4 * k + 2) = nI f ∧ lr (4 * k + 3) = nI c ∧ 1 ≤ W ∧ W ≤ 512 ∧ 1 ≤ H ∧ H ≤ 512 ∧ f + c ≤ n
/-- forms and variables: m of them, at most s bytes each -/
def RV (m s : Nat) (z1 z2 b1 b2 : Nat → Int32) : Prop := ∀ k, k < m → ∃ n : Nat, n ≤ s ∧ z1 k = nI n ∧ z2 k = nI n ∧ ∀ i, i < n → b2 (s * k + i) = b1 (s * k + i) &&& 255 ∧ isB (b1 (s * k + i))
/-- the sheet: D says which dots are dark -/
def RD (w1 h1 w2 h2 w3 h3 : Int32) (ws : Nat → Int64) (dk pk : Nat → Int32) (W H : Nat) (D : Nat → Nat → Bool) : Prop := (1 ≤ W ∧ W ≤ 512 ∧ 1 ≤ H ∧ H ≤ 512) ∧ (w1 = nI W ∧ h1 = nI H ∧ w2 = nI W ∧ h2 = nI H ∧ w3 = nI W ∧ h3 = nI H) ∧ (∀ x y, D x y = true → x < W ∧ y < H) ∧ (∀ y j b, y < 512 → j < 8 → b < 64 → lb (ws (8 * y + j)) b = D (64 * j + b) y) ∧ (∀ y j b, y < 1024 → j < 32 → b < 32 → ib (dk (32 * y + j)) b = D (32 * j + b) y) ∧ ∀ x y, x < 512 → y < 512 → pk (512 * y + x) = if D x y = true then 1 else 0
/-- the key of a place -/
def pkey (x y m v q : Nat) : Int64 := lZ ((((((y * 512 + x) * 32 + m) * 64 + v) * 4 + q : Nat)) : Int)
/-- the places found -/
def RP (n1 n2 : Int32) (ks : Nat → Int64) (wr fd : Nat → Int32) (W H : Nat) : Prop := ∃ n : Nat, n ≤ 300 ∧ n1 = nI n ∧ n2 = nI n ∧ ∀ k, k < n → ∃ x y m v q e : Nat, m ≤ 16 ∧ 1 ≤ m ∧ v ≤ 40 ∧ 1 ≤ v ∧ q < 4 ∧ e ≤ 500 ∧ x + m * (17 + 4 * v) ≤ W ∧ y + m * (17 + 4 * v) ≤ H ∧ ks k = pkey x y m v q ∧ wr k = nI e ∧ fd (6 * k) = nI x ∧ fd (6 * k + 1) = nI y ∧ fd (6 * k + 2) = nI m ∧ fd (6 * k + 3) = nI v ∧ fd (6 * k + 4) = nI q ∧ fd (6 * k + 5) = nI e
/-- what was drawn -/
def RW (n1 n2 : Int32) (d1 d2 : Nat → Int32) : Prop := ∃ n : Nat, n ≤ 120 ∧ n1 = nI n ∧ n2 = nI n ∧ ∀ k, k < n → d2 k = d1 k
/-- what was read -/
def RG (s1 s2 kind flt back good : Int32) (last b1 b2 rd : Nat → Int32) : Prop := (∃ n : Nat, n ≤ 3000 ∧ s1 = nI n ∧ s2 = nI n ∧ ∀ k, k < n → b2 k = b1 k &&& 255) ∧ last 0 = kind ∧ last 6 = flt ∧ ((kind = -1 ∧ last 1 = -1 ∧ last 2 = -1 ∧ last 3 = -1 ∧ last 4 = -1 ∧ last 5 = -1) ∨ (kind = 0 ∧ good = 1 ∧ last 1 = rd 0 ∧ last 2 = rd 1 ∧ last 3 = rd 2 ∧ last 4 = rd 3 ∧ last 5 = -1) ∨ ((kind = 1 ∨ kind = 2) ∧ last 1 = -1 ∧ last 2 = -1 ∧ last 3 = -1 ∧ last 4 = -1 ∧ last 5 = back ∧ (back = 0 ∨ back = 1)))
/-- arrays, fields, rows of longs that are not among the changed ones -/
def clr (A : Nat) (F : List (Nat × Nat)) (as : List Nat) (fs : List (Nat × Nat)) (ls : List Nat) : Bool := as.all (fun a => !A.testBit a && F.all (fun p => !(p.1 == a))) && fs.all (fun p => !A.testBit p.1 && !F.contains p) && ls.all (fun a => !A.testBit a)
theorem clr_a {A : Nat} {F : List (Nat × Nat)} {as : List Nat} {fs : List (Nat × Nat)} {ls : List Nat} {M M' : im_M} (c : clr A F as fs ls = true) (h : fr A F M M') {a : Nat} (ha : a ∈ as) : im_i M' a = im_i M a := by
  simp only [clr, Bool.and_eq_true, List.all_eq_true] at c
  have q := c.1.1 a ha
  simp only [Bool.not_eq_true', beq_eq_false_iff_ne] at q
  exact fr_c h a q.1 q.2
theorem clr_f {A : Nat} {F : List (Nat × Nat)} {as : List Nat} {fs : List (Nat × Nat)} {ls : List Nat} {M M' : im_M} (c : clr A F as fs ls = true) (h : fr A F M M') {a k : Nat} (ha : (a, k) ∈ fs) : im_i M' a k = im_i M a k := by
  simp only [clr, Bool.and_eq_true, List.all_eq_true] at c
  have q := c.1.2 _ ha
  simp only [Bool.not_eq_true'] at q
  exact h.1 a k q.1 (fun z => by
    have : F.contains (a, k) = true := List.contains_iff_mem.mpr z
    rw [q.2] at this
    cases this)
theorem clr_l {A : Nat} {F : List (Nat × Nat)} {as : List Nat} {fs : List (Nat × Nat)} {ls : List Nat} {M M' : im_M} (c : clr A F as fs ls = true) (h : fr A F M M') {a : Nat} (ha : a ∈ ls) : im_l M' a = im_l M a := by
  simp only [clr, Bool.and_eq_true, List.all_eq_true] at c
  have q := c.2 a ha
  simp only [Bool.not_eq_true'] at q
  exact h.2 a q
def QT (M : im_M) : Prop := RT (im_i M 1 1) (im_i M 69 2) (im_i M 2) (im_i M 70)
theorem QT_fr {A : Nat} {F : List (Nat × Nat)} {M M' : im_M} (h : fr A F M M') (c : clr A F [2, 70] [(1, 1), (69, 2)] [] = true) (q : QT M) : QT M' := by
  unfold QT at q ⊢
  rw [clr_a c h (a := 2) (by decide), clr_a c h (a := 70) (by decide), clr_f c h (a := 1) (k := 1) (by decide), clr_f c h (a := 69) (k := 2) (by decide)]
  exact q
def QF (M : im_M) : Prop := RF (im_i M 57) (im_i M 93) (im_i M 58) (im_i M 94)
theorem QF_fr {A : Nat} {F : List (Nat × Nat)} {M M' : im_M} (h : fr A F M M') (c : clr A F [57, 93, 58, 94] [] [] = true) (q : QF M) : QF M' := by
  unfold QF at q ⊢
  rw [clr_a c h (a := 57) (by decide), clr_a c h (a := 93) (by decide), clr_a c h (a := 58) (by decide), clr_a c h (a := 94) (by decide)]
  exact q
def QS (M : im_M) : Prop := im_i M 71 13 = im_i M 15 6 ∧ im_i M 71 14 = im_i M 15 7
theorem QS_fr {A : Nat} {F : List (Nat × Nat)} {M M' : im_M} (h : fr A F M M') (c : clr A F [] [(71, 13), (15, 6), (71, 14), (15, 7)] [] = true) (q : QS M) : QS M' := by
  unfold QS at q ⊢
  rw [clr_f c h (a := 71) (k := 13) (by decide), clr_f c h (a := 15) (k := 6) (by decide), clr_f c h (a := 71) (k := 14) (by decide), clr_f c h (a := 15) (k := 7) (by decide)]
  exact q
def QB (M : im_M) : Prop := RB (im_i M 15 4) (im_i M 71 35) (im_i M 16) (im_i M 86)
theorem QB_fr {A : Nat} {F : List (Nat × Nat)} {M M' : im_M} (h : fr A F M M') (c : clr A F [16, 86] [(15, 4), (71, 35)] [] = true) (q : QB M) : QB M' := by
  unfold QB at q ⊢
  rw [clr_a c h (a := 16) (by decide), clr_a c h (a := 86) (by decide), clr_f c h (a := 15) (k := 4) (by decide), clr_f c h (a := 71) (k := 35) (by decide)]
  exact q
def QO (M : im_M) : Prop := RO (im_i M 11 3) (im_i M 71 37) (im_i M 13) (im_i M 87) (im_i M 14) (im_i M 88) ∧ OR (im_i M 15 4) (im_i M 16) (im_i M 11 3) (im_i M 13) (im_i M 14)
theorem QO_fr {A : Nat} {F : List (Nat × Nat)} {M M' : im_M} (h : fr A F M M') (c : clr A F [13, 87, 14, 88, 16] [(11, 3), (71, 37), (15, 4)] [] = true) (q : QO M) : QO M' := by
  unfold QO at q ⊢
  rw [clr_a c h (a := 13) (by decide), clr_a c h (a := 87) (by decide), clr_a c h (a := 14) (by decide), clr_a c h (a := 88) (by decide), clr_f c h (a := 11) (k := 3) (by decide), clr_f c h (a := 71) (k := 37) (by decide), clr_f c h (a := 15) (k := 4) (by decide), clr_a c h (a := 16) (by decide)]
  exact q
def QV (M : im_M) : Prop := RV 8 400 (im_i M 4) (im_i M 74) (im_i M 3) (im_i M 73) ∧ RV 10 200 (im_i M 6) (im_i M 76) (im_i M 5) (im_i M 75)
theorem QV_fr {A : Nat} {F : List (Nat × Nat)} {M M' : im_M} (h : fr A F M M') (c : clr A F [4, 74, 3, 73, 6, 76, 5, 75] [] [] = true) (q : QV M) : QV M' := by
  unfold QV at q ⊢
  rw [clr_a c h (a := 4) (by decide), clr_a c h (a := 74) (by decide), clr_a c h (a := 3) (by decide), clr_a c h (a := 73) (by decide), clr_a c h (a := 6) (by decide), clr_a c h (a := 76) (by decide), clr_a c h (a := 5) (by decide), clr_a c h (a := 75) (by decide)]
  exact q
def QD (w : Bool) (M : im_M) : Prop := ∃ W H D, RD (im_i M 28 0) (im_i M 28 1) (im_i M 89 1) (im_i M 89 2) (im_i M 130 1) (im_i M 130 2) (im_l M (sw w)) (im_i M 90) (im_i M 131) W H D ∧ RP (im_i M 59 0) (im_i M 130 10) (im_l M 62) (im_i M 63) (im_i M 135) W H
theorem QD_fr {w : Bool} {A : Nat} {F : List (Nat × Nat)} {M M' : im_M} (h : fr A F M M') (c : clr A F [90, 131, 63, 135] [(28, 0), (28, 1), (89, 1), (89, 2), (130, 1), (130, 2), (59, 0), (130, 10)] [29, 30, 62] = true) (q : QD w M) : QD w M' := by
  have hsw : im_l M' (sw w) = im_l M (sw w) := by cases w; exact clr_l c h (a := 29) (by decide); exact clr_l c h (a := 30) (by decide)
  unfold QD at q ⊢
  rw [clr_a c h (a := 90) (by decide), clr_a c h (a := 131) (by decide), clr_a c h (a := 63) (by decide), clr_a c h (a := 135) (by decide), clr_f c h (a := 28) (k := 0) (by decide), clr_f c h (a := 28) (k := 1) (by decide), clr_f c h (a := 89) (k := 1) (by decide), clr_f c h (a := 89) (k := 2) (by decide), clr_f c h (a := 130) (k := 1) (by decide), clr_f c h (a := 130) (k := 2) (by decide), clr_f c h (a := 59) (k := 0) (by decide), clr_f c h (a := 130) (k := 10) (by decide), hsw, clr_l c h (a := 62) (by decide)]
  exact q
/-- every entry is a byte -/
def B8 (f : Nat → Int32) : Prop := ∀ k, ∃ b : Nat, b < 256 ∧ f k = nI b
def QW (M : im_M) : Prop := RW (im_i M 0 9) (im_i M 69 9) (im_i M 66) (im_i M 136) ∧ B8 (im_i M 120)
theorem QW_fr {A : Nat} {F : List (Nat × Nat)} {M M' : im_M} (h : fr A F M M') (c : clr A F [66, 136, 120] [(0, 9), (69, 9)] [] = true) (q : QW M) : QW M' := by
  unfold QW at q ⊢
  rw [clr_a c h (a := 66) (by decide), clr_a c h (a := 136) (by decide), clr_a c h (a := 120) (by decide), clr_f c h (a := 0) (k := 9) (by decide), clr_f c h (a := 69) (k := 9) (by decide)]
  exact q
def QG (M : im_M) : Prop := RG (im_i M 0 12) (im_i M 69 12) (im_i M 69 10) (im_i M 108 31) (im_i M 96 15) (im_i M 108 32) (im_i M 67) (im_i M 68) (im_i M 137) (im_i M 129)
theorem QG_fr {A : Nat} {F : List (Nat × Nat)} {M M' : im_M} (h : fr A F M M') (c : clr A F [67, 68, 137, 129] [(0, 12), (69, 12), (69, 10), (108, 31), (96, 15), (108, 32)] [] = true) (q : QG M) : QG M' := by
  unfold QG at q ⊢
  rw [clr_a c h (a := 67) (by decide), clr_a c h (a := 68) (by decide), clr_a c h (a := 137) (by decide), clr_a c h (a := 129) (by decide), clr_f c h (a := 0) (k := 12) (by decide), clr_f c h (a := 69) (k := 12) (by decide), clr_f c h (a := 69) (k := 10) (by decide), clr_f c h (a := 108) (k := 31) (by decide), clr_f c h (a := 96) (k := 15) (by decide), clr_f c h (a := 108) (k := 32) (by decide)]
  exact q
/-- above and left of the sheet no dot is summed -/
def Z0 (f : Nat → Int32) : Prop := ∀ k, k ≤ 512 → f k = 0 ∧ f (513 * k) = 0
/-- the tables that no call changes -/
def QC (M : im_M) : Prop := im_i M 45 = im_i mm_341 45 ∧ im_i M 46 = im_i mm_341 46 ∧ im_i M 97 = im_i mm_341 97 ∧ im_i M 98 = im_i mm_341 98 ∧ im_i M 99 = im_i mm_341 99 ∧ im_i M 109 = im_i mm_341 109 ∧ im_i M 110 = im_i mm_341 110 ∧ Z0 (im_i M 60) ∧ Z0 (im_i M 132)
theorem QC_fr {A : Nat} {F : List (Nat × Nat)} {M M' : im_M} (h : fr A F M M') (c : clr A F [45, 46, 97, 98, 99, 109, 110, 60, 132] [] [] = true) (q : QC M) : QC M' := by
  unfold QC at q ⊢
  rw [clr_a c h (a := 45) (by decide), clr_a c h (a := 46) (by decide), clr_a c h (a := 97) (by decide), clr_a c h (a := 98) (by decide), clr_a c h (a := 99) (by decide), clr_a c h (a := 109) (by decide), clr_a c h (a := 110) (by decide), clr_a c h (a := 60) (by decide), clr_a c h (a := 132) (by decide)]
  exact q
/-- all of it -/
def RL (w : Bool) (M : im_M) : Prop := QT M ∧ QF M ∧ QS M ∧ QB M ∧ QO M ∧ QV M ∧ QD w M ∧ QW M ∧ QG M ∧ QC M
/-- only what was thrown, and the row for an answer -/
def fr0 (M M' : im_M) : Prop := fr (2 ^ 138) [(69, 0), (71, 0), (89, 0), (96, 3), (108, 0), (130, 0)] M M'
theorem RL_0 {w : Bool} {M M' : im_M} (h : fr0 M M') (q : RL w M) : RL w M' := ⟨QT_fr h (by decide +kernel) q.1, QF_fr h (by decide +kernel) q.2.1, QS_fr h (by decide +kernel) q.2.2.1, QB_fr h (by decide +kernel) q.2.2.2.1, QO_fr h (by decide +kernel) q.2.2.2.2.1, QV_fr h (by decide +kernel) q.2.2.2.2.2.1, QD_fr h (by decide +kernel) q.2.2.2.2.2.2.1, QW_fr h (by decide +kernel) q.2.2.2.2.2.2.2.1, QG_fr h (by decide +kernel) q.2.2.2.2.2.2.2.2.1, QC_fr h (by decide +kernel) q.2.2.2.2.2.2.2.2.2⟩
theorem RL_T {w : Bool} {A : Nat} {F : List (Nat × Nat)} {M M' : im_M} (h : fr A F M M') (nT : QT M') (q : RL w M) (cF : clr A F [57, 93, 58, 94] [] [] = true := by decide +kernel) (cS : clr A F [] [(71, 13), (15, 6), (71, 14), (15, 7)] [] = true := by decide +kernel) (cB : clr A F [16, 86] [(15, 4), (71, 35)] [] = true := by decide +kernel) (cO : clr A F [13, 87, 14, 88, 16] [(11, 3), (71, 37), (15, 4)] [] = true := by decide +kernel) (cV : clr A F [4, 74, 3, 73, 6, 76, 5, 75] [] [] = true := by decide +kernel) (cD : clr A F [90, 131, 63, 135] [(28, 0), (28, 1), (89, 1), (89, 2), (130, 1), (130, 2), (59, 0), (130, 10)] [29, 30, 62] = true := by decide +kernel) (cW : clr A F [66, 136, 120] [(0, 9), (69, 9)] [] = true := by decide +kernel) (cG : clr A F [67, 68, 137, 129] [(0, 12), (69, 12), (69, 10), (108, 31), (96, 15), (108, 32)] [] = true := by decide +kernel) (cC : clr A F [45, 46, 97, 98, 99, 109, 110, 60, 132] [] [] = true := by decide +kernel) : RL w M' := ⟨nT, QF_fr h cF q.2.1, QS_fr h cS q.2.2.1, QB_fr h cB q.2.2.2.1, QO_fr h cO q.2.2.2.2.1, QV_fr h cV q.2.2.2.2.2.1, QD_fr h cD q.2.2.2.2.2.2.1, QW_fr h cW q.2.2.2.2.2.2.2.1, QG_fr h cG q.2.2.2.2.2.2.2.2.1, QC_fr h cC q.2.2.2.2.2.2.2.2.2⟩
theorem RL_F {w : Bool} {A : Nat} {F : List (Nat × Nat)} {M M' : im_M} (h : fr A F M M') (nF : QF M') (q : RL w M) (cT : clr A F [2, 70] [(1, 1), (69, 2)] [] = true := by decide +kernel) (cS : clr A F [] [(71, 13), (15, 6), (71, 14), (15, 7)] [] = true := by decide +kernel) (cB : clr A F [16, 86] [(15, 4), (71, 35)] [] = true := by decide +kernel) (cO : clr A F [13, 87, 14, 88, 16] [(11, 3), (71, 37), (15, 4)] [] = true := by decide +kernel) (cV : clr A F [4, 74, 3, 73, 6, 76, 5, 75] [] [] = true := by decide +kernel) (cD : clr A F [90, 131, 63, 135] [(28, 0), (28, 1), (89, 1), (89, 2), (130, 1), (130, 2), (59, 0), (130, 10)] [29, 30, 62] = true := by decide +kernel) (cW : clr A F [66, 136, 120] [(0, 9), (69, 9)] [] = true := by decide +kernel) (cG : clr A F [67, 68, 137, 129] [(0, 12), (69, 12), (69, 10), (108, 31), (96, 15), (108, 32)] [] = true := by decide +kernel) (cC : clr A F [45, 46, 97, 98, 99, 109, 110, 60, 132] [] [] = true := by decide +kernel) : RL w M' := ⟨QT_fr h cT q.1, nF, QS_fr h cS q.2.2.1, QB_fr h cB q.2.2.2.1, QO_fr h cO q.2.2.2.2.1, QV_fr h cV q.2.2.2.2.2.1, QD_fr h cD q.2.2.2.2.2.2.1, QW_fr h cW q.2.2.2.2.2.2.2.1, QG_fr h cG q.2.2.2.2.2.2.2.2.1, QC_fr h cC q.2.2.2.2.2.2.2.2.2⟩
theorem RL_D {w w2 : Bool} {A : Nat} {F : List (Nat × Nat)} {M M' : im_M} (h : fr A F M M') (nD : QD w2 M') (q : RL w M) (cT : clr A F [2, 70] [(1, 1), (69, 2)] [] = true := by decide +kernel) (cF : clr A F [57, 93, 58, 94] [] [] = true := by decide +kernel) (cS : clr A F [] [(71, 13), (15, 6), (71, 14), (15, 7)] [] = true := by decide +kernel) (cB : clr A F [16, 86] [(15, 4), (71, 35)] [] = true := by decide +kernel) (cO : clr A F [13, 87, 14, 88, 16] [(11, 3), (71, 37), (15, 4)] [] = true := by decide +kernel) (cV : clr A F [4, 74, 3, 73, 6, 76, 5, 75] [] [] = true := by decide +kernel) (cW : clr A F [66, 136, 120] [(0, 9), (69, 9)] [] = true := by decide +kernel) (cG : clr A F [67, 68, 137, 129] [(0, 12), (69, 12), (69, 10), (108, 31), (96, 15), (108, 32)] [] = true := by decide +kernel) (cC : clr A F [45, 46, 97, 98, 99, 109, 110, 60, 132] [] [] = true := by decide +kernel) : RL w2 M' := ⟨QT_fr h cT q.1, QF_fr h cF q.2.1, QS_fr h cS q.2.2.1, QB_fr h cB q.2.2.2.1, QO_fr h cO q.2.2.2.2.1, QV_fr h cV q.2.2.2.2.2.1, nD, QW_fr h cW q.2.2.2.2.2.2.2.1, QG_fr h cG q.2.2.2.2.2.2.2.2.1, QC_fr h cC q.2.2.2.2.2.2.2.2.2⟩
theorem RL_G {w : Bool} {A : Nat} {F : List (Nat × Nat)} {M M' : im_M} (h : fr A F M M') (nG : QG M') (q : RL w M) (cT : clr A F [2, 70] [(1, 1), (69, 2)] [] = true := by decide +kernel) (cF : clr A F [57, 93, 58, 94] [] [] = true := by decide +kernel) (cS : clr A F [] [(71, 13), (15, 6), (71, 14), (15, 7)] [] = true := by decide +kernel) (cB : clr A F [16, 86] [(15, 4), (71, 35)] [] = true := by decide +kernel) (cO : clr A F [13, 87, 14, 88, 16] [(11, 3), (71, 37), (15, 4)] [] = true := by decide +kernel) (cV : clr A F [4, 74, 3, 73, 6, 76, 5, 75] [] [] = true := by decide +kernel) (cD : clr A F [90, 131, 63, 135] [(28, 0), (28, 1), (89, 1), (89, 2), (130, 1), (130, 2), (59, 0), (130, 10)] [29, 30, 62] = true := by decide +kernel) (cW : clr A F [66, 136, 120] [(0, 9), (69, 9)] [] = true := by decide +kernel) (cC : clr A F [45, 46, 97, 98, 99, 109, 110, 60, 132] [] [] = true := by decide +kernel) : RL w M' := ⟨QT_fr h cT q.1, QF_fr h cF q.2.1, QS_fr h cS q.2.2.1, QB_fr h cB q.2.2.2.1, QO_fr h cO q.2.2.2.2.1, QV_fr h cV q.2.2.2.2.2.1, QD_fr h cD q.2.2.2.2.2.2.1, QW_fr h cW q.2.2.2.2.2.2.2.1, nG, QC_fr h cC q.2.2.2.2.2.2.2.2.2⟩
theorem RL_DW {w w2 : Bool} {A : Nat} {F : List (Nat × Nat)} {M M' : im_M} (h : fr A F M M') (nD : QD w2 M') (nW : QW M') (q : RL w M) (cT : clr A F [2, 70] [(1, 1), (69, 2)] [] = true := by decide +kernel) (cF : clr A F [57, 93, 58, 94] [] [] = true := by decide +kernel) (cS : clr A F [] [(71, 13), (15, 6), (71, 14), (15, 7)] [] = true := by decide +kernel) (cB : clr A F [16, 86] [(15, 4), (71, 35)] [] = true := by decide +kernel) (cO : clr A F [13, 87, 14, 88, 16] [(11, 3), (71, 37), (15, 4)] [] = true := by decide +kernel) (cV : clr A F [4, 74, 3, 73, 6, 76, 5, 75] [] [] = true := by decide +kernel) (cG : clr A F [67, 68, 137, 129] [(0, 12), (69, 12), (69, 10), (108, 31), (96, 15), (108, 32)] [] = true := by decide +kernel) (cC : clr A F [45, 46, 97, 98, 99, 109, 110, 60, 132] [] [] = true := by decide +kernel) : RL w2 M' := ⟨QT_fr h cT q.1, QF_fr h cF q.2.1, QS_fr h cS q.2.2.1, QB_fr h cB q.2.2.2.1, QO_fr h cO q.2.2.2.2.1, QV_fr h cV q.2.2.2.2.2.1, nD, nW, QG_fr h cG q.2.2.2.2.2.2.2.2.1, QC_fr h cC q.2.2.2.2.2.2.2.2.2⟩
theorem RL_TS {w : Bool} {A : Nat} {F : List (Nat × Nat)} {M M' : im_M} (h : fr A F M M') (nT : QT M') (nS : QS M') (q : RL w M) (cF : clr A F [57, 93, 58, 94] [] [] = true := by decide +kernel) (cB : clr A F [16, 86] [(15, 4), (71, 35)] [] = true := by decide +kernel) (cO : clr A F [13, 87, 14, 88, 16] [(11, 3), (71, 37), (15, 4)] [] = true := by decide +kernel) (cV : clr A F [4, 74, 3, 73, 6, 76, 5, 75] [] [] = true := by decide +kernel) (cD : clr A F [90, 131, 63, 135] [(28, 0), (28, 1), (89, 1), (89, 2), (130, 1), (130, 2), (59, 0), (130, 10)] [29, 30, 62] = true := by decide +kernel) (cW : clr A F [66, 136, 120] [(0, 9), (69, 9)] [] = true := by decide +kernel) (cG : clr A F [67, 68, 137, 129] [(0, 12), (69, 12), (69, 10), (108, 31), (96, 15), (108, 32)] [] = true := by decide +kernel) (cC : clr A F [45, 46, 97, 98, 99, 109, 110, 60, 132] [] [] = true := by decide +kernel) : RL w M' := ⟨nT, QF_fr h cF q.2.1, nS, QB_fr h cB q.2.2.2.1, QO_fr h cO q.2.2.2.2.1, QV_fr h cV q.2.2.2.2.2.1, QD_fr h cD q.2.2.2.2.2.2.1, QW_fr h cW q.2.2.2.2.2.2.2.1, QG_fr h cG q.2.2.2.2.2.2.2.2.1, QC_fr h cC q.2.2.2.2.2.2.2.2.2⟩
theorem RL_R {w : Bool} {A : Nat} {F : List (Nat × Nat)} {M M' : im_M} (h : fr A F M M') (nT : QT M') (nS : QS M') (nB : QB M') (nO : QO M') (nV : QV M') (q : RL w M) (cF : clr A F [57, 93, 58, 94] [] [] = true := by decide +kernel) (cD : clr A F [90, 131, 63, 135] [(28, 0), (28, 1), (89, 1), (89, 2), (130, 1), (130, 2), (59, 0), (130, 10)] [29, 30, 62] = true := by decide +kernel) (cW : clr A F [66, 136, 120] [(0, 9), (69, 9)] [] = true := by decide +kernel) (cG : clr A F [67, 68, 137, 129] [(0, 12), (69, 12), (69, 10), (108, 31), (96, 15), (108, 32)] [] = true := by decide +kernel) (cC : clr A F [45, 46, 97, 98, 99, 109, 110, 60, 132] [] [] = true := by decide +kernel) : RL w M' := ⟨nT, QF_fr h cF q.2.1, nS, nB, nO, nV, QD_fr h cD q.2.2.2.2.2.2.1, QW_fr h cW q.2.2.2.2.2.2.2.1, QG_fr h cG q.2.2.2.2.2.2.2.2.1, QC_fr h cC q.2.2.2.2.2.2.2.2.2⟩
theorem RL_DWG {w w2 : Bool} {A : Nat} {F : List (Nat × Nat)} {M M' : im_M} (h : fr A F M M') (nD : QD w2 M') (nW : QW M') (nG : QG M') (q : RL w M) (cT : clr A F [2, 70] [(1, 1), (69, 2)] [] = true := by decide +kernel) (cF : clr A F [57, 93, 58, 94] [] [] = true := by decide +kernel) (cS : clr A F [] [(71, 13), (15, 6), (71, 14), (15, 7)] [] = true := by decide +kernel) (cB : clr A F [16, 86] [(15, 4), (71, 35)] [] = true := by decide +kernel) (cO : clr A F [13, 87, 14, 88, 16] [(11, 3), (71, 37), (15, 4)] [] = true := by decide +kernel) (cV : clr A F [4, 74, 3, 73, 6, 76, 5, 75] [] [] = true := by decide +kernel) (cC : clr A F [45, 46, 97, 98, 99, 109, 110, 60, 132] [] [] = true := by decide +kernel) : RL w2 M' := ⟨QT_fr h cT q.1, QF_fr h cF q.2.1, QS_fr h cS q.2.2.1, QB_fr h cB q.2.2.2.1, QO_fr h cO q.2.2.2.2.1, QV_fr h cV q.2.2.2.2.2.1, nD, nW, nG, QC_fr h cC q.2.2.2.2.2.2.2.2.2⟩
