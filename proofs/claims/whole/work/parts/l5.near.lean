/-! LINES: THE CLASS'S ARITHMETIC -/
theorem xor_sg {x y : Int32} : (0 ≤ x ^^^ y) ↔ (x.toInt < 0 ↔ y.toInt < 0) := by
  have m : ∀ z : Int32, z.toBitVec.msb = decide (z.toInt < 0) := fun z => BitVec.msb_eq_toInt
  have e : (x ^^^ y).toBitVec.msb = (x.toBitVec.msb ^^ y.toBitVec.msb) := by
    rw [Int32.toBitVec_xor, BitVec.msb_xor]
  rw [m, m, m] at e
  have z : (0 ≤ x ^^^ y) ↔ ¬ (x ^^^ y).toInt < 0 := by
    rw [Int32.le_iff_toInt_le]
    show (0 : Int) ≤ _ ↔ _
    omega
  rw [z]
  by_cases a : x.toInt < 0
  · by_cases b : y.toInt < 0
    · rw [decide_eq_true a, decide_eq_true b] at e
      have := of_decide_eq_false e
      exact ⟨fun _ => ⟨fun _ => b, fun _ => a⟩, fun _ => this⟩
    · rw [decide_eq_true a, decide_eq_false b] at e
      have := of_decide_eq_true e
      exact ⟨fun q => absurd this q, fun q => absurd (q.mp a) b⟩
  · by_cases b : y.toInt < 0
    · rw [decide_eq_false a, decide_eq_true b] at e
      have := of_decide_eq_true e
      exact ⟨fun q => absurd this q, fun q => absurd (q.mpr b) a⟩
    · rw [decide_eq_false a, decide_eq_false b] at e
      have := of_decide_eq_false e
      exact ⟨fun _ => ⟨fun q => absurd q a, fun q => absurd q b⟩, fun _ => this⟩
theorem s_floorDiv {M : im_M} {a b : Int} (ha : a.natAbs ≤ 100000000) (hb : b ≠ 0) (hb2 : b.natAbs ≤ 100000) : ∃ q : Int, f_Math_floorDiv (iZ a) (iZ b) M = some (iZ q) ∧ ((0 < b ∧ q * b ≤ a ∧ a < q * b + b) ∨ (b < 0 ∧ a ≤ q * b ∧ q * b + b < a)) := by
  have qb : (a.tdiv b).natAbs ≤ a.natAbs := by rw [Int.natAbs_tdiv]; exact Nat.div_le_self _ _
  have ed : iZ a / iZ b = iZ (a.tdiv b) := iZ_div (by omega) (by omega) (by omega)
  have dm := Int.mul_tdiv_add_tmod a b
  have rb : (a.tmod b).natAbs < b.natAbs := by rw [Int.natAbs_tmod]; exact Nat.mod_lt _ (by omega)
  have r0 : 0 ≤ a → 0 ≤ a.tmod b := fun h => Int.tmod_nonneg b h
  have r1 : a ≤ 0 → a.tmod b ≤ 0 := fun h => by
    have := Int.tmod_nonneg b (show 0 ≤ -a by omega)
    rw [Int.neg_tmod] at this
    omega
  rw [Int.mul_comm] at dm
  have e1 : (a.tdiv b - 1) * b = a.tdiv b * b - b := by rw [Int.sub_mul, Int.one_mul]
  have pb : (a.tdiv b * b).natAbs ≤ 100000000 + 100000 := by omega
  unfold f_Math_floorDiv
  rw [gd_pos (by rw [show (0 : Int32) = iZ 0 from rfl, iZ_eq (by omega) (by omega)]; exact hb), ed, iZ_mul, show (1 : Int32) = iZ 1 from rfl, iZ_sub]
  have x1 : (0 ≤ iZ a ^^^ iZ b) = (a < 0 ↔ b < 0) := by
    apply propext
    rw [xor_sg, iZ_toInt (by omega) (by omega), iZ_toInt (by omega) (by omega)]
  have x2 : (iZ (a.tdiv b * b) = iZ a) = (a.tdiv b * b = a) := iZ_eq (by omega) (by omega)
  simp only [x1, x2]
  by_cases c1 : a < 0 ↔ b < 0
  · rw [if_pos c1]
    refine ⟨_, rfl, ?_⟩
    omega
  · rw [if_neg c1]
    by_cases c2 : a.tdiv b * b = a
    · rw [if_pos c2]
      refine ⟨_, rfl, ?_⟩
      omega
    · rw [if_neg c2]
      refine ⟨_, rfl, ?_⟩
      rw [e1]
      omega
theorem pm_i {x y : Int} (A B : Nat) (hx : -(A : Int) ≤ x ∧ x ≤ (A : Int)) (hy : -(B : Int) ≤ y ∧ y ≤ (B : Int)) : -((A * B : Nat) : Int) ≤ x * y ∧ x * y ≤ ((A * B : Nat) : Int) := by
  have := pm_b (x := x) (y := y) (A := A) (B := B) (by omega) (by omega)
  omega
theorem near_if {px py dx dy t : Int} (h1 : -20000 ≤ px ∧ px ≤ 20000) (h2 : -20000 ≤ py ∧ py ≤ 20000) (h3 : -10000 ≤ dx ∧ dx ≤ 10000) (h4 : -10000 ≤ dy ∧ dy ≤ 10000) (h5 : 0 ≤ t ∧ t ≤ 1000) : (if lZ 0 < lZ (px * dx + py * dy) then if lZ (px * dx + py * dy) < lZ (dx * dx + dy * dy) then if lZ (t * t * (dx * dx + dy * dy)) < lZ (4 * (px * dy - py * dx) * (px * dy - py * dx)) then some 0 else some 1 else if lZ (t * t) < lZ (4 * ((px - dx) * (px - dx) + (py - dy) * (py - dy))) then some 0 else some 1 else if lZ (t * t) < lZ (4 * (px * px + py * py)) then some (0 : Int32) else some 1) = some (if nearB px py dx dy t = true then 1 else 0) := by
  have b1 := pm_i (x := px) (y := dx) 20000 10000 (by omega) (by omega)
  have b2 := pm_i (x := py) (y := dy) 20000 10000 (by omega) (by omega)
  have b3 := pm_i (x := dx) (y := dx) 10000 10000 (by omega) (by omega)
  have b4 := pm_i (x := dy) (y := dy) 10000 10000 (by omega) (by omega)
  have b5 := pm_i (x := t) (y := t) 1000 1000 (by omega) (by omega)
  have b6 := pm_i (x := px) (y := dy) 20000 10000 (by omega) (by omega)
  have b7 := pm_i (x := py) (y := dx) 20000 10000 (by omega) (by omega)
  have b8 := pm_i (x := px) (y := px) 20000 20000 (by omega) (by omega)
  have b9 := pm_i (x := py) (y := py) 20000 20000 (by omega) (by omega)
  have b10 := pm_i (x := px - dx) (y := px - dx) 30000 30000 (by omega) (by omega)
  have b11 := pm_i (x := py - dy) (y := py - dy) 30000 30000 (by omega) (by omega)
  have b12 := pm_i (x := 4 * (px * dy - py * dx)) (y := px * dy - py * dx) 1600000000 400000000 (by omega) (by omega)
  have b13 := pm_i (x := t * t) (y := dx * dx + dy * dy) 1000000 200000000 (by omega) (by omega)
  have q1 : (lZ 0 < lZ (px * dx + py * dy)) = (0 < px * dx + py * dy) := lZ_lt (by omega) (by omega)
  have q2 : (lZ (px * dx + py * dy) < lZ (dx * dx + dy * dy)) = (px * dx + py * dy < dx * dx + dy * dy) := lZ_lt (by omega) (by omega)
  have q3 : (lZ (t * t * (dx * dx + dy * dy)) < lZ (4 * (px * dy - py * dx) * (px * dy - py * dx))) = (t * t * (dx * dx + dy * dy) < 4 * (px * dy - py * dx) * (px * dy - py * dx)) := lZ_lt (by omega) (by omega)
  have q4 : (lZ (t * t) < lZ (4 * ((px - dx) * (px - dx) + (py - dy) * (py - dy)))) = (t * t < 4 * ((px - dx) * (px - dx) + (py - dy) * (py - dy))) := lZ_lt (by omega) (by omega)
  have q5 : (lZ (t * t) < lZ (4 * (px * px + py * py))) = (t * t < 4 * (px * px + py * py)) := lZ_lt (by omega) (by omega)
  clear b1 b2 b3 b4 b5 b6 b7 b8 b9 b10 b11 b12 b13
  simp only [q1, q2, q3, q4, q5]
  unfold nearB
  by_cases k1 : px * dx + py * dy ≤ 0
  · rw [if_neg (by omega), if_pos k1]
    by_cases k : 4 * (px * px + py * py) ≤ t * t
    · rw [if_neg (by omega), decide_eq_true k]; rfl
    · rw [if_pos (by omega), decide_eq_false k]; rfl
  · rw [if_pos (by omega), if_neg k1]
    by_cases k2 : dx * dx + dy * dy ≤ px * dx + py * dy
    · rw [if_neg (by omega), if_pos k2]
      by_cases k : 4 * ((px - dx) * (px - dx) + (py - dy) * (py - dy)) ≤ t * t
      · rw [if_neg (by omega), decide_eq_true k]; rfl
      · rw [if_pos (by omega), decide_eq_false k]; rfl
    · rw [if_pos (by omega), if_neg k2]
      by_cases k : 4 * (px * dy - py * dx) * (px * dy - py * dx) ≤ t * t * (dx * dx + dy * dy)
      · rw [if_neg (by omega), decide_eq_true k]; rfl
      · rw [if_pos (by omega), decide_eq_false k]; rfl
theorem s_isNear {M : im_M} {px py dx dy t : Int} (h1 : -20000 ≤ px ∧ px ≤ 20000) (h2 : -20000 ≤ py ∧ py ≤ 20000) (h3 : -10000 ≤ dx ∧ dx ≤ 10000) (h4 : -10000 ≤ dy ∧ dy ≤ 10000) (h5 : 0 ≤ t ∧ t ≤ 1000) : f_HPen_isNear (lZ px) (lZ py) (lZ dx) (lZ dy) (lZ t) M = some (if nearB px py dx dy t = true then 1 else 0) := by
  rw [← near_if h1 h2 h3 h4 h5]
  unfold f_HPen_isNear
  rw [show (0 : Int64) = lZ 0 from rfl, show (4 : Int64) = lZ 4 from rfl]
  simp only [lZ_mul, lZ_sub, lZ_add, lc_gt, lc_lt]
/-- the level of a row, and the dot at the line itself -/
theorem NE_at {px py dx dy t L q : Int} (hdy : dy ≠ 0) (hL : (((0 ≤ py ∧ py ≤ dy) ∨ (dy ≤ py ∧ py ≤ 0)) ∧ L = py) ∨ (L = 0 ∧ ((0 ≤ py ∧ dy ≤ 0) ∨ (py ≤ 0 ∧ 0 ≤ dy))) ∨ (L = dy ∧ ((dy ≤ py ∧ 0 ≤ dy) ∨ (py ≤ dy ∧ dy ≤ 0)))) (hq : (0 < dy ∧ q * dy ≤ dx * L ∧ dx * L < q * dy + dy) ∨ (dy < 0 ∧ dx * L ≤ q * dy ∧ q * dy + dy < dx * L)) (h : NE px py dx dy t) : NE q py dx dy t ∨ NE (q + 1) py dx dy t := by
  -- beyond an end
  have e0 : L = 0 → q = 0 := fun z => by
    subst z
    rw [Int.mul_zero] at hq
    rcases hq with ⟨a, b, c⟩ | ⟨a, b, c⟩
    · by_cases s : 0 < q
      · have := Int.mul_pos s a
        omega
      · by_cases s2 : q < 0
        · have : 0 ≤ (-q - 1) * dy := Int.mul_nonneg (by omega) (by omega)
          have e : (-q - 1) * dy = -(q * dy) - dy := by grind
          omega
        · omega
    · by_cases s : 0 < q
      · have : 0 < q * (-dy) := Int.mul_pos s (by omega)
        have e : q * (-dy) = -(q * dy) := by grind
        omega
      · by_cases s2 : q < 0
        · have : 0 ≤ (-q - 1) * (-dy) := Int.mul_nonneg (by omega) (by omega)
          have e : (-q - 1) * (-dy) = q * dy + dy := by grind
          omega
        · omega
  have e1 : L = dy → q = dx := fun z => by
    subst z
    rcases hq with ⟨a, b, c⟩ | ⟨a, b, c⟩
    · by_cases s : dx < q
      · have : 0 < (q - dx) * L := Int.mul_pos (by omega) a
        have e : (q - dx) * L = q * L - dx * L := by grind
        omega
      · by_cases s2 : q < dx
        · have : 0 ≤ (dx - q - 1) * L := Int.mul_nonneg (by omega) (by omega)
          have e : (dx - q - 1) * L = dx * L - q * L - L := by grind
          omega
        · omega
    · by_cases s : dx < q
      · have : 0 < (q - dx) * (-L) := Int.mul_pos (by omega) (by omega)
        have e : (q - dx) * (-L) = dx * L - q * L := by grind
        omega
      · by_cases s2 : q < dx
        · have : 0 ≤ (dx - q - 1) * (-L) := Int.mul_nonneg (by omega) (by omega)
          have e : (dx - q - 1) * (-L) = q * L + L - dx * L := by grind
          omega
        · omega
  rcases hL with ⟨hr, rfl⟩ | c | c
  · -- within the line's rows
    have core : ∀ e C : Int, 0 < e → 0 ≤ C → C ≤ e → C * dy = e * L → e * q ≤ dx * C → dx * C < e * q + e → NE q L dx dy t ∨ NE (q + 1) L dx dy t := by
      intro e C he hC hC2 hy g1 g2
      by_cases s : px ≤ q
      · left
        by_cases s2 : px = q
        · rw [← s2]; exact h
        · have p1 : 0 < e * (q - px) := Int.mul_pos he (by omega)
          have e2 : e * (q - px) = e * q - e * px := by grind
          refine NE_sc (N := dx * C - e * px) (K := e * (q - px)) h he hC hC2 hy (by omega) (by omega) (by omega) ?_
          grind
      · right
        by_cases s2 : px = q + 1
        · rw [← s2]; exact h
        · have p1 : 0 < e * (px - (q + 1)) := Int.mul_pos he (by omega)
          have e2 : e * (px - (q + 1)) = e * px - e * q - e := by grind
          refine NE_sc (N := e * px - dx * C) (K := e * (px - (q + 1))) h he hC hC2 hy (by omega) (by omega) (by omega) ?_
          grind
    rcases hq with ⟨a, b, c⟩ | ⟨a, b, c⟩
    · exact core dy L a (by omega) (by omega) (by grind) (by rw [Int.mul_comm]; exact b) (by rw [Int.mul_comm dy q]; exact c)
    · have e2 : dx * (-L) = -(dx * L) := by grind
      have e3 : (-dy) * q = -(q * dy) := by grind
      exact core (-dy) (-L) (by omega) (by omega) (by omega) (by grind) (by omega) (by omega)
  · left
    have k := NE_end h (Or.inl c)
    obtain rfl := e0 c.1
    rw [c.1, Int.sub_zero] at k
    exact ⟨0, 1, by omega, by omega, by omega, by rw [Int.zero_mul, Int.zero_mul, Int.sub_zero, Int.sub_zero, Int.one_mul, Int.one_mul, Int.mul_one, Int.mul_zero, Int.zero_add]; exact k⟩
  · left
    have k := NE_end h (Or.inr c)
    obtain rfl := e1 c.1
    rw [c.1] at k
    exact ⟨1, 1, by omega, by omega, by omega, by rw [Int.one_mul, Int.one_mul, Int.one_mul, Int.mul_one, Int.sub_self, Int.mul_zero, Int.zero_add]; exact k⟩
theorem at_b {dx dy L q : Int} (hL : (0 ≤ L ∧ L ≤ dy) ∨ (dy ≤ L ∧ L ≤ 0)) (hq : (0 < dy ∧ q * dy ≤ dx * L ∧ dx * L < q * dy + dy) ∨ (dy < 0 ∧ dx * L ≤ q * dy ∧ q * dy + dy < dx * L)) : (0 ≤ q ∨ dx ≤ q) ∧ (q ≤ 0 ∨ q ≤ dx) := by
  have core : ∀ e C : Int, 0 < e → 0 ≤ C → C ≤ e → e * q ≤ dx * C → dx * C < e * q + e → (0 ≤ q ∨ dx ≤ q) ∧ (q ≤ 0 ∨ q ≤ dx) := by
    intro e C he hC hC2 g1 g2
    constructor
    · by_cases s : dx ≤ q
      · exact Or.inr s
      · by_cases s2 : 0 ≤ q
        · exact Or.inl s2
        · exfalso
          have w1 : 0 ≤ (dx - q - 1) * C := Int.mul_nonneg (by omega) hC
          have w2 : 0 ≤ (-q - 1) * (e - C) := Int.mul_nonneg (by omega) (by omega)
          have w3 : (dx - q - 1) * C + (-q - 1) * (e - C) = dx * C - e * q - e := by grind
          omega
    · by_cases s : q ≤ dx
      · exact Or.inr s
      · by_cases s2 : q ≤ 0
        · exact Or.inl s2
        · exfalso
          have w1 : 0 ≤ (q - dx - 1) * C := Int.mul_nonneg (by omega) hC
          have w2 : 0 ≤ (q - 1) * (e - C) := Int.mul_nonneg (by omega) (by omega)
          have w3 : (q - dx - 1) * C + (q - 1) * (e - C) = e * q - dx * C - e := by grind
          omega
  rcases hq with ⟨a, b, c⟩ | ⟨a, b, c⟩
  · exact core dy L a (by omega) (by omega) (by rw [Int.mul_comm]; exact b) (by rw [Int.mul_comm dy q]; exact c)
  · have e2 : dx * (-L) = -(dx * L) := by grind
    have e3 : (-dy) * q = -(q * dy) := by grind
    exact core (-dy) (-L) (by omega) (by omega) (by omega) (by omega) (by omega)
