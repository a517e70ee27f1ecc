/-! LINES: WHAT IS NEAR -/
theorem lagr (x y u v : Int) : (x * x + y * y) * (u * u + v * v) = (x * u + y * v) * (x * u + y * v) + (x * v - y * u) * (x * v - y * u) := by grind
def nearB (px py dx dy t : Int) : Bool := if px * dx + py * dy ≤ 0 then decide (4 * (px * px + py * py) ≤ t * t) else if dx * dx + dy * dy ≤ px * dx + py * dy then decide (4 * ((px - dx) * (px - dx) + (py - dy) * (py - dy)) ≤ t * t) else decide (4 * (px * dy - py * dx) * (px * dy - py * dx) ≤ t * t * (dx * dx + dy * dy))
def NE (px py dx dy t : Int) : Prop := ∃ a b : Int, 0 ≤ a ∧ a ≤ b ∧ 0 < b ∧ 4 * ((b * px - a * dx) * (b * px - a * dx) + (b * py - a * dy) * (b * py - a * dy)) ≤ (t * b) * (t * b)
theorem sq_le' {x y : Int} (h : x * x ≤ y * y) : x.natAbs ≤ y.natAbs := by
  by_cases c : y.natAbs < x.natAbs
  · have := sq_lt c
    omega
  · omega
theorem ne_of {px py dx dy t : Int} (h : nearB px py dx dy t = true) : NE px py dx dy t := by
  unfold nearB at h
  by_cases c1 : px * dx + py * dy ≤ 0
  · rw [if_pos c1] at h
    have h := of_decide_eq_true h
    exact ⟨0, 1, by omega, by omega, by omega, by rw [Int.zero_mul, Int.zero_mul, Int.sub_zero, Int.sub_zero, Int.one_mul, Int.one_mul, Int.mul_one]; exact h⟩
  · rw [if_neg c1] at h
    by_cases c2 : dx * dx + dy * dy ≤ px * dx + py * dy
    · rw [if_pos c2] at h
      have h := of_decide_eq_true h
      exact ⟨1, 1, by omega, by omega, by omega, by rw [Int.one_mul, Int.one_mul, Int.one_mul, Int.one_mul, Int.mul_one]; exact h⟩
    · rw [if_neg c2] at h
      have h := of_decide_eq_true h
      refine ⟨px * dx + py * dy, dx * dx + dy * dy, by omega, by omega, by omega, ?_⟩
      have i1 : 4 * (((dx * dx + dy * dy) * px - (px * dx + py * dy) * dx) * ((dx * dx + dy * dy) * px - (px * dx + py * dy) * dx) + ((dx * dx + dy * dy) * py - (px * dx + py * dy) * dy) * ((dx * dx + dy * dy) * py - (px * dx + py * dy) * dy)) = (dx * dx + dy * dy) * (4 * (px * dy - py * dx) * (px * dy - py * dx)) := by grind
      have i2 : (t * (dx * dx + dy * dy)) * (t * (dx * dx + dy * dy)) = (dx * dx + dy * dy) * (t * t * (dx * dx + dy * dy)) := by grind
      rw [i1, i2]
      exact Int.mul_le_mul_of_nonneg_left h (by omega)
theorem ne_to {px py dx dy t : Int} (h : NE px py dx dy t) : nearB px py dx dy t = true := by
  obtain ⟨a, b, h1, h2, h3, h4⟩ := h
  have bb : 0 < b * b := Int.mul_pos h3 h3
  have e0 : (t * b) * (t * b) = (b * b) * (t * t) := by grind
  unfold nearB
  by_cases c1 : px * dx + py * dy ≤ 0
  · rw [if_pos c1]
    have i1 : 4 * ((b * px - a * dx) * (b * px - a * dx) + (b * py - a * dy) * (b * py - a * dy)) = (b * b) * (4 * (px * px + py * py)) + 8 * ((a * b) * (-(px * dx + py * dy))) + 4 * ((a * dx) * (a * dx) + (a * dy) * (a * dy)) := by grind
    have g1 : 0 ≤ (a * b) * (-(px * dx + py * dy)) := Int.mul_nonneg (Int.mul_nonneg h1 (by omega)) (by omega)
    have g2 := sq_nn (a * dx)
    have g3 := sq_nn (a * dy)
    exact decide_eq_true (Int.le_of_mul_le_mul_left (a := b * b) (by omega) bb)
  · rw [if_neg c1]
    by_cases c2 : dx * dx + dy * dy ≤ px * dx + py * dy
    · rw [if_pos c2]
      have i1 : 4 * ((b * px - a * dx) * (b * px - a * dx) + (b * py - a * dy) * (b * py - a * dy)) = (b * b) * (4 * ((px - dx) * (px - dx) + (py - dy) * (py - dy))) + 8 * (((b - a) * b) * (px * dx + py * dy - (dx * dx + dy * dy))) + 4 * (((b - a) * dx) * ((b - a) * dx) + ((b - a) * dy) * ((b - a) * dy)) := by grind
      have g1 : 0 ≤ ((b - a) * b) * (px * dx + py * dy - (dx * dx + dy * dy)) := Int.mul_nonneg (Int.mul_nonneg (by omega) (by omega)) (by omega)
      have g2 := sq_nn ((b - a) * dx)
      have g3 := sq_nn ((b - a) * dy)
      exact decide_eq_true (Int.le_of_mul_le_mul_left (a := b * b) (by omega) bb)
    · rw [if_neg c2]
      have l := lagr (b * px - a * dx) (b * py - a * dy) dx dy
      have i1 : ((b * px - a * dx) * dy - (b * py - a * dy) * dx) = b * (px * dy - py * dx) := by grind
      rw [i1] at l
      have g1 := sq_nn ((b * px - a * dx) * dx + (b * py - a * dy) * dy)
      have g2 := Int.mul_le_mul_of_nonneg_right h4 (show 0 ≤ dx * dx + dy * dy by omega)
      have i2 : 4 * ((b * px - a * dx) * (b * px - a * dx) + (b * py - a * dy) * (b * py - a * dy)) * (dx * dx + dy * dy) = 4 * (((b * px - a * dx) * (b * px - a * dx) + (b * py - a * dy) * (b * py - a * dy)) * (dx * dx + dy * dy)) := by grind
      have i3 : (t * b) * (t * b) * (dx * dx + dy * dy) = (b * b) * (t * t * (dx * dx + dy * dy)) := by grind
      have i4 : 4 * ((b * (px * dy - py * dx)) * (b * (px * dy - py * dx))) = (b * b) * (4 * (px * dy - py * dx) * (px * dy - py * dx)) := by grind
      exact decide_eq_true (Int.le_of_mul_le_mul_left (a := b * b) (by omega) bb)
theorem cv_sq {x1 y1 x3 y3 V W p q : Int} (h1 : 4 * (x1 * x1 + y1 * y1) ≤ V * V) (h3 : 4 * (x3 * x3 + y3 * y3) ≤ W * W) (hV : 0 ≤ V) (hW : 0 ≤ W) (hp : 0 ≤ p) (hq : 0 ≤ q) : 4 * ((p * x1 + q * x3) * (p * x1 + q * x3) + (p * y1 + q * y3) * (p * y1 + q * y3)) ≤ (p * V + q * W) * (p * V + q * W) := by
  have l := lagr x1 y1 x3 y3
  have s0 := sq_nn (x1 * y3 - y1 * x3)
  have n1 := sq_nn x1
  have n2 := sq_nn y1
  have n3 := sq_nn x3
  have n4 := sq_nn y3
  have n5 := sq_nn V
  have pr := Int.mul_le_mul h1 h3 (by omega) n5
  have i0 : 4 * (x1 * x1 + y1 * y1) * (4 * (x3 * x3 + y3 * y3)) = 16 * ((x1 * x1 + y1 * y1) * (x3 * x3 + y3 * y3)) := by grind
  have i1 : (4 * (x1 * x3 + y1 * y3)) * (4 * (x1 * x3 + y1 * y3)) = 16 * ((x1 * x3 + y1 * y3) * (x1 * x3 + y1 * y3)) := by grind
  have i2 : V * V * (W * W) = (V * W) * (V * W) := by grind
  have dot : (4 * (x1 * x3 + y1 * y3)).natAbs ≤ (V * W).natAbs := sq_le' (by omega)
  have vw : 0 ≤ V * W := Int.mul_nonneg hV hW
  have d2 : 4 * (x1 * x3 + y1 * y3) ≤ V * W := by omega
  have a1 := Int.mul_le_mul_of_nonneg_left h1 (sq_nn p)
  have a2 := Int.mul_le_mul_of_nonneg_left h3 (sq_nn q)
  have a3 := Int.mul_le_mul_of_nonneg_left d2 (Int.mul_nonneg hp hq)
  have e1 : 4 * ((p * x1 + q * x3) * (p * x1 + q * x3) + (p * y1 + q * y3) * (p * y1 + q * y3)) = p * p * (4 * (x1 * x1 + y1 * y1)) + 2 * (p * q * (4 * (x1 * x3 + y1 * y3))) + q * q * (4 * (x3 * x3 + y3 * y3)) := by grind
  have e2 : (p * V + q * W) * (p * V + q * W) = p * p * (V * V) + 2 * (p * q * (V * W)) + q * q * (W * W) := by grind
  omega
theorem NE_cv {p1 p2 p3 py dx dy t : Int} (ht : 0 ≤ t) (h1 : NE p1 py dx dy t) (h3 : NE p3 py dx dy t) (g1 : p1 ≤ p2) (g2 : p2 ≤ p3) : NE p2 py dx dy t := by
  by_cases c : p1 = p3
  · obtain rfl : p2 = p1 := by omega
    exact h1
  · obtain ⟨a1, b1, u1, u2, u3, u4⟩ := h1
    obtain ⟨a3, b3, v1, v2, v3, v4⟩ := h3
    have bb : 0 < b1 * b3 := Int.mul_pos u3 v3
    refine ⟨(p3 - p2) * (a1 * b3) + (p2 - p1) * (a3 * b1), (p3 - p1) * (b1 * b3), ?_, ?_, Int.mul_pos (by omega) bb, ?_⟩
    · exact Int.add_nonneg (Int.mul_nonneg (by omega) (Int.mul_nonneg u1 (by omega))) (Int.mul_nonneg (by omega) (Int.mul_nonneg v1 (by omega)))
    · have w1 : (p3 - p2) * (a1 * b3) ≤ (p3 - p2) * (b1 * b3) := Int.mul_le_mul_of_nonneg_left (Int.mul_le_mul_of_nonneg_right u2 (by omega)) (by omega)
      have w2 : (p2 - p1) * (a3 * b1) ≤ (p2 - p1) * (b3 * b1) := Int.mul_le_mul_of_nonneg_left (Int.mul_le_mul_of_nonneg_right v2 (by omega)) (by omega)
      have w3 : (p3 - p1) * (b1 * b3) = (p3 - p2) * (b1 * b3) + (p2 - p1) * (b3 * b1) := by grind
      omega
    · have ex : (p3 - p1) * (b1 * b3) * p2 - ((p3 - p2) * (a1 * b3) + (p2 - p1) * (a3 * b1)) * dx = ((p3 - p2) * b3) * (b1 * p1 - a1 * dx) + ((p2 - p1) * b1) * (b3 * p3 - a3 * dx) := by grind
      have ey : (p3 - p1) * (b1 * b3) * py - ((p3 - p2) * (a1 * b3) + (p2 - p1) * (a3 * b1)) * dy = ((p3 - p2) * b3) * (b1 * py - a1 * dy) + ((p2 - p1) * b1) * (b3 * py - a3 * dy) := by grind
      have et : t * ((p3 - p1) * (b1 * b3)) = ((p3 - p2) * b3) * (t * b1) + ((p2 - p1) * b1) * (t * b3) := by grind
      rw [ex, ey, et]
      exact cv_sq u4 v4 (Int.mul_nonneg ht (by omega)) (Int.mul_nonneg ht (by omega)) (Int.mul_nonneg (by omega) (by omega)) (Int.mul_nonneg (by omega) (by omega))
theorem ax_b {e t b p a d lo hi : Int} (he : e = b * p - a * d) (h : 4 * (e * e) ≤ (t * b) * (t * b)) (ht : 0 ≤ t) (h1 : 0 ≤ a) (h2 : a ≤ b) (h3 : 0 < b) (l1 : lo ≤ 0) (l2 : lo ≤ d) (l3 : 0 ≤ hi) (l4 : d ≤ hi) : lo - t ≤ p ∧ p ≤ hi + t := by
  have n : (2 * e).natAbs ≤ (t * b).natAbs := sq_le' (by have : 2 * e * (2 * e) = 4 * (e * e) := by grind
                                                         omega)
  have tb : 0 ≤ t * b := Int.mul_nonneg ht (by omega)
  have a1 : a * d ≤ a * hi := Int.mul_le_mul_of_nonneg_left l4 h1
  have a2 : a * hi ≤ b * hi := Int.mul_le_mul_of_nonneg_right h2 l3
  have a3 : a * lo ≤ a * d := Int.mul_le_mul_of_nonneg_left l2 h1
  have a4 : a * (-lo) ≤ b * (-lo) := Int.mul_le_mul_of_nonneg_right h2 (by omega)
  have a5 : a * (-lo) = -(a * lo) := by grind
  have a6 : b * (-lo) = -(b * lo) := by grind
  have m1 : b * (hi + t) = b * hi + t * b := by grind
  have m2 : b * (lo - t) = b * lo - t * b := by grind
  exact ⟨Int.le_of_mul_le_mul_left (a := b) (by omega) h3, Int.le_of_mul_le_mul_left (a := b) (by omega) h3⟩
theorem NE_x {px py dx dy t lo hi : Int} (h : NE px py dx dy t) (ht : 0 ≤ t) (l1 : lo ≤ 0) (l2 : lo ≤ dx) (l3 : 0 ≤ hi) (l4 : dx ≤ hi) : lo - t ≤ px ∧ px ≤ hi + t := by
  obtain ⟨a, b, h1, h2, h3, h4⟩ := h
  have := sq_nn (b * py - a * dy)
  exact ax_b rfl (by omega) ht h1 h2 h3 l1 l2 l3 l4
theorem NE_y {px py dx dy t lo hi : Int} (h : NE px py dx dy t) (ht : 0 ≤ t) (l1 : lo ≤ 0) (l2 : lo ≤ dy) (l3 : 0 ≤ hi) (l4 : dy ≤ hi) : lo - t ≤ py ∧ py ≤ hi + t := by
  obtain ⟨a, b, h1, h2, h3, h4⟩ := h
  have := sq_nn (b * px - a * dx)
  exact ax_b rfl (by omega) ht h1 h2 h3 l1 l2 l3 l4
/-- beyond an end of the line -/
theorem NE_end {px py dx dy t L : Int} (h : NE px py dx dy t) (c : (L = 0 ∧ ((0 ≤ py ∧ dy ≤ 0) ∨ (py ≤ 0 ∧ 0 ≤ dy))) ∨ (L = dy ∧ ((dy ≤ py ∧ 0 ≤ dy) ∨ (py ≤ dy ∧ dy ≤ 0)))) : 4 * ((py - L) * (py - L)) ≤ t * t := by
  obtain ⟨a, b, h1, h2, h3, h4⟩ := h
  have s := sq_nn (b * px - a * dx)
  have bb : 0 < b * b := Int.mul_pos h3 h3
  have e0 : b * (py - L) = b * py - b * L := by grind
  have ca : (0 ≤ b * (py - L) ∧ b * (py - L) ≤ b * py - a * dy) ∨ (b * py - a * dy ≤ b * (py - L) ∧ b * (py - L) ≤ 0) := by
    rcases c with ⟨rfl, c | c⟩ | ⟨rfl, c | c⟩
    · have := Int.mul_nonneg h1 (show 0 ≤ -dy by omega)
      have e1 : a * (-dy) = -(a * dy) := by grind
      have := Int.mul_nonneg (show 0 ≤ b by omega) c.1
      left
      omega
    · have := Int.mul_nonneg h1 c.2
      have := Int.mul_nonneg (show 0 ≤ b by omega) (show 0 ≤ -py by omega)
      have e1 : b * (-py) = -(b * py) := by grind
      right
      omega
    · have := Int.mul_le_mul_of_nonneg_right h2 c.2
      have := Int.mul_nonneg (show 0 ≤ b by omega) (show 0 ≤ py - L by omega)
      left
      omega
    · have := Int.mul_le_mul_of_nonneg_right h2 (show 0 ≤ -L by omega)
      have := Int.mul_nonneg (show 0 ≤ b by omega) (show 0 ≤ L - py by omega)
      have e1 : a * (-L) = -(a * L) := by grind
      have e2 : b * (-L) = -(b * L) := by grind
      have e3 : b * (L - py) = -(b * (py - L)) := by grind
      right
      omega
  have n : (b * (py - L)) * (b * (py - L)) ≤ (b * py - a * dy) * (b * py - a * dy) := sq_le (by omega)
  have i1 : (t * b) * (t * b) = (b * b) * (t * t) := by grind
  have i2 : 4 * ((b * (py - L)) * (b * (py - L))) = (b * b) * (4 * ((py - L) * (py - L))) := by grind
  exact Int.le_of_mul_le_mul_left (a := b * b) (by omega) bb
/-- towards the line itself -/
theorem NE_sc {px py dx dy t q e C N K : Int} (h : NE px py dx dy t) (he : 0 < e) (hC : 0 ≤ C) (hC2 : C ≤ e) (hy : C * dy = e * py) (hK : 0 ≤ K) (hK2 : K ≤ N) (hN : 0 < N) (hq : N * e * q = e * (N - K) * px + K * C * dx) : NE q py dx dy t := by
  obtain ⟨a, b, h1, h2, h3, h4⟩ := h
  refine ⟨e * (N - K) * a + K * C * b, N * e * b, ?_, ?_, Int.mul_pos (Int.mul_pos hN he) h3, ?_⟩
  · exact Int.add_nonneg (Int.mul_nonneg (Int.mul_nonneg (by omega) (by omega)) h1) (Int.mul_nonneg (Int.mul_nonneg hK hC) (by omega))
  · have w1 : e * (N - K) * a ≤ e * (N - K) * b := Int.mul_le_mul_of_nonneg_left h2 (Int.mul_nonneg (by omega) (by omega))
    have w2 : K * b * C ≤ K * b * e := Int.mul_le_mul_of_nonneg_left hC2 (Int.mul_nonneg hK (by omega))
    have w3 : N * e * b = e * (N - K) * b + K * b * e := by grind
    have w4 : K * C * b = K * b * C := by grind
    omega
  · have ex : N * e * b * q - (e * (N - K) * a + K * C * b) * dx = (e * (N - K)) * (b * px - a * dx) := by grind
    have ey : N * e * b * py - (e * (N - K) * a + K * C * b) * dy = (e * (N - K)) * (b * py - a * dy) := by grind
    rw [ex, ey]
    have i1 : 4 * ((e * (N - K)) * (b * px - a * dx) * ((e * (N - K)) * (b * px - a * dx)) + (e * (N - K)) * (b * py - a * dy) * ((e * (N - K)) * (b * py - a * dy))) = ((e * (N - K)) * (e * (N - K))) * (4 * ((b * px - a * dx) * (b * px - a * dx) + (b * py - a * dy) * (b * py - a * dy))) := by grind
    have i2 : t * (N * e * b) * (t * (N * e * b)) = ((e * N) * (e * N)) * ((t * b) * (t * b)) := by grind
    have g1 := Int.mul_le_mul_of_nonneg_left h4 (sq_nn (e * (N - K)))
    have en : e * (N - K) ≤ e * N := Int.mul_le_mul_of_nonneg_left (by omega) (by omega)
    have en0 : 0 ≤ e * (N - K) := Int.mul_nonneg (by omega) (by omega)
    have g2 := Int.mul_le_mul_of_nonneg_right (sq_le (x := e * (N - K)) (y := e * N) (by omega)) (sq_nn (t * b))
    omega
