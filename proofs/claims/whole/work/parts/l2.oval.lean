/-! ELLIPSES -/
theorem sq_nat (x : Int) : x * x = ((x.natAbs * x.natAbs : Nat) : Int) := by
  rw [Int.natCast_mul, Int.natAbs_mul_self']
theorem sq_le {x y : Int} (h : x.natAbs ≤ y.natAbs) : x * x ≤ y * y := by
  rw [sq_nat x, sq_nat y]
  exact Int.ofNat_le.mpr (Nat.mul_le_mul h h)
theorem sq_lt {x y : Int} (h : x.natAbs < y.natAbs) : x * x < y * y := by
  rw [sq_nat x, sq_nat y]
  exact Int.ofNat_lt.mpr (Nat.mul_lt_mul_of_lt_of_lt h h)
theorem sq_nn (x : Int) : 0 ≤ x * x := by
  rw [sq_nat x]
  exact Int.natCast_nonneg _
theorem pm_b {x y : Int} {A B : Nat} (hx : x.natAbs ≤ A) (hy : y.natAbs ≤ B) : (x * y).natAbs ≤ A * B := by
  rw [Int.natAbs_mul]
  exact Nat.mul_le_mul hx hy
def inO (u v a b : Int) : Bool := decide ((u * b) * (u * b) + (v * a) * (v * a) ≤ (a * b) * (a * b))
theorem inO_mono {u1 u2 v a b : Int} (h : u1.natAbs ≤ u2.natAbs) (hi : inO u2 v a b = true) : inO u1 v a b = true := by
  unfold inO at hi ⊢
  have hi := of_decide_eq_true hi
  have : (u1 * b) * (u1 * b) ≤ (u2 * b) * (u2 * b) := sq_le (by rw [Int.natAbs_mul, Int.natAbs_mul]; exact Nat.mul_le_mul_right _ h)
  exact decide_eq_true (by omega)
theorem inO_u {u v a b : Int} (h : a.natAbs < u.natAbs) (hb : 0 < b) : inO u v a b = false := by
  unfold inO
  have h1 : (a * b) * (a * b) < (u * b) * (u * b) := sq_lt (by rw [Int.natAbs_mul, Int.natAbs_mul]; exact Nat.mul_lt_mul_of_pos_right h (by omega))
  have h2 := sq_nn (v * a)
  exact decide_eq_false (by omega)
theorem inO_v {u v a b : Int} (h : b.natAbs < v.natAbs) (ha : 0 < a) : inO u v a b = false := by
  unfold inO
  have h1 : (a * b) * (a * b) < (v * a) * (v * a) := sq_lt (by rw [Int.natAbs_mul, Int.natAbs_mul, Nat.mul_comm]; exact Nat.mul_lt_mul_of_pos_right h (by omega))
  have h2 := sq_nn (u * b)
  exact decide_eq_false (by omega)
theorem ov_cmp {u v a b : Int} (hu : u.natAbs ≤ 12000) (hv : v.natAbs ≤ 12000) (ha : a.natAbs ≤ 2048) (hb : b.natAbs ≤ 2048) : (0 < lg_cmp (lZ ((u * b) * (u * b) + (v * a) * (v * a))) (lZ ((a * b) * (a * b)))) = (inO u v a b = false) := by
  have p1 := pm_b (pm_b hu hb) (pm_b hu hb)
  have p2 := pm_b (pm_b hv ha) (pm_b hv ha)
  have p3 := pm_b (pm_b ha hb) (pm_b ha hb)
  rw [lc_gt, lZ_lt (by omega) (by omega)]
  unfold inO
  rw [decide_eq_false_iff_not, Int.not_le]
theorem lZ_w {n : Nat} (h : n < 2147483648) : Int32.toInt64 (nI n) = lZ (n : Int) := by rw [iZ_nI, iZ_l (by omega)]
/-- the dots of a row left of an ellipse -/
theorem s_indent {M : im_M} {w a b : Nat} {v : Int} (hw : 1 ≤ w ∧ w ≤ 2048) (ha : 1 ≤ a ∧ a ≤ 2048) (hb : 1 ≤ b ∧ b ≤ 2048) (hv : v.natAbs ≤ 12000) : ∃ k : Nat, k ≤ (w + 1) / 2 ∧ f_HPen_indent (nI w) (nI a) (nI b) (lZ v) M = some (if k = (w + 1) / 2 then -1 else nI k) ∧ ∀ i : Int, 0 ≤ i → i < (w : Int) → inO (2 * i - ((w : Int) - 1)) v a b = decide ((k : Int) ≤ i ∧ i ≤ (w : Int) - 1 - k) := by
  have eN : (nI w + 1) / 2 = nI ((w + 1) / 2) := by
    rw [show nI w + 1 = nI (w + 1) from nI_add w 1, show (2 : Int32) = nI 2 from rfl, nI_div (by omega) (by omega) (by omega)]
  have run : ed (lp (uc3 (f_HPen_indent_L13 (nI w) (nI a) (nI b) (lZ v) M)) (0, nI ((w + 1) / 2), 0)) (fun z => ∃ k : Nat, z = nI k ∧ k ≤ (w + 1) / 2 ∧ (∀ j : Nat, j < k → inO (2 * (j : Int) - ((w : Int) - 1)) v a b = false) ∧ (∀ j : Nat, k ≤ j → j < (w + 1) / 2 → inO (2 * (j : Int) - ((w : Int) - 1)) v a b = true)) := by
    refine lp_inv (fun m (t : Int32 × Int32 × Int32) => ∃ lo hi : Nat, lo ≤ hi ∧ hi ≤ (w + 1) / 2 ∧ m ≤ 12 ∧ hi - lo < 2 ^ m ∧ t.1 = nI lo ∧ t.2.1 = nI hi ∧ t.2.2 = nI (12 - m) ∧ (∀ j : Nat, j < lo → inO (2 * (j : Int) - ((w : Int) - 1)) v a b = false) ∧ (∀ j : Nat, hi ≤ j → j < (w + 1) / 2 → inO (2 * (j : Int) - ((w : Int) - 1)) v a b = true)) (Q := fun z => ∃ k : Nat, z = nI k ∧ k ≤ (w + 1) / 2 ∧ (∀ j : Nat, j < k → inO (2 * (j : Int) - ((w : Int) - 1)) v a b = false) ∧ (∀ j : Nat, k ≤ j → j < (w + 1) / 2 → inO (2 * (j : Int) - ((w : Int) - 1)) v a b = true)) ?_ (k := 12) ⟨0, (w + 1) / 2, by omega, by omega, by omega, (show (w + 1) / 2 - 0 < 4096 by omega), rfl, rfl, rfl, fun j hj => absurd hj (Nat.not_lt_zero _), fun j h1 h2 => absurd h2 (by omega)⟩
    rintro m ⟨x6, x7, x8⟩ ⟨lo, hi, h1, h2, h3, h4, e1, e2, e3, hA, hB⟩
    replace e1 : x6 = nI lo := e1
    replace e2 : x7 = nI hi := e2
    replace e3 : x8 = nI (12 - m) := e3
    subst e1 e2 e3
    show ed (f_HPen_indent_L13 (nI w) (nI a) (nI b) (lZ v) M (nI lo) (nI hi) (nI (12 - m))) _
    unfold f_HPen_indent_L13
    have k0 : ((12 : Int32) ≤ nI (12 - m)) = (12 ≤ 12 - m) := nIl (x := 12) (by omega) (by omega)
    simp only [k0]
    by_cases c1 : 12 ≤ 12 - m
    · obtain rfl : m = 0 := by omega
      rw [if_pos c1]
      have : hi - lo < 1 := h4
      exact lpo_r ⟨lo, rfl, by omega, hA, fun j u1 u2 => hB j (by omega) u2⟩
    · rw [if_neg c1, if_nIl (by omega) (by omega)]
      by_cases c2 : hi ≤ lo
      · rw [if_pos c2]
        exact lpo_r ⟨lo, rfl, by omega, hA, fun j u1 u2 => hB j (by omega) u2⟩
      · have em : (nI lo + nI hi) / 2 = nI ((lo + hi) / 2) := by
          rw [nI_add, show (2 : Int32) = nI 2 from rfl, nI_div (by omega) (by omega) (by omega)]
        obtain ⟨md, hmd⟩ : ∃ md : Nat, md = (lo + hi) / 2 := ⟨_, rfl⟩
        have hmd2 : lo ≤ md ∧ md < hi := by omega
        obtain ⟨p, rfl⟩ : ∃ p, m = p + 1 := ⟨m - 1, by omega⟩
        have h5 : hi - lo < 2 ^ p * 2 := h4
        have ei : nI (12 - (p + 1)) + 1 = nI (12 - p) := by rw [show nI (12 - (p + 1)) + 1 = nI (12 - (p + 1) + 1) from nI_add _ 1]; congr 1; omega
        have eu : (((2 : Int64) * Int32.toInt64 (nI md)) - Int32.toInt64 (nI w - 1)) = lZ (2 * (md : Int) - ((w : Int) - 1)) := by
          rw [lZ_w (by omega), nI_m1 (by omega), lZ_w (by omega), show (2 : Int64) = lZ 2 from rfl, lZ_mul, lZ_sub]
          congr 1; omega
        have cmp : (0 < lg_cmp (((((((2 : Int64) * (Int32.toInt64 (nI md))) - (Int32.toInt64 (nI w - 1))) * (Int32.toInt64 (nI b))) * (((2 : Int64) * (Int32.toInt64 (nI md))) - (Int32.toInt64 (nI w - 1)))) * (Int32.toInt64 (nI b))) + (((lZ v * (Int32.toInt64 (nI a))) * lZ v) * (Int32.toInt64 (nI a)))) ((((Int32.toInt64 (nI a)) * (Int32.toInt64 (nI b))) * (Int32.toInt64 (nI a))) * (Int32.toInt64 (nI b)))) = (inO (2 * (md : Int) - ((w : Int) - 1)) v a b = false) := by
          rw [eu, lZ_w (n := a) (by omega), lZ_w (n := b) (by omega), lZ_mul, lZ_mul, lZ_mul, lZ_mul, lZ_mul, lZ_mul, lZ_add, lZ_mul, lZ_mul, lZ_mul, Int.mul_assoc (_ * _) _ _, Int.mul_assoc (v * _) _ _, Int.mul_assoc ((a : Int) * _) _ _]
          exact ov_cmp (by omega) hv (by omega) (by omega)
        rw [if_neg c2, em, ← hmd]
        simp only [cmp]
        by_cases c3 : inO (2 * (md : Int) - ((w : Int) - 1)) v a b = false
        · rw [if_pos c3, if_pos c3, ei]
          refine lpo_l p (by omega) ⟨md + 1, hi, by omega, h2, by omega, by omega, nI_add md 1, rfl, rfl, fun j hj => ?_, hB⟩
          cases hz : inO (2 * (j : Int) - ((w : Int) - 1)) v a b with
          | false => rfl
          | true =>
            have := inO_mono (u1 := 2 * (md : Int) - ((w : Int) - 1)) (by omega) hz
            rw [c3] at this
            exact absurd this (by decide)
        · have c4 : inO (2 * (md : Int) - ((w : Int) - 1)) v a b = true := by simpa using c3
          rw [if_neg c3, if_neg c3, ei]
          refine lpo_l p (by omega) ⟨lo, md, by omega, by omega, by omega, by omega, rfl, rfl, rfl, hA, fun j u1 u2 => ?_⟩
          exact inO_mono (by omega) c4
  obtain ⟨z, hz, k, rfl, k2, hA, hB⟩ := run
  refine ⟨k, k2, ?_, fun i i1 i2 => ?_⟩
  · unfold f_HPen_indent
    rw [eN, hz, bd1_s]
    have : (nI k = nI ((w + 1) / 2)) = (k = (w + 1) / 2) := nIe (by omega) (by omega)
    simp only [this]
    by_cases c : k = (w + 1) / 2
    · rw [if_neg (fun z => z c), if_pos c]
    · rw [if_pos c, if_neg c]
  · obtain ⟨n, rfl⟩ : ∃ n : Nat, i = (n : Int) := ⟨i.toNat, (Int.toNat_of_nonneg i1).symm⟩
    by_cases s : 2 * n ≤ w - 1
    · by_cases c : k ≤ n
      · rw [hB n c (by omega), decide_eq_true (by omega)]
      · rw [hA n (by omega), decide_eq_false (by omega)]
    · by_cases c : k ≤ w - 1 - n
      · rw [decide_eq_true (by omega)]
        exact inO_mono (by omega) (hB (w - 1 - n) c (by omega))
      · rw [decide_eq_false (by omega)]
        cases hz : inO (2 * (n : Int) - ((w : Int) - 1)) v a b with
        | false => rfl
        | true =>
          have h1 := inO_mono (u1 := 2 * ((w - 1 - n : Nat) : Int) - ((w : Int) - 1)) (by omega) hz
          rw [hA (w - 1 - n) (by omega)] at h1
          exact absurd h1 (by decide)
