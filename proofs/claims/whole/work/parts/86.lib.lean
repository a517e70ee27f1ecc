/-! LIBRARY: INTS AS INTEGERS, BITS, LOOPS -/
theorem mi_I {M : im_M} {a k b j : Nat} {v : Int32} : im_i (im_setI M a k v) b j = if b = a then (if j = k then v else im_i M b j) else im_i M b j := rfl
theorem ml_I {M : im_M} {a k : Nat} {v : Int32} : im_l (im_setI M a k v) = im_l M := rfl
theorem mi_L {M : im_M} {a k : Nat} {v : Int64} : im_i (im_setL M a k v) = im_i M := rfl
theorem ml_L {M : im_M} {a k b j : Nat} {v : Int64} : im_l (im_setL M a k v) b j = if b = a then (if j = k then v else im_l M b j) else im_l M b j := rfl
theorem mi_A {M : im_M} {a b : Nat} {f : Nat → Int32} : im_i (im_setA M a f) b = if b = a then f else im_i M b := rfl
theorem ml_A {M : im_M} {a : Nat} {f : Nat → Int32} : im_l (im_setA M a f) = im_l M := rfl
theorem mi_X {M : im_M} : im_i (im_noX M) = im_i M := rfl
theorem ml_X {M : im_M} : im_l (im_noX M) = im_l M := rfl
theorem mi_R {M : im_M} {a k : Nat} {v : Option Nat} : im_i (im_setR M a k v) = im_i M := rfl
theorem ml_R {M : im_M} {a k : Nat} {v : Option Nat} : im_l (im_setR M a k v) = im_l M := rfl
/-- an int of an integer -/
def iZ (a : Int) : Int32 := Int32.ofInt a
theorem iZ_n {n : Nat} : (OfNat.ofNat n : Int32) = iZ (OfNat.ofNat n) := rfl
theorem iZ_add {a b : Int} : iZ a + iZ b = iZ (a + b) := (Int32.ofInt_add a b).symm
theorem iZ_sub {a b : Int} : iZ a - iZ b = iZ (a - b) := (Int32.ofInt_sub a b).symm
theorem iZ_mul {a b : Int} : iZ a * iZ b = iZ (a * b) := (Int32.ofInt_mul a b).symm
theorem iZ_neg {a : Int} : - iZ a = iZ (-a) := (Int32.ofInt_neg a).symm
theorem iZ_toInt {a : Int} (h1 : -2147483648 ≤ a) (h2 : a < 2147483648) : (iZ a).toInt = a := Int32.toInt_ofInt_of_le (by omega) (by omega)
theorem iZ_of (x : Int32) : ∃ a : Int, x = iZ a ∧ -2147483648 ≤ a ∧ a < 2147483648 := ⟨x.toInt, (Int32.ofInt_toInt x).symm, by have := x.le_toInt; omega, by have := x.toInt_lt; omega⟩
theorem iZ_eq {a b : Int} (h1 : -2147483648 ≤ a ∧ a < 2147483648) (h2 : -2147483648 ≤ b ∧ b < 2147483648) : (iZ a = iZ b) = (a = b) := by
  apply propext
  rw [← Int32.toInt_inj, iZ_toInt h1.1 h1.2, iZ_toInt h2.1 h2.2]
theorem iZ_lt {a b : Int} (h1 : -2147483648 ≤ a ∧ a < 2147483648) (h2 : -2147483648 ≤ b ∧ b < 2147483648) : (iZ a < iZ b) = (a < b) := by
  apply propext
  rw [Int32.lt_iff_toInt_lt, iZ_toInt h1.1 h1.2, iZ_toInt h2.1 h2.2]
theorem iZ_le {a b : Int} (h1 : -2147483648 ≤ a ∧ a < 2147483648) (h2 : -2147483648 ≤ b ∧ b < 2147483648) : (iZ a ≤ iZ b) = (a ≤ b) := by
  apply propext
  rw [Int32.le_iff_toInt_le, iZ_toInt h1.1 h1.2, iZ_toInt h2.1 h2.2]
theorem iZ_c {a : Int} (h1 : -2147483648 ≤ a ∧ a < 2147483648) : (iZ a).toNatClampNeg = a.toNat := by
  show (iZ a).toInt.toNat = _
  rw [iZ_toInt h1.1 h1.2]
theorem iZ_inb {a : Int} {n : Nat} (h1 : -2147483648 ≤ a ∧ a < 2147483648) : inb (iZ a) n = (0 ≤ a ∧ a < (n : Int)) := by
  unfold inb
  rw [iZ_toInt h1.1 h1.2]
theorem iZ_nI {n : Nat} : nI n = iZ (n : Int) := Int32.ofInt_eq_ofNat.symm
theorem iZ_min : Int32.minValue = iZ (-2147483648) := by decide +kernel
theorem iZ_div {a b : Int} (h1 : -2147483648 < a ∧ a < 2147483648) (h2 : -2147483648 ≤ b ∧ b < 2147483648) (h3 : -2147483648 ≤ a.tdiv b ∧ a.tdiv b < 2147483648) : iZ a / iZ b = iZ (a.tdiv b) := by
  rw [← Int32.toInt_inj, Int32.toInt_div_of_ne_left, iZ_toInt (by omega) h1.2, iZ_toInt h2.1 h2.2, iZ_toInt h3.1 h3.2]
  intro q
  rw [iZ_min, iZ_eq (by omega) (by omega)] at q
  omega
theorem iZ_divN {a : Int} {b : Nat} (h1 : 0 ≤ a ∧ a < 2147483648) (h2 : 0 < b) (h3 : b < 2147483648) : iZ a / iZ (b : Int) = iZ (a / (b : Int)) := by
  have e : a.tdiv (b : Int) = a / (b : Int) := Int.tdiv_eq_ediv_of_nonneg h1.1
  have h4 : 0 ≤ a / (b : Int) := Int.ediv_nonneg h1.1 (by omega)
  have h5 : a / (b : Int) ≤ a := Int.ediv_le_self _ h1.1
  rw [iZ_div (by omega) (by omega) (by rw [e]; omega), e]
/-- a long of an integer -/
def lZ (a : Int) : Int64 := Int64.ofInt a
theorem lZ_n {n : Nat} : (OfNat.ofNat n : Int64) = lZ (OfNat.ofNat n) := rfl
theorem lZ_add {a b : Int} : lZ a + lZ b = lZ (a + b) := (Int64.ofInt_add a b).symm
theorem lZ_sub {a b : Int} : lZ a - lZ b = lZ (a - b) := (Int64.ofInt_sub a b).symm
theorem lZ_mul {a b : Int} : lZ a * lZ b = lZ (a * b) := (Int64.ofInt_mul a b).symm
theorem lZ_neg {a : Int} : - lZ a = lZ (-a) := (Int64.ofInt_neg a).symm
theorem lZ_toInt {a : Int} (h1 : -9223372036854775808 ≤ a) (h2 : a < 9223372036854775808) : (lZ a).toInt = a := Int64.toInt_ofInt_of_le (by omega) (by omega)
theorem lZ_eq {a b : Int} (h1 : -9223372036854775808 ≤ a ∧ a < 9223372036854775808) (h2 : -9223372036854775808 ≤ b ∧ b < 9223372036854775808) : (lZ a = lZ b) = (a = b) := by
  apply propext
  rw [← Int64.toInt_inj, lZ_toInt h1.1 h1.2, lZ_toInt h2.1 h2.2]
theorem lZ_lt {a b : Int} (h1 : -9223372036854775808 ≤ a ∧ a < 9223372036854775808) (h2 : -9223372036854775808 ≤ b ∧ b < 9223372036854775808) : (lZ a < lZ b) = (a < b) := by
  apply propext
  rw [Int64.lt_iff_toInt_lt, lZ_toInt h1.1 h1.2, lZ_toInt h2.1 h2.2]
theorem iZ_l {a : Int} (h1 : -2147483648 ≤ a ∧ a < 2147483648) : (iZ a).toInt64 = lZ a := by
  rw [← Int64.toInt_inj, Int32.toInt_toInt64, iZ_toInt h1.1 h1.2, lZ_toInt (by omega) (by omega)]
theorem lZ_i {a : Int} (h1 : -2147483648 ≤ a ∧ a < 2147483648) : (lZ a).toInt32 = iZ a := by
  rw [← Int32.toInt_inj, Int64.toInt_toInt32, iZ_toInt h1.1 h1.2, lZ_toInt (by omega) (by omega)]
  exact Int.bmod_eq_of_le (by omega) (by omega)
theorem i64_tri (x y : Int64) : (x < y ∧ ¬ y < x ∧ ¬ x = y) ∨ (x = y ∧ ¬ x < y ∧ ¬ y < x) ∨ (y < x ∧ ¬ x < y ∧ ¬ x = y) := by
  rw [Int64.lt_iff_toInt_lt, Int64.lt_iff_toInt_lt, ← Int64.toInt_inj]
  omega
theorem lc_lt {a b : Int64} : (lg_cmp a b < 0) = (a < b) := by
  apply propext
  unfold lg_cmp
  rcases i64_tri a b with ⟨h1, h2, h3⟩ | ⟨h1, h2, h3⟩ | ⟨h1, h2, h3⟩
  · rw [if_neg h2, if_neg h3]; exact ⟨fun _ => h1, fun _ => by decide⟩
  · rw [if_neg h3, if_pos h1]; exact ⟨fun q => absurd q (by decide), fun q => absurd q h2⟩
  · rw [if_pos h1]; exact ⟨fun q => absurd q (by decide), fun q => absurd q h2⟩
theorem lc_ge {a b : Int64} : (0 ≤ lg_cmp a b) = (¬ a < b) := by
  apply propext
  unfold lg_cmp
  rcases i64_tri a b with ⟨h1, h2, h3⟩ | ⟨h1, h2, h3⟩ | ⟨h1, h2, h3⟩
  · rw [if_neg h2, if_neg h3]; exact ⟨fun q => absurd q (by decide), fun q => absurd h1 q⟩
  · rw [if_neg h3, if_pos h1]; exact ⟨fun _ => h2, fun _ => by decide⟩
  · rw [if_pos h1]; exact ⟨fun _ => h2, fun _ => by decide⟩
theorem lc_gt {a b : Int64} : (0 < lg_cmp a b) = (b < a) := by
  apply propext
  unfold lg_cmp
  rcases i64_tri a b with ⟨h1, h2, h3⟩ | ⟨h1, h2, h3⟩ | ⟨h1, h2, h3⟩
  · rw [if_neg h2, if_neg h3]; exact ⟨fun q => absurd q (by decide), fun q => absurd q h2⟩
  · rw [if_neg h3, if_pos h1]; exact ⟨fun q => absurd q (by decide), fun q => absurd q h3⟩
  · rw [if_pos h1]; exact ⟨fun _ => h1, fun _ => by decide⟩
theorem lc_le {a b : Int64} : (lg_cmp a b ≤ 0) = (¬ b < a) := by
  apply propext
  unfold lg_cmp
  rcases i64_tri a b with ⟨h1, h2, h3⟩ | ⟨h1, h2, h3⟩ | ⟨h1, h2, h3⟩
  · rw [if_neg h2, if_neg h3]; exact ⟨fun _ => h2, fun _ => by decide⟩
  · rw [if_neg h3, if_pos h1]; exact ⟨fun _ => h3, fun _ => by decide⟩
  · rw [if_pos h1]; exact ⟨fun q => absurd q (by decide), fun q => absurd h1 q⟩
theorem lc_eq {a b : Int64} : (lg_cmp a b = 0) = (a = b) := by
  apply propext
  unfold lg_cmp
  rcases i64_tri a b with ⟨h1, h2, h3⟩ | ⟨h1, h2, h3⟩ | ⟨h1, h2, h3⟩
  · rw [if_neg h2, if_neg h3]; exact ⟨fun q => absurd q (by decide), fun q => absurd q h3⟩
  · rw [if_neg h3, if_pos h1]; exact ⟨fun _ => h1, fun _ => rfl⟩
  · rw [if_pos h1]; exact ⟨fun q => absurd q (by decide), fun q => absurd q h3⟩
theorem iZ_shr {a : Int} {y : Int32} {k : Nat} (hk : (y.toBitVec.smod 32).toNat = k) (h1 : -2147483648 ≤ a ∧ a < 2147483648) : iZ a >>> y = iZ (a / (2 ^ k : Nat)) := by
  rw [← Int32.toInt_inj]
  have e : (iZ a >>> y).toInt = a / (2 ^ k : Nat) := by
    rw [← Int32.toInt_toBitVec]
    show ((iZ a).toBitVec.sshiftRight' (y.toBitVec.smod 32)).toInt = _
    unfold BitVec.sshiftRight'
    rw [BitVec.toInt_sshiftRight, hk, Int32.toInt_toBitVec, iZ_toInt h1.1 h1.2, Int.shiftRight_eq_div_pow]
  have h2 : 0 < (2 ^ k : Nat) := Nat.two_pow_pos k
  rw [e, iZ_toInt]
  · exact Int.le_ediv_of_mul_le (by omega) (by
      have : -2147483648 * ((2 ^ k : Nat) : Int) ≤ -2147483648 := by
        have : (1 : Int) ≤ ((2 ^ k : Nat) : Int) := by omega
        omega
      omega)
  · exact Int.ediv_lt_of_lt_mul (by omega) (by
      have : (1 : Int) ≤ ((2 ^ k : Nat) : Int) := by omega
      have : 2147483648 ≤ 2147483648 * ((2 ^ k : Nat) : Int) := by omega
      omega)
theorem iZ_and {a : Int} (k : Nat) (hk : k < 31) : iZ a &&& iZ ((2 ^ k - 1 : Nat) : Int) = iZ (a % (2 ^ k : Nat)) := by
  apply Int32.toBitVec.inj
  apply BitVec.eq_of_toNat_eq
  show (BitVec.ofInt 32 a &&& BitVec.ofInt 32 ((2 ^ k - 1 : Nat) : Int)).toNat = (BitVec.ofInt 32 (a % (2 ^ k : Nat))).toNat
  have hp : (2 ^ k : Nat) < 2147483648 := Nat.pow_lt_pow_right (by decide) hk
  have hp0 : 0 < (2 ^ k : Nat) := Nat.two_pow_pos k
  have e1 : (BitVec.ofInt 32 ((2 ^ k - 1 : Nat) : Int)).toNat = 2 ^ k - 1 := by
    rw [BitVec.toNat_ofInt]
    omega
  have e2 : (BitVec.ofInt 32 (a % (2 ^ k : Nat))).toNat = (a % (2 ^ k : Nat)).toNat := by
    rw [BitVec.toNat_ofInt]
    have h1 : 0 ≤ a % ((2 ^ k : Nat) : Int) := Int.emod_nonneg _ (by omega)
    have h2 : a % ((2 ^ k : Nat) : Int) < ((2 ^ k : Nat) : Int) := Int.emod_lt_of_pos _ (by omega)
    omega
  rw [BitVec.toNat_and, e1, e2, Nat.and_two_pow_sub_one_eq_mod, BitVec.toNat_ofInt]
  have hd : ((2 ^ k : Nat) : Int) ∣ ((2 ^ 32 : Nat) : Int) := Int.natCast_dvd_natCast.mpr (Nat.pow_dvd_pow 2 (by omega))
  have h3 : a % ((2 ^ 32 : Nat) : Int) % ((2 ^ k : Nat) : Int) = a % ((2 ^ k : Nat) : Int) := Int.emod_emod_of_dvd a hd
  rw [← h3]
  have h0 : 0 ≤ a % ((2 ^ 32 : Nat) : Int) := Int.emod_nonneg _ (by decide)
  rw [Int.toNat_emod h0 (by omega)]
  rfl
/-- bit k of a long -/
def lb (v : Int64) (k : Nat) : Bool := v.toBitVec.getLsbD k
/-- bit k of an int -/
def ib (v : Int32) (k : Nat) : Bool := v.toBitVec.getLsbD k
theorem lb_ext {v z : Int64} (h : ∀ k, k < 64 → lb v k = lb z k) : v = z := Int64.toBitVec.inj (BitVec.eq_of_getLsbD_eq h)
theorem lb_xor {v z : Int64} {k : Nat} : lb (v ^^^ z) k = Bool.xor (lb v k) (lb z k) := BitVec.getLsbD_xor
theorem lb_or {v z : Int64} {k : Nat} : lb (v ||| z) k = (lb v k || lb z k) := BitVec.getLsbD_or
theorem lb_and {v z : Int64} {k : Nat} : lb (v &&& z) k = (lb v k && lb z k) := BitVec.getLsbD_and
theorem lb_0 {k : Nat} : lb 0 k = false := BitVec.getLsbD_zero
theorem lb_big {v : Int64} {k : Nat} (h : 64 ≤ k) : lb v k = false := BitVec.getLsbD_of_ge _ _ h
theorem lb_1 {k : Nat} : lb 1 k = decide (k = 0) := by
  unfold lb
  show (1#64).getLsbD k = _
  rw [BitVec.getLsbD_one]
  simp
theorem sm64 {j : Nat} (hj : j < 64) : ((lZ (j : Int)).toBitVec.smod 64).toNat = j := by
  have e : (lZ (j : Int)).toBitVec = BitVec.ofNat 64 j := by
    show BitVec.ofInt 64 (j : Int) = _
    exact BitVec.ofInt_natCast _ _
  rw [e]
  have := (by decide +kernel : ∀ j : Fin 64, ((BitVec.ofNat 64 j.val).smod 64#64).toNat = j.val) ⟨j, hj⟩
  exact this
theorem lA63 {j : Nat} (hj : j < 64) : lZ (j : Int) &&& 63 = lZ (j : Int) := by
  have := (by decide +kernel : ∀ j : Fin 64, lZ (j.val : Int) &&& 63 = lZ (j.val : Int)) ⟨j, hj⟩
  exact this
/-- 1L << j -/
theorem lb_one {j k : Nat} (hj : j < 64) (hk : k < 64) : lb ((1 : Int64) <<< (lZ (j : Int) &&& 63)) k = decide (k = j) := by
  rw [lA63 hj]
  unfold lb
  show ((1#64) <<< ((lZ (j : Int)).toBitVec.smod 64)).getLsbD k = _
  rw [BitVec.shiftLeft_eq', sm64 hj, BitVec.getLsbD_shiftLeft]
  have : (1#64).getLsbD (k - j) = decide (k - j = 0) := by rw [BitVec.getLsbD_one]; simp
  rw [this]
  by_cases h1 : k < j
  · simp [h1, hk]; omega
  · simp [h1, hk]
    by_cases h2 : k = j
    · simp [h2]
    · simp [h2]; omega
theorem l_and1 {v : Int64} : v &&& 1 = if lb v 0 = true then 1 else 0 := by
  apply lb_ext
  intro k hk
  rw [lb_and, lb_1]
  by_cases h : lb v 0 = true
  · rw [if_pos h, lb_1]
    by_cases e : k = 0
    · subst e; simp [h]
    · simp [e]
  · rw [if_neg h, lb_0]
    by_cases e : k = 0
    · subst e; simp [h]
    · simp [e]
theorem lb_ushr {v : Int64} {j k : Nat} (hj : j < 64) : lb (Int64.toUInt64 v >>> ((lZ (j : Int)).toUInt64 &&& Int64.toUInt64 63)).toInt64 k = lb v (j + k) := by
  have e : (lZ (j : Int)).toUInt64 &&& Int64.toUInt64 63 = (lZ (j : Int)).toUInt64 := by
    have := (by decide +kernel : ∀ j : Fin 64, (lZ (j.val : Int)).toUInt64 &&& Int64.toUInt64 63 = (lZ (j.val : Int)).toUInt64) ⟨j, hj⟩
    exact this
  rw [e]
  unfold lb
  show ((v.toBitVec) >>> ((lZ (j : Int)).toUInt64.toBitVec % 64)).getLsbD k = _
  have e2 : ((lZ (j : Int)).toUInt64.toBitVec % 64).toNat = j := by
    have := (by decide +kernel : ∀ j : Fin 64, ((lZ (j.val : Int)).toUInt64.toBitVec % 64).toNat = j.val) ⟨j, hj⟩
    exact this
  rw [BitVec.ushiftRight_eq', e2, BitVec.getLsbD_ushiftRight]
theorem lb_shr {v : Int64} {j : Nat} (hj : j < 64) : lb (v >>> (lZ (j : Int) &&& 63)) 0 = lb v j := by
  rw [lA63 hj]
  unfold lb
  show (v.toBitVec.sshiftRight' ((lZ (j : Int)).toBitVec.smod 64)).getLsbD 0 = _
  unfold BitVec.sshiftRight'
  rw [sm64 hj, BitVec.getLsbD_sshiftRight]
  simp [hj]
theorem lb_shl {v : Int64} {j k : Nat} (hj : j < 64) (hk : k < 64) : lb (v <<< (lZ (j : Int) &&& 63)) k = (decide (j ≤ k) && lb v (k - j)) := by
  rw [lA63 hj]
  unfold lb
  show (v.toBitVec <<< ((lZ (j : Int)).toBitVec.smod 64)).getLsbD k = _
  rw [BitVec.shiftLeft_eq', sm64 hj, BitVec.getLsbD_shiftLeft]
  by_cases h1 : k < j
  · simp [h1, hk]; omega
  · simp [h1, hk]; omega
theorem ib_ext {v z : Int32} (h : ∀ k, k < 32 → ib v k = ib z k) : v = z := Int32.toBitVec.inj (BitVec.eq_of_getLsbD_eq h)
theorem ib_xor {v z : Int32} {k : Nat} : ib (v ^^^ z) k = Bool.xor (ib v k) (ib z k) := BitVec.getLsbD_xor
theorem ib_or {v z : Int32} {k : Nat} : ib (v ||| z) k = (ib v k || ib z k) := BitVec.getLsbD_or
theorem ib_and {v z : Int32} {k : Nat} : ib (v &&& z) k = (ib v k && ib z k) := BitVec.getLsbD_and
theorem ib_0 {k : Nat} : ib 0 k = false := BitVec.getLsbD_zero
theorem ib_1 {k : Nat} : ib 1 k = decide (k = 0) := by
  unfold ib
  show (1#32).getLsbD k = _
  rw [BitVec.getLsbD_one]
  simp
theorem i_and1 {v : Int32} : v &&& 1 = if ib v 0 = true then 1 else 0 := by
  apply ib_ext
  intro k hk
  rw [ib_and, ib_1]
  by_cases h : ib v 0 = true
  · rw [if_pos h, ib_1]
    by_cases e : k = 0
    · subst e; simp [h]
    · simp [e]
  · rw [if_neg h, ib_0]
    by_cases e : k = 0
    · subst e; simp [h]
    · simp [e]
theorem sm32 {j : Nat} (hj : j < 32) : ((iZ (j : Int)).toBitVec.smod 32).toNat = j := by
  have := (by decide +kernel : ∀ j : Fin 32, ((iZ (j.val : Int)).toBitVec.smod 32).toNat = j.val) ⟨j, hj⟩
  exact this
theorem iA31 {j : Nat} (hj : j < 32) : iZ (j : Int) &&& 31 = iZ (j : Int) := by
  have := (by decide +kernel : ∀ j : Fin 32, iZ (j.val : Int) &&& 31 = iZ (j.val : Int)) ⟨j, hj⟩
  exact this
theorem ib_shr {v : Int32} {j : Nat} (hj : j < 32) : ib (v >>> (iZ (j : Int) &&& 31)) 0 = ib v j := by
  rw [iA31 hj]
  unfold ib
  show (v.toBitVec.sshiftRight' ((iZ (j : Int)).toBitVec.smod 32)).getLsbD 0 = _
  unfold BitVec.sshiftRight'
  rw [sm32 hj, BitVec.getLsbD_sshiftRight]
  simp [hj]
theorem ib_one {j k : Nat} (hj : j < 32) (hk : k < 32) : ib ((1 : Int32) <<< (iZ (j : Int) &&& 31)) k = decide (k = j) := by
  rw [iA31 hj]
  unfold ib
  show ((1#32) <<< ((iZ (j : Int)).toBitVec.smod 32)).getLsbD k = _
  rw [BitVec.shiftLeft_eq', sm32 hj, BitVec.getLsbD_shiftLeft]
  have : (1#32).getLsbD (k - j) = decide (k - j = 0) := by rw [BitVec.getLsbD_one]; simp
  rw [this]
  by_cases h1 : k < j
  · simp [h1, hk]; omega
  · simp [h1, hk]
    by_cases h2 : k = j
    · simp [h2]
    · simp [h2]; omega
/-- a loop along a known row of states -/
theorem lp_row {S R : Type} {b : S → Option (S ⊕ R)} (st : Nat → S) (n : Nat) {r : R} (hs : ∀ k, k < n → b (st k) = some (.inl (st (k + 1)))) (he : b (st n) = some (.inr r)) : lp b (st 0) = some r := by
  have : ∀ j, j ≤ n → lpn b (n - j + 1) (st j) = some r := by
    intro j
    induction hj : n - j generalizing j with
    | zero =>
      intro hjn
      have e : j = n := by omega
      subst e
      unfold lpn
      rw [he]
    | succ m ih =>
      intro hjn
      have h1 := ih (j + 1) (by omega) (by omega)
      unfold lpn
      rw [hs j (by omega)]
      exact h1
  exact lp_of (this 0 (by omega))
