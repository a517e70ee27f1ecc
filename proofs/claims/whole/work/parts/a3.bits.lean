/-! THE NUMBER OF BITS OF A LONG -/
/-- the byte c, n times -/
def mkb (c : Nat) : Nat → Nat
  | 0 => 0
  | n + 1 => c + 256 * mkb c n
theorem land_256 (a b x y : Nat) (ha : a < 256) (hb : b < 256) : (a + 256 * x) &&& (b + 256 * y) = (a &&& b) + 256 * (x &&& y) := by
  have h1 : ((a + 256 * x) &&& (b + 256 * y)) % 2 ^ 8 = a &&& b := by
    rw [Nat.and_mod_two_pow]
    have e1 : (a + 256 * x) % 2 ^ 8 = a := by show _ % 256 = _; omega
    have e2 : (b + 256 * y) % 2 ^ 8 = b := by show _ % 256 = _; omega
    rw [e1, e2]
  have h2 : ((a + 256 * x) &&& (b + 256 * y)) / 2 ^ 8 = x &&& y := by
    rw [Nat.and_div_two_pow]
    have e1 : (a + 256 * x) / 2 ^ 8 = x := by show _ / 256 = _; omega
    have e2 : (b + 256 * y) / 2 ^ 8 = y := by show _ / 256 = _; omega
    rw [e1, e2]
  have h3 := Nat.div_add_mod ((a + 256 * x) &&& (b + 256 * y)) (2 ^ 8)
  rw [h1, h2] at h3
  have h4 : 2 ^ 8 * (x &&& y) + (a &&& b) = (a + 256 * x) &&& (b + 256 * y) := h3
  rw [← h4]
  show 256 * (x &&& y) + (a &&& b) = _
  omega
def bc1 (n V : Nat) : Nat := V - ((V / 2) &&& mkb 85 n)
def bc2 (n V : Nat) : Nat := (V &&& mkb 51 n) + ((V / 4) &&& mkb 51 n)
def bc3 (n V : Nat) : Nat := (V + V / 16) &&& mkb 15 n
/-- the number of bits of a byte -/
def pcb (B : Nat) : Nat := (B % 2) + (B / 2 % 2) + (B / 4 % 2) + (B / 8 % 2) + (B / 16 % 2) + (B / 32 % 2) + (B / 64 % 2) + (B / 128 % 2)
def b1 (B : Nat) : Nat := B - ((B / 2) &&& 85)
def b2 (B : Nat) : Nat := (B &&& 51) + ((B / 4) &&& 51)
theorem t_1 : ∀ B : Fin 256, ∀ c : Fin 2, (B.val / 2 + 128 * c.val) &&& 85 = (B.val / 2) &&& 85 ∧ ((B.val / 2) &&& 85) ≤ B.val := by decide +kernel
theorem t_2 : ∀ B : Fin 256, ∀ c : Fin 4, (B.val / 4 + 64 * c.val) &&& 51 = (B.val / 4) &&& 51 := by decide +kernel
theorem t_3 : ∀ B : Fin 256, b1 B.val < 256 ∧ b2 (b1 B.val) < 69 ∧ b2 (b1 B.val) % 16 ≤ 4 ∧ b2 (b1 B.val) / 16 ≤ 4 := by decide +kernel
theorem t_4 : ∀ B : Fin 256, ∀ c : Fin 5, (b2 (b1 B.val) + b2 (b1 B.val) / 16 + 16 * c.val) &&& 15 = pcb B.val := by decide +kernel
theorem bc1_s {n B V : Nat} (hB : B < 256) (hV : (V / 2) &&& mkb 85 n ≤ V) : bc1 (n + 1) (B + 256 * V) = b1 B + 256 * bc1 n V := by
  unfold bc1 b1
  show B + 256 * V - ((B + 256 * V) / 2 &&& (85 + 256 * mkb 85 n)) = _
  have e : (B + 256 * V) / 2 = (B / 2 + 128 * (V % 2)) + 256 * (V / 2) := by omega
  have t := t_1 ⟨B, hB⟩ ⟨V % 2, Nat.mod_lt _ (by decide)⟩
  have t1 : (B / 2 + 128 * (V % 2)) &&& 85 = (B / 2) &&& 85 := t.1
  have t2 : ((B / 2) &&& 85) ≤ B := t.2
  rw [e, land_256 _ _ _ _ (by omega) (by decide), t1]
  omega
theorem bc1_le (n : Nat) : ∀ V, (V / 2) &&& mkb 85 n ≤ V := by
  intro V
  exact Nat.le_trans Nat.and_le_left (Nat.div_le_self V 2)
theorem bc2_s {n b W : Nat} (hb : b < 256) : bc2 (n + 1) (b + 256 * W) = b2 b + 256 * bc2 n W := by
  unfold bc2 b2
  show (b + 256 * W &&& (51 + 256 * mkb 51 n)) + ((b + 256 * W) / 4 &&& (51 + 256 * mkb 51 n)) = _
  have e : (b + 256 * W) / 4 = (b / 4 + 64 * (W % 4)) + 256 * (W / 4) := by omega
  have t := t_2 ⟨b, hb⟩ ⟨W % 4, Nat.mod_lt _ (by decide)⟩
  have t1 : (b / 4 + 64 * (W % 4)) &&& 51 = (b / 4) &&& 51 := t
  rw [e, land_256 _ _ _ _ hb (by decide), land_256 _ _ _ _ (by omega) (by decide), t1]
  omega
theorem bc3_s {n B Z : Nat} (hB : B < 256) (hZ : Z % 16 ≤ 4) : bc3 (n + 1) (b2 (b1 B) + 256 * Z) = pcb B + 256 * bc3 n Z := by
  unfold bc3
  have t3 := t_3 ⟨B, hB⟩
  simp only at t3
  show (b2 (b1 B) + 256 * Z + (b2 (b1 B) + 256 * Z) / 16 &&& (15 + 256 * mkb 15 n)) = _
  have e : b2 (b1 B) + 256 * Z + (b2 (b1 B) + 256 * Z) / 16 = (b2 (b1 B) + b2 (b1 B) / 16 + 16 * (Z % 16)) + 256 * (Z + Z / 16) := by omega
  have t := t_4 ⟨B, hB⟩ ⟨Z % 16, by omega⟩
  simp only at t
  rw [e, land_256 _ _ _ _ (by omega) (by decide), t]
/-- all three steps -/
def bcA (n V : Nat) : Nat := bc3 n (bc2 n (bc1 n V))
theorem bc_low (n V : Nat) : bc2 n (bc1 n V) % 16 ≤ 4 := by
  cases n with
  | zero =>
    have : bc2 0 (bc1 0 V) = 0 := by
      unfold bc2
      show (_ &&& 0) + (_ &&& 0) = 0
      rw [Nat.and_zero, Nat.and_zero]
    rw [this]
    omega
  | succ n =>
    have e : V = V % 256 + 256 * (V / 256) := by omega
    have h : V % 256 < 256 := Nat.mod_lt _ (by decide)
    have t3 := t_3 ⟨V % 256, h⟩
    simp only at t3
    rw [e, bc1_s h (bc1_le n _), bc2_s t3.1]
    omega
theorem bcA_s {n B V : Nat} (hB : B < 256) : bcA (n + 1) (B + 256 * V) = pcb B + 256 * bcA n V := by
  unfold bcA
  have t3 := t_3 ⟨B, hB⟩
  simp only at t3
  rw [bc1_s hB (bc1_le n _), bc2_s t3.1, bc3_s hB (bc_low n V)]
theorem pcb_le (B : Nat) : pcb B ≤ 8 := by
  unfold pcb
  omega
/-- the bits of n bytes, counted -/
def pcs : Nat → Nat → Nat
  | 0, _ => 0
  | n + 1, V => pcb (V % 256) + pcs n (V / 256)
theorem bc_add {Y0 Y1 Y2 Y3 Y4 Y5 Y6 Y7 a0 a1 a2 a3 a4 a5 a6 a7 : Nat} (e0 : Y0 = a0 + 256 * Y1) (e1 : Y1 = a1 + 256 * Y2) (e2 : Y2 = a2 + 256 * Y3) (e3 : Y3 = a3 + 256 * Y4) (e4 : Y4 = a4 + 256 * Y5) (e5 : Y5 = a5 + 256 * Y6) (e6 : Y6 = a6 + 256 * Y7) (e7 : Y7 = a7) (h0 : a0 ≤ 8) (h1 : a1 ≤ 8) (h2 : a2 ≤ 8) (h3 : a3 ≤ 8) (h4 : a4 ≤ 8) (h5 : a5 ≤ 8) (h6 : a6 ≤ 8) (h7 : a7 ≤ 8) : Y0 / 256 = Y1 ∧ (Y0 + Y1) / 65536 = Y2 + Y3 ∧ (Y0 + Y1 + (Y2 + Y3)) / 4294967296 = Y4 + Y5 + Y6 + Y7 ∧ (Y0 + Y1 + (Y2 + Y3) + (Y4 + Y5 + Y6 + Y7)) % 128 = a0 + a1 + a2 + a3 + a4 + a5 + a6 + a7 ∧ Y0 ≤ 600000000000000000 := by
  refine ⟨?_, ?_, ?_, ?_, ?_⟩
  · clear e1 e2 e3 e4 e5 e6 e7
    omega
  · have k0 : Y0 = a0 + 256 * a1 + 65536 * Y2 := by clear e2 e3 e4 e5 e6 e7; omega
    have k1 : Y1 = a1 + 256 * a2 + 65536 * Y3 := by clear e0 k0 e3 e4 e5 e6 e7; omega
    clear e0 e1 e2 e3 e4 e5 e6 e7
    omega
  · have k0 : ∃ l, l ≤ 134744072 ∧ Y0 = l + 4294967296 * Y4 := ⟨a0 + 256 * a1 + 65536 * a2 + 16777216 * a3, by omega, by clear e4 e5 e6 e7; omega⟩
    have k1 : ∃ l, l ≤ 134744072 ∧ Y1 = l + 4294967296 * Y5 := ⟨a1 + 256 * a2 + 65536 * a3 + 16777216 * a4, by omega, by clear e0 e5 e6 e7 k0; omega⟩
    have k2 : ∃ l, l ≤ 134744072 ∧ Y2 = l + 4294967296 * Y6 := ⟨a2 + 256 * a3 + 65536 * a4 + 16777216 * a5, by omega, by clear e0 e1 e6 e7 k0 k1; omega⟩
    have k3 : ∃ l, l ≤ 134744072 ∧ Y3 = l + 4294967296 * Y7 := ⟨a3 + 256 * a4 + 65536 * a5 + 16777216 * a6, by omega, by clear e0 e1 e2 e7 k0 k1 k2; omega⟩
    obtain ⟨l0, m0, k0⟩ := k0
    obtain ⟨l1, m1, k1⟩ := k1
    obtain ⟨l2, m2, k2⟩ := k2
    obtain ⟨l3, m3, k3⟩ := k3
    clear e0 e1 e2 e3 e4 e5 e6 e7 h0 h1 h2 h3 h4 h5 h6 h7
    omega
  · have k : Y0 + Y1 + (Y2 + Y3) + (Y4 + Y5 + Y6 + Y7) = (a0 + a1 + a2 + a3 + a4 + a5 + a6 + a7) + 256 * (Y1 + Y2 + Y3 + Y4 + Y5 + Y6 + Y7) := by omega
    rw [k]
    clear k e0 e1 e2 e3 e4 e5 e6 e7
    omega
  · have b6 : Y6 ≤ 2056 := by clear e0 e1 e2 e3 e4 e5; omega
    have b5 : Y5 ≤ 526344 := by clear e0 e1 e2 e3 e4 e6 e7; omega
    have b4 : Y4 ≤ 134744072 := by clear e0 e1 e2 e3 e5 e6 e7 b6; omega
    have b3 : Y3 ≤ 34494482440 := by clear e0 e1 e2 e4 e5 e6 e7 b6 b5; omega
    have b2 : Y2 ≤ 8830587504648 := by clear e0 e1 e3 e4 e5 e6 e7 b6 b5 b4; omega
    have b1 : Y1 ≤ 2260630401189896 := by clear e0 e2 e3 e4 e5 e6 e7 b6 b5 b4 b3; omega
    clear e1 e2 e3 e4 e5 e6 e7 b6 b5 b4 b3 b2
    omega
/-- a long as a number -/
def un (a : Int64) : Nat := a.toBitVec.toNat
theorem un_lt (a : Int64) : un a < 2 ^ 64 := a.toBitVec.isLt
theorem un_and {a b : Int64} : un (a &&& b) = (un a &&& un b) := BitVec.toNat_and ..
theorem un_sub {a b : Int64} (h : un b ≤ un a) : un (a - b) = un a - un b := BitVec.toNat_sub_of_le h
theorem un_add {a b : Int64} (h : un a + un b < 2 ^ 64) : un (a + b) = un a + un b := by
  show (a.toBitVec + b.toBitVec).toNat = _
  rw [BitVec.toNat_add]
  exact Nat.mod_eq_of_lt h
theorem un_shr {a : Int64} {j : Nat} {d : Int32} (hj : j < 64) (hd : d = nI j) : un ((Int64.toUInt64 a >>> ((Int32.toInt64 d).toUInt64 &&& Int64.toUInt64 63)).toInt64) = un a / 2 ^ j := by
  subst hd
  rw [iZ_nI, iZ_l (by omega)]
  have e : (lZ (j : Int)).toUInt64 &&& Int64.toUInt64 63 = (lZ (j : Int)).toUInt64 := (by decide +kernel : ∀ j : Fin 64, (lZ (j.val : Int)).toUInt64 &&& Int64.toUInt64 63 = (lZ (j.val : Int)).toUInt64) ⟨j, hj⟩
  rw [e]
  show ((a.toBitVec) >>> ((lZ (j : Int)).toUInt64.toBitVec % 64)).toNat = _
  have e2 : ((lZ (j : Int)).toUInt64.toBitVec % 64).toNat = j := (by decide +kernel : ∀ j : Fin 64, ((lZ (j.val : Int)).toUInt64.toBitVec % 64).toNat = j.val) ⟨j, hj⟩
  rw [BitVec.ushiftRight_eq', e2, BitVec.toNat_ushiftRight, Nat.shiftRight_eq_div_pow]
  rfl
theorem un_m : un 6148914691236517205 = mkb 85 8 ∧ un 3689348814741910323 = mkb 51 8 ∧ un 1085102592571150095 = mkb 15 8 := by decide +kernel
theorem mk_v : mkb 85 8 = 6148914691236517205 ∧ mkb 51 8 = 3689348814741910323 ∧ mkb 15 8 = 1085102592571150095 := by decide +kernel
def q1 (v : Int64) : Int64 := v - ((Int64.toUInt64 v >>> ((Int32.toInt64 1).toUInt64 &&& Int64.toUInt64 63)).toInt64 &&& 6148914691236517205)
def q2 (v : Int64) : Int64 := (v &&& 3689348814741910323) + ((Int64.toUInt64 v >>> ((Int32.toInt64 2).toUInt64 &&& Int64.toUInt64 63)).toInt64 &&& 3689348814741910323)
def q3 (v : Int64) : Int64 := (v + (Int64.toUInt64 v >>> ((Int32.toInt64 4).toUInt64 &&& Int64.toUInt64 63)).toInt64) &&& 1085102592571150095
def q4 (v : Int64) : Int64 := v + (Int64.toUInt64 v >>> ((Int32.toInt64 8).toUInt64 &&& Int64.toUInt64 63)).toInt64
def q5 (v : Int64) : Int64 := v + (Int64.toUInt64 v >>> ((Int32.toInt64 16).toUInt64 &&& Int64.toUInt64 63)).toInt64
def q6 (v : Int64) : Int64 := v + (Int64.toUInt64 v >>> ((Int32.toInt64 32).toUInt64 &&& Int64.toUInt64 63)).toInt64
theorem bit_is {v : Int64} {M : im_M} : f_Long_bitCount v M = some (Int64.toInt32 (q6 (q5 (q4 (q3 (q2 (q1 v)))))) &&& 127) := rfl
theorem bit_n {v : Int64} {M : im_M} : f_Long_bitCount v M = some (nI (pcs 8 (un v))) ∧ pcs 8 (un v) ≤ 64 := by
  have s : ∀ n V, bcA (n + 1) V = pcb (V % 256) + 256 * bcA n (V / 256) := by
    intro n V
    have e : V = V % 256 + 256 * (V / 256) := by omega
    conv => lhs; rw [e]
    exact bcA_s (Nat.mod_lt _ (by decide))
  have z : ∀ V, bcA 0 V = 0 := by
    intro V
    unfold bcA bc3
    show _ &&& 0 = 0
    rw [Nat.and_zero]
  have p := pcb_le
  have h1 : un (q1 v) = bc1 8 (un v) := by
    unfold q1 bc1
    have e : un ((Int64.toUInt64 v >>> ((Int32.toInt64 1).toUInt64 &&& Int64.toUInt64 63)).toInt64 &&& 6148914691236517205) = (un v / 2 &&& mkb 85 8) := by
      rw [un_and, un_shr (d := 1) (j := 1) (by decide) rfl, un_m.1]
    rw [un_sub (by rw [e]; exact bc1_le 8 _), e]
  have h2 : un (q2 (q1 v)) = bc2 8 (bc1 8 (un v)) := by
    unfold q2 bc2
    have ea : un (q1 v &&& 3689348814741910323) = (bc1 8 (un v) &&& mkb 51 8) := by rw [un_and, h1, un_m.2.1]
    have eb : un ((Int64.toUInt64 (q1 v) >>> ((Int32.toInt64 2).toUInt64 &&& Int64.toUInt64 63)).toInt64 &&& 3689348814741910323) = (bc1 8 (un v) / 4 &&& mkb 51 8) := by
      rw [un_and, un_shr (d := 2) (j := 2) (by decide) rfl, h1, un_m.2.1]
    have l1 : (bc1 8 (un v) &&& mkb 51 8) ≤ mkb 51 8 := Nat.and_le_right
    have l2 : (bc1 8 (un v) / 4 &&& mkb 51 8) ≤ mkb 51 8 := Nat.and_le_right
    rw [mk_v.2.1] at l1 l2
    rw [un_add (by rw [ea, eb, mk_v.2.1]; omega), ea, eb]
  have l3 : bc2 8 (bc1 8 (un v)) ≤ 7378697629483820646 := by
    unfold bc2
    have l1 : (bc1 8 (un v) &&& mkb 51 8) ≤ mkb 51 8 := Nat.and_le_right
    have l2 : (bc1 8 (un v) / 4 &&& mkb 51 8) ≤ mkb 51 8 := Nat.and_le_right
    rw [mk_v.2.1] at l1 l2 ⊢
    omega
  have h3 : un (q3 (q2 (q1 v))) = bcA 8 (un v) := by
    unfold q3 bcA bc3
    have eb : un ((Int64.toUInt64 (q2 (q1 v)) >>> ((Int32.toInt64 4).toUInt64 &&& Int64.toUInt64 63)).toInt64) = bc2 8 (bc1 8 (un v)) / 16 := by
      rw [un_shr (d := 4) (j := 4) (by decide) rfl, h2]
    rw [un_and, un_add (by rw [eb, h2]; omega), eb, h2, un_m.2.2]
  have hs : ∃ Y1 Y2 Y3 Y4 Y5 Y6 Y7 a0 a1 a2 a3 a4 a5 a6 a7 : Nat, bcA 8 (un v) = a0 + 256 * Y1 ∧ Y1 = a1 + 256 * Y2 ∧ Y2 = a2 + 256 * Y3 ∧ Y3 = a3 + 256 * Y4 ∧ Y4 = a4 + 256 * Y5 ∧ Y5 = a5 + 256 * Y6 ∧ Y6 = a6 + 256 * Y7 ∧ Y7 = a7 ∧ a0 ≤ 8 ∧ a1 ≤ 8 ∧ a2 ≤ 8 ∧ a3 ≤ 8 ∧ a4 ≤ 8 ∧ a5 ≤ 8 ∧ a6 ≤ 8 ∧ a7 ≤ 8 ∧ pcs 8 (un v) = a0 + a1 + a2 + a3 + a4 + a5 + a6 + a7 := by
    refine ⟨_, _, _, _, _, _, _, _, _, _, _, _, _, _, _, s 7 _, s 6 _, s 5 _, s 4 _, s 3 _, s 2 _, s 1 _, ?_, p _, p _, p _, p _, p _, p _, p _, p (un v / 256 / 256 / 256 / 256 / 256 / 256 / 256 % 256), ?_⟩
    · rw [s 0, z, Nat.mul_zero, Nat.add_zero]
    · show pcb (un v % 256) + (pcb (un v / 256 % 256) + (pcb (un v / 256 / 256 % 256) + (pcb (un v / 256 / 256 / 256 % 256) + (pcb (un v / 256 / 256 / 256 / 256 % 256) + (pcb (un v / 256 / 256 / 256 / 256 / 256 % 256) + (pcb (un v / 256 / 256 / 256 / 256 / 256 / 256 % 256) + (pcb (un v / 256 / 256 / 256 / 256 / 256 / 256 / 256 % 256) + 0))))))) = _
      simp only [Nat.add_assoc, Nat.add_zero]
  obtain ⟨Y1, Y2, Y3, Y4, Y5, Y6, Y7, a0, a1, a2, a3, a4, a5, a6, a7, e0, e1, e2, e3, e4, e5, e6, e7, k0, k1, k2, k3, k4, k5, k6, k7, ep⟩ := hs
  obtain ⟨g1, g2, g3, g4, g5⟩ := bc_add e0 e1 e2 e3 e4 e5 e6 e7 k0 k1 k2 k3 k4 k5 k6 k7
  have b1 : Y1 ≤ bcA 8 (un v) := by omega
  have b2 : Y2 ≤ Y1 := by omega
  have b3 : Y3 ≤ Y2 := by omega
  have b4 : Y4 ≤ Y3 := by omega
  have b5 : Y5 ≤ Y4 := by omega
  have b6 : Y6 ≤ Y5 := by omega
  have b7 : Y7 ≤ Y6 := by omega
  clear e0 e1 e2 e3 e4 e5 e6 e7
  generalize bcA 8 (un v) = Y0 at *
  have h4 : un (q4 (q3 (q2 (q1 v)))) = Y0 + Y1 := by
    unfold q4
    have eb : un ((Int64.toUInt64 (q3 (q2 (q1 v))) >>> ((Int32.toInt64 8).toUInt64 &&& Int64.toUInt64 63)).toInt64) = Y1 := by
      rw [un_shr (d := 8) (j := 8) (by decide) rfl, h3]
      exact g1
    rw [un_add (by rw [eb, h3]; omega), eb, h3]
  have h5 : un (q5 (q4 (q3 (q2 (q1 v))))) = Y0 + Y1 + (Y2 + Y3) := by
    unfold q5
    have eb : un ((Int64.toUInt64 (q4 (q3 (q2 (q1 v)))) >>> ((Int32.toInt64 16).toUInt64 &&& Int64.toUInt64 63)).toInt64) = Y2 + Y3 := by
      rw [un_shr (d := 16) (j := 16) (by decide) rfl, h4]
      exact g2
    rw [un_add (by rw [eb, h4]; omega), eb, h4]
  have h6 : un (q6 (q5 (q4 (q3 (q2 (q1 v)))))) = Y0 + Y1 + (Y2 + Y3) + (Y4 + Y5 + Y6 + Y7) := by
    unfold q6
    have eb : un ((Int64.toUInt64 (q5 (q4 (q3 (q2 (q1 v))))) >>> ((Int32.toInt64 32).toUInt64 &&& Int64.toUInt64 63)).toInt64) = Y4 + Y5 + Y6 + Y7 := by
      rw [un_shr (d := 32) (j := 32) (by decide) rfl, h5]
      exact g3
    rw [un_add (by rw [eb, h5]; omega), eb, h5]
  rw [bit_is, ep]
  refine ⟨?_, by omega⟩
  generalize q6 (q5 (q4 (q3 (q2 (q1 v))))) = r at h6
  have er : r = lZ ((Y0 + Y1 + (Y2 + Y3) + (Y4 + Y5 + Y6 + Y7) : Nat) : Int) := by
    apply Int64.toBitVec.inj
    apply BitVec.eq_of_toNat_eq
    show un r = (BitVec.ofInt 64 _).toNat
    rw [h6, BitVec.toNat_ofInt]
    omega
  have e127 : (127 : Int32) = iZ ((2 ^ 7 - 1 : Nat) : Int) := rfl
  have et : ∀ z : Int, (lZ z).toInt32 = iZ z := fun z => Int64.toInt32_ofInt
  rw [er, et, e127, iZ_and 7 (by decide), iZ_nI, ← g4]
  congr 2
/-- the bits of a number, the first n of them -/
def cbn (V : Nat) : Nat → Nat
  | 0 => 0
  | n + 1 => cbn V n + V / 2 ^ n % 2
theorem cbn_8 (V : Nat) : ∀ m, cbn V (8 + m) = cbn V 8 + cbn (V / 256) m := by
  intro m
  induction m with
  | zero => rfl
  | succ m ih =>
    show cbn V (8 + m) + V / 2 ^ (8 + m) % 2 = cbn V 8 + (cbn (V / 256) m + V / 256 / 2 ^ m % 2)
    rw [ih, Nat.div_div_eq_div_mul, Nat.pow_add]
    show _ + V / (256 * 2 ^ m) % 2 = _
    omega
theorem pcb_8 (V : Nat) : pcb (V % 256) = cbn V 8 := by
  unfold pcb
  show _ = 0 + V / 1 % 2 + V / 2 % 2 + V / 4 % 2 + V / 8 % 2 + V / 16 % 2 + V / 32 % 2 + V / 64 % 2 + V / 128 % 2
  omega
theorem pcs_n : ∀ n V, pcs n V = cbn V (8 * n) := by
  intro n
  induction n with
  | zero => intro V; rfl
  | succ n ih =>
    intro V
    show pcb (V % 256) + pcs n (V / 256) = _
    rw [ih, pcb_8, show 8 * (n + 1) = 8 + 8 * n by omega, cbn_8]
theorem lb_un {v : Int64} {b : Nat} : lb v b = decide (un v / 2 ^ b % 2 = 1) := by
  show v.toBitVec.toNat.testBit b = _
  rw [Nat.testBit_eq_decide_div_mod_eq]
  rfl
/-- the dots of a row, word by word -/
theorem rowB_add {B : Nat → Nat → Bool} {y : Nat} (m : Nat) : ∀ n, rowB B y (m + n) = rowB B y m + rowB (fun a b => B (m + a) b) y n := by
  intro n
  induction n with
  | zero => rfl
  | succ n ih =>
    show rowB B y (m + n) + (if B (m + n) y = true then 1 else 0) = rowB B y m + (rowB (fun a b => B (m + a) b) y n + (if B (m + n) y = true then 1 else 0))
    rw [ih]
    omega
theorem word_row {v : Int64} {B : Nat → Nat → Bool} {y m : Nat} (h : ∀ b, b < 64 → lb v b = B (m + b) y) : pcs 8 (un v) = rowB (fun a b => B (m + a) b) y 64 := by
  rw [pcs_n]
  have : ∀ n, n ≤ 64 → cbn (un v) n = rowB (fun a b => B (m + a) b) y n := by
    intro n
    induction n with
    | zero => intro _; rfl
    | succ n ih =>
      intro hn
      show cbn (un v) n + un v / 2 ^ n % 2 = rowB (fun a b => B (m + a) b) y n + (if B (m + n) y = true then 1 else 0)
      rw [ih (by omega), ← h n (by omega), lb_un]
      have := Nat.mod_two_eq_zero_or_one (un v / 2 ^ n)
      rcases this with e | e
      · rw [e]
        rfl
      · rw [e]
        rfl
  exact this 64 (Nat.le_refl _)
theorem rowB_far {B : Nat → Nat → Bool} {y W : Nat} (h : ∀ x, W ≤ x → B x y = false) : ∀ n, rowB B y (W + n) = rowB B y W := by
  intro n
  induction n with
  | zero => rfl
  | succ n ih =>
    show rowB B y (W + n) + (if B (W + n) y = true then 1 else 0) = _
    rw [ih, h _ (by omega)]
    rfl
/-- before each word of darkCount -/
def dcI (D : Nat → Nat → Bool) (H : Nat) (n : Nat) (s : Int32 × Int32) : Prop := ∃ i : Nat, i + n = 8 * H ∧ s.2 = nI i ∧ s.1 = nI (allB D 512 (i / 8) + rowB D (i / 8) (64 * (i % 8)))
theorem allB_W {D : Nat → Nat → Bool} {W : Nat} (hW : W ≤ 512) (h : ∀ x y, W ≤ x → D x y = false) : ∀ n, allB D 512 n = allB D W n := by
  intro n
  induction n with
  | zero => rfl
  | succ n ih =>
    show allB D 512 n + rowB D n 512 = allB D W n + rowB D n W
    rw [ih]
    have := rowB_far (B := D) (y := n) (W := W) (fun x hx => h x n hx) (512 - W)
    rw [show W + (512 - W) = 512 by omega] at this
    rw [this]
theorem s_darkCount {w : Bool} {M : im_M} {W H : Nat} {D : Nat → Nat → Bool} (q : DH w M W H D) : f_HSheet_darkCount w M = some (nI (allB D W H)) := by
  have hW := q.1
  have d1 := q.2.2.1
  have hfar : ∀ x y, W ≤ x → D x y = false := by
    intro x y hx
    cases hd : D x y with
    | false => rfl
    | true =>
      have := d1 x y hd
      omega
  unfold f_HSheet_darkCount
  have e : ed (lp (uc2 (f_HSheet_darkCount_L4 w M)) (0, 0)) (fun n => n = nI (allB D W H)) := by
    refine lp_inv (dcI D H) ?_ (k := 8 * H) ⟨0, by omega, rfl, rfl⟩
    rintro n ⟨a, i'⟩ ⟨i, hi, e1, e2⟩
    replace e1 : i' = nI i := e1
    replace e2 : a = nI (allB D 512 (i / 8) + rowB D (i / 8) (64 * (i % 8))) := e2
    subst e1 e2
    show ed (f_HSheet_darkCount_L4 w M _ (nI i)) _
    unfold f_HSheet_darkCount_L4
    have e8 : im_i M 28 1 * 8 = nI (8 * H) := by rw [q.2.1.2, nI_n, nI_mul, Nat.mul_comm]
    rw [e8]
    by_cases h : 8 * H ≤ i
    · have hi8 : i = 8 * H := by omega
      subst hi8
      rw [if_pos (nI_le (Nat.le_refl _) (by omega))]
      refine lpo_r ?_
      rw [show 8 * H / 8 = H by omega, show 8 * H % 8 = 0 by omega, allB_W hW.2.1 hfar]
      rfl
    · have hi2 : i < 8 * H := by omega
      rw [if_neg (nI_ge hi2 (by omega)), gd_pos (by rw [inb_nI (by omega)]; omega), nI_clamp (by omega), bit_n.1, bd1_s, nI_1, nI_add]
      have ew : pcs 8 (un (im_l M (sw w) i)) = rowB (fun a b => D (64 * (i % 8) + a) b) (i / 8) 64 := by
        refine word_row (fun b hb => ?_)
        have := q.2.2.2 (i / 8) (i % 8) b (by omega) (by omega) hb
        rw [show 8 * (i / 8) + i % 8 = i by omega] at this
        exact this
      rw [ew]
      refine lpo_l (8 * H - (i + 1)) (by omega) ⟨i + 1, by omega, rfl, ?_⟩
      show nI _ = nI _
      congr 1
      have ra := rowB_add (B := D) (y := i / 8) (64 * (i % 8)) 64
      by_cases c : i % 8 = 7
      · have k1 : (i + 1) / 8 = i / 8 + 1 := by omega
        have k2 : (i + 1) % 8 = 0 := by omega
        rw [k1, k2]
        rw [c] at ra ⊢
        show _ = allB D 512 (i / 8) + rowB D (i / 8) 512 + rowB D (i / 8 + 1) 0
        have z0 : rowB D (i / 8 + 1) 0 = 0 := rfl
        rw [z0]
        have e512 : rowB D (i / 8) 512 = rowB D (i / 8) (64 * 7) + rowB (fun a b => D (64 * 7 + a) b) (i / 8) 64 := ra
        rw [e512]
        omega
      · have k1 : (i + 1) / 8 = i / 8 := by omega
        have k2 : 64 * ((i + 1) % 8) = 64 * (i % 8) + 64 := by omega
        rw [k1, k2, ra]
        omega
  obtain ⟨n, en, rfl⟩ := e
  rw [en, bd1_s]
