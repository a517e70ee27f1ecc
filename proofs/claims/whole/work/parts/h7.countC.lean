/-! THE CLASS COUNTS ON -/
theorem i64_neg {x : Int64} : (x < 0) = (x.toBitVec.msb = true) := by
  apply propext
  rw [Int64.lt_iff_toInt_lt, BitVec.msb_eq_toInt, decide_eq_true_iff]
  exact Iff.rfl
theorem lZ_xor0 {a u : Int} (ha : -9223372036854775808 ≤ a ∧ a < 9223372036854775808) (hu : 0 < u ∧ u < 9223372036854775808) : (lZ a ^^^ lZ u < 0) = (a < 0) := by
  have e0 : (0 : Int64) = lZ 0 := rfl
  have m : ∀ z : Int, -9223372036854775808 ≤ z → z < 9223372036854775808 → (lZ z).toBitVec.msb = decide (z < 0) := fun z h1 h2 => by
    have : (lZ z < 0) = ((lZ z).toBitVec.msb = true) := i64_neg
    rw [e0, lZ_lt ⟨h1, h2⟩ (by omega)] at this
    cases hm : (lZ z).toBitVec.msb with
    | true => rw [hm] at this; exact (decide_eq_true (this.mpr rfl)).symm
    | false => rw [hm] at this; exact (decide_eq_false (fun y => by have := this.mp y; cases this)).symm
  rw [i64_neg]
  show (((lZ a).toBitVec ^^^ (lZ u).toBitVec).msb = true) = _
  rw [BitVec.msb_xor, m a ha.1 ha.2, m u (by omega) hu.2, show decide (u < 0) = false from decide_eq_false (by omega)]
  simp
theorem s_floorMod {M : im_M} {a : Int} {u : Nat} (ha : -1000000000000 ≤ a ∧ a ≤ 1000000000000) (hu : 1 ≤ u ∧ u ≤ 1000000000) : f_Math_floorMod (lZ a) (lZ ((u : Nat) : Int)) M = some (lZ (((a % ((u : Nat) : Int)).toNat : Nat) : Int)) := by
  have e0 : (0 : Int64) = lZ 0 := rfl
  unfold f_Math_floorMod
  have nz : ¬ lZ ((u : Nat) : Int) = 0 := by
    rw [e0, lZ_eq (by omega) (by omega)]
    omega
  have c1 : (0 ≤ lg_cmp (lZ a ^^^ lZ ((u : Nat) : Int)) 0) = ¬ a < 0 := by rw [lc_ge, lZ_xor0 (by omega) (by omega)]
  have ep : 0 ≤ a % ((u : Nat) : Int) := Int.emod_nonneg _ (by omega)
  have el : a % ((u : Nat) : Int) < ((u : Nat) : Int) := Int.emod_lt_of_pos _ (by omega)
  have er : (((a % ((u : Nat) : Int)).toNat : Nat) : Int) = a % ((u : Nat) : Int) := Int.toNat_of_nonneg ep
  rw [gd_pos nz, er]
  simp only [c1]
  by_cases d : a < 0
  · rw [if_neg (fun z => z d)]
    obtain ⟨b, rfl⟩ : ∃ b : Nat, a = -((b : Nat) : Int) := ⟨(-a).toNat, by omega⟩
    have td : (-((b : Nat) : Int)).tdiv ((u : Nat) : Int) = -(((b / u : Nat) : Nat) : Int) := by
      rw [Int.neg_tdiv, ← Int.ofNat_tdiv]
    have dm := Nat.div_add_mod b u
    have dl : b / u ≤ b := Nat.div_le_self _ _
    have ml := Nat.mod_lt b (show 0 < u by omega)
    generalize b / u = qd at td dm dl
    generalize b % u = rm at dm ml
    have eb : ((b : Nat) : Int) = ((u : Nat) : Int) * ((qd : Nat) : Int) + ((rm : Nat) : Int) := by rw [← Int.natCast_mul, ← Int.natCast_add, dm]
    have em : (-((b : Nat) : Int)) % ((u : Nat) : Int) = if rm = 0 then 0 else ((u : Nat) : Int) - ((rm : Nat) : Int) := by
      by_cases z : rm = 0
      · rw [if_pos z]
        rw [z] at eb
        have : -((b : Nat) : Int) = ((u : Nat) : Int) * (-((qd : Nat) : Int)) := by rw [eb, Int.mul_neg]; omega
        rw [this]
        exact Int.mul_emod_right _ _
      · rw [if_neg z]
        have : -((b : Nat) : Int) = (((u : Nat) : Int) - ((rm : Nat) : Int)) + ((u : Nat) : Int) * (-((qd : Nat) : Int) - 1) := by
          rw [eb, Int.mul_sub, Int.mul_neg]
          omega
        rw [this, Int.add_mul_emod_self_left]
        exact Int.emod_eq_of_lt (by omega) (by omega)
    have qv : lZ (-((b : Nat) : Int)) - lZ (-((b : Nat) : Int)) / lZ ((u : Nat) : Int) * lZ ((u : Nat) : Int) = lZ (-((rm : Nat) : Int)) := by
      rw [lZ_div (by omega) (by omega) (by rw [td]; omega), td, lZ_mul, lZ_sub]
      congr 1
      rw [Int.neg_mul, Int.mul_comm ((qd : Nat) : Int)]
      omega
    rw [qv, em]
    have c2 : (lg_cmp (lZ (-((rm : Nat) : Int))) 0 = 0) = (rm = 0) := by
      rw [lc_eq, e0, lZ_eq (by omega) (by omega)]
      apply propext
      omega
    simp only [c2]
    by_cases z : rm = 0
    · rw [if_pos z, if_pos z, z]
      rfl
    · rw [if_neg z, if_neg z, lZ_add]
      congr 2
      omega
  · rw [if_pos d]
    have td : a.tdiv ((u : Nat) : Int) = a / ((u : Nat) : Int) := Int.tdiv_eq_ediv_of_nonneg (by omega)
    have b1 : 0 ≤ a / ((u : Nat) : Int) := Int.ediv_nonneg (by omega) (by omega)
    have b2 : a / ((u : Nat) : Int) ≤ a := Int.ediv_le_self _ (by omega)
    rw [lZ_div (by omega) (by omega) (by rw [td]; omega), td, lZ_mul, lZ_sub]
    congr 2
    have := Int.mul_ediv_add_emod a ((u : Nat) : Int)
    rw [Int.mul_comm] at this
    omega
/-- the bytes of a row as the class holds them -/
def CB (f : Nat → Int32) (B : Nat → Nat) (n : Nat) : Prop := ∀ i, i < n → B i < 256 ∧ f i &&& 255 = nI (B i) ∧ isB (f i)
theorem CB_d {f : Nat → Int32} {B : Nat → Nat} {n i : Nat} (h : CB f B n) (hi : i < n) : (48 ≤ B i ∧ B i ≤ 57 → f i = nI (B i) ∧ ¬ f i < 48 ∧ ¬ 57 < f i) ∧ (¬ (48 ≤ B i ∧ B i ≤ 57) → f i < 48 ∨ 57 < f i) := by
  obtain ⟨b1, b2, b3⟩ := h i hi
  obtain ⟨u, hu, eu, d, _, _, hc⟩ := isB_u b3 rfl
  have ub : u = B i := by
    rw [b2] at eu
    exact ((nI_eq (by omega) (by omega)).mp eu).symm
  subst ub
  rw [eu] at d
  constructor
  · intro z
    have nz : ¬ dgB (f i) = 0 := by rw [d, dgB_n hu]; exact fun y => y z
    refine ⟨(hc (B i) (by omega)).mpr eu, fun y => nz ?_, fun y => nz ?_⟩
    · unfold dgB; rw [if_pos y]
    · unfold dgB; rw [if_pos y]; split <;> rfl
  · intro z
    have nz : dgB (f i) = 0 := by rw [d, dgB_n hu]; exact z
    by_cases a : f i < 48
    · exact Or.inl a
    · by_cases b : 57 < f i
      · exact Or.inr b
      · unfold dgB at nz
        rw [if_neg a, if_neg b] at nz
        exact absurd nz (by decide)
theorem tdg_end {B : Nat → Nat} {n : Nat} (a : ¬ 9 ≤ tdg B n) (b : ¬ n ≤ tdg B n) : ¬ (48 ≤ B (n - 1 - tdg B n) ∧ B (n - 1 - tdg B n) ≤ 57) := by
  intro z
  have this : isD B (n - 1 - tdg B n) = true := decide_eq_true z
  unfold tdg at this a b
  cases e : fdp (fun k => isD B (n - 1 - k) = false) (if n ≤ 9 then n else 9) with
  | none =>
    rw [e] at a b
    replace a : ¬ 9 ≤ (if n ≤ 9 then n else 9) := a
    replace b : ¬ n ≤ (if n ≤ 9 then n else 9) := b
    split at a <;> split at b <;> omega
  | some j =>
    rw [e] at this
    have h2 := (fdp_some _ _ e).2.1
    rw [h2] at this
    cases this
theorem s_digitsC {M : im_M} {B : Nat → Nat} {n : Nat} {v3 : Int64} (hn : n ≤ 200) (hB : CB (im_i M 12) B n) : lp (uc3 (f_HOrders_countOn_L9 (nI n) v3 M)) (nI n, 0, 1) = some (nI (n - tdg B n), lZ ((vlD B n (tdg B n) : Nat) : Int), lZ ((10 ^ tdg B n : Nat) : Int)) := by
  have tl := tdg_le (B := B) (n := n)
  refine lp_row (b := uc3 (f_HOrders_countOn_L9 (nI n) v3 M)) (fun k => (nI (n - k), lZ ((vlD B n k : Nat) : Int), lZ ((10 ^ k : Nat) : Int))) (tdg B n) (fun k hk => ?_) ?_
  · show f_HOrders_countOn_L9 (nI n) v3 M (nI (n - k)) _ _ = _
    unfold f_HOrders_countOn_L9
    have c0 : (nI (n - k) ≤ 0) = (n - k ≤ 0) := nIl (c := 0) (by omega) (by omega)
    have ed : nI n - nI (n - k) = nI k := by rw [nI_sb (by omega)]; congr 1; omega
    have c9 : ((9 : Int32) ≤ nI k) = (9 ≤ k) := nIl (x := 9) (by omega) (by omega)
    have e1 : nI (n - k) - 1 = nI (n - 1 - k) := by rw [nI_m1 (by omega)]; congr 1; omega
    have e2 : nI (n - k) + (-1) = nI (n - 1 - k) := by rw [← Int32.sub_eq_add_neg]; exact e1
    have hd := tdg_d hk
    have b := (CB_d hB (i := n - 1 - k) (by omega)).1 hd
    simp only [c0, ed, c9, e1, e2]
    rw [if_neg (by omega), if_neg (by omega), gd_pos (by rw [inb_nI (by omega)]; omega), gd_pos (by rw [inb_nI (by omega)]; omega), gd_pos (by rw [inb_nI (by omega)]; omega), nI_clamp (by omega), if_neg b.2.1, if_neg b.2.2, b.1]
    have e48 : (nI (B (n - 1 - k)) - 48).toInt64 = lZ ((B (n - 1 - k) - 48 : Nat) : Int) := by
      rw [nI_sm 48 (by show 48 ≤ _; omega)]
      show (nI (B (n - 1 - k) - 48)).toInt64 = _
      rw [iZ_nI, iZ_l (by omega)]
    have e10 : (10 : Int64) = lZ 10 := rfl
    rw [e48, e10, lZ_mul, lZ_add, lZ_mul, show n - 1 - k = n - (k + 1) by omega]
    show some (Sum.inl (nI (n - (k + 1)), lZ _, lZ _)) = some (Sum.inl (nI (n - (k + 1)), lZ ((vlD B n k + 10 ^ k * (B (n - 1 - k) - 48) : Nat) : Int), lZ ((10 ^ (k + 1) : Nat) : Int)))
    rw [Nat.pow_succ, Int.natCast_add, Int.natCast_mul (10 ^ k) (B (n - 1 - k) - 48), Int.natCast_mul (10 ^ k) 10, show n - 1 - k = n - (k + 1) by omega]
    rfl
  · show f_HOrders_countOn_L9 (nI n) v3 M (nI (n - tdg B n)) _ _ = _
    unfold f_HOrders_countOn_L9
    have c0 : (nI (n - tdg B n) ≤ 0) = (n - tdg B n ≤ 0) := nIl (c := 0) (by omega) (by omega)
    have ed : nI n - nI (n - tdg B n) = nI (tdg B n) := by rw [nI_sb (by omega)]; congr 1; omega
    have c9 : ((9 : Int32) ≤ nI (tdg B n)) = (9 ≤ tdg B n) := nIl (x := 9) (by omega) (by omega)
    simp only [c0, ed, c9]
    by_cases b : n - tdg B n ≤ 0
    · rw [if_pos b]
    · rw [if_neg b]
      by_cases a : 9 ≤ tdg B n
      · rw [if_pos a]
      · have e1 : nI (n - tdg B n) - 1 = nI (n - 1 - tdg B n) := by rw [nI_m1 (by omega)]; congr 1; omega
        rw [if_neg a, e1, gd_pos (by rw [inb_nI (by omega)]; omega), gd_pos (by rw [inb_nI (by omega)]; omega), nI_clamp (by omega)]
        rcases (CB_d hB (i := n - 1 - tdg B n) (by omega)).2 (tdg_end a (by omega)) with y | y
        · rw [if_pos y]
        · by_cases y2 : im_i M 12 (n - 1 - tdg B n) < 48
          · rw [if_pos y2]
          · rw [if_neg y2, if_pos y]
theorem s_backC {M : im_M} {B : Nat → Nat} {n T y : Nat} (hn : n ≤ 200) (hT : T ≤ n) (hy : y < 3000000000) (hB : CB (im_i M 12) B n) : ed (lp (uc3 (f_HOrders_countOn_L100 (nI (n - T)))) (lZ ((y : Nat) : Int), nI n - 1, M)) (fun r => fr (2 ^ 12) [] M r ∧ CB (im_i r 12) (fun i => if n - T ≤ i then 48 + y / 10 ^ (n - 1 - i) % 10 else B i) n) := by
  refine lp_inv (fun m (s : Int64 × Int32 × im_M) => ∃ k : Nat, k + m = T ∧ s.1 = lZ ((y / 10 ^ k : Nat) : Int) ∧ s.2.1 = nI (n - k) - 1 ∧ fr (2 ^ 12) [] M s.2.2 ∧ CB (im_i s.2.2 12) (fun i => if n - k ≤ i then 48 + y / 10 ^ (n - 1 - i) % 10 else B i) n) ?_ (k := T) ⟨0, by omega, by rw [Nat.pow_zero, Nat.div_one], rfl, fr_refl, fun i hi => by
    show (if n - 0 ≤ i then _ else B i) < 256 ∧ _ = nI (if n - 0 ≤ i then _ else B i) ∧ _
    rw [if_neg (by omega)]
    exact hB i hi⟩
  rintro m ⟨x30, x31, M32⟩ ⟨k, hk, e1, e2, g, h⟩
  replace e1 : x30 = lZ ((y / 10 ^ k : Nat) : Int) := e1
  replace e2 : x31 = nI (n - k) - 1 := e2
  replace g : fr (2 ^ 12) [] M M32 := g
  replace h : CB (im_i M32 12) (fun i => if n - k ≤ i then 48 + y / 10 ^ (n - 1 - i) % 10 else B i) n := h
  subst e1 e2
  show ed (f_HOrders_countOn_L100 (nI (n - T)) _ (nI (n - k) - 1) M32) _
  unfold f_HOrders_countOn_L100
  have cc : (nI (n - k) - 1 < nI (n - T)) = (T ≤ k) := by
    have e : nI (n - k) - 1 = iZ (((n - k : Nat) : Int) - 1) := by rw [iZ_nI, show (1 : Int32) = iZ 1 from rfl, iZ_sub]
    rw [e, iZ_nI, iZ_lt (by omega) (by omega)]
    apply propext
    omega
  simp only [cc]
  by_cases c : T ≤ k
  · rw [if_pos c]
    obtain rfl : k = T := by omega
    exact lpo_r ⟨g, h⟩
  · have hw : y / 10 ^ k ≤ y := Nat.div_le_self _ _
    have e10 : (10 : Int64) = lZ ((10 : Nat) : Int) := rfl
    have e48 : (48 : Int64) = lZ ((48 : Nat) : Int) := rfl
    have ed10 : lZ ((y / 10 ^ k : Nat) : Int) / 10 = lZ ((y / 10 ^ (k + 1) : Nat) : Int) := by
      rw [e10, lZ_divN (by omega) (by omega) (by omega), Nat.pow_succ, Nat.div_div_eq_div_mul]
    have er : ((48 : Int64) + (lZ ((y / 10 ^ k : Nat) : Int) - lZ ((y / 10 ^ k : Nat) : Int) / 10 * 10)).toInt32 = nI (48 + y / 10 ^ k % 10) := by
      have dm := Nat.div_add_mod (y / 10 ^ k) 10
      have dl : y / 10 ^ (k + 1) = y / 10 ^ k / 10 := by rw [Nat.pow_succ, Nat.div_div_eq_div_mul]
      rw [ed10, e10, e48, lZ_mul, lZ_sub, lZ_add, dl, lZ_i (by omega), iZ_nI]
      congr 1
      omega
    have ep : nI (n - k) - 1 = nI (n - 1 - k) := by rw [nI_m1 (by omega)]; congr 1; omega
    have em : nI (n - 1 - k) + (-1) = nI (n - (k + 1)) - 1 := by rw [← Int32.sub_eq_add_neg, show n - (k + 1) = n - 1 - k by omega]
    have v9 : y / 10 ^ k % 10 < 10 := Nat.mod_lt _ (by omega)
    rw [if_neg c, ep, gd_pos (by rw [inb_nI (by omega)]; omega), nI_clamp (by omega), er, ed10, em]
    refine lpo_l (m - 1) (by omega) ⟨k + 1, by omega, rfl, rfl, fr_I (by decide) g, fun i hi => ?_⟩
    show (if n - (k + 1) ≤ i then 48 + y / 10 ^ (n - 1 - i) % 10 else B i) < 256 ∧ (if i = n - 1 - k then vp_nar .byte ((Int32.toInt8 (nI (48 + y / 10 ^ k % 10))).toInt32) else im_i M32 12 i) &&& 255 = nI (if n - (k + 1) ≤ i then 48 + y / 10 ^ (n - 1 - i) % 10 else B i) ∧ isB (if i = n - 1 - k then vp_nar .byte ((Int32.toInt8 (nI (48 + y / 10 ^ k % 10))).toInt32) else im_i M32 12 i)
    by_cases e : i = n - 1 - k
    · rw [if_pos e, if_pos (by omega), e, show n - 1 - (n - 1 - k) = k by omega]
      exact ⟨by omega, nar_by ⟨48 + y / 10 ^ k % 10, by omega⟩, isB_nar⟩
    · have hh := h i hi
      replace hh : (if n - k ≤ i then 48 + y / 10 ^ (n - 1 - i) % 10 else B i) < 256 ∧ im_i M32 12 i &&& 255 = nI (if n - k ≤ i then 48 + y / 10 ^ (n - 1 - i) % 10 else B i) ∧ isB (im_i M32 12 i) := hh
      rw [if_neg e]
      by_cases d : n - k ≤ i
      · rw [if_pos d] at hh
        rw [if_pos (by omega)]
        exact hh
      · rw [if_neg d] at hh
        rw [if_neg (by omega)]
        exact hh
theorem s_countOn {M : im_M} {B : Nat → Nat} {n : Nat} {sc : Int} (hn : n ≤ 200) (hB : CB (im_i M 12) B n) (hs : -2000 ≤ sc ∧ sc ≤ 2000) : ed (f_HOrders_countOn (nI n) (lZ sc) M) (fun r => fr (2 ^ 12) [] M r ∧ CB (im_i r 12) (cnB B n sc) n) := by
  have tl := tdg_le (B := B) (n := n)
  have pw := pow_le9 tl.2
  have vl := vlD_lt (B := B) (n := n) (k := tdg B n) (Nat.le_refl _)
  unfold f_HOrders_countOn
  rw [s_digitsC hn hB, bd3_s, lZ_add, s_floorMod (by omega) pw, bd1_s]
  have ev : ((((vlD B n (tdg B n) : Nat) : Int) + sc) % ((10 ^ tdg B n : Nat) : Int)).toNat = cnV B n sc := rfl
  rw [ev]
  have cl : cnV B n sc < 10 ^ tdg B n := by
    unfold cnV
    have h1 := Int.emod_lt_of_pos (((vlD B n (tdg B n) : Nat) : Int) + sc) (show (0 : Int) < ((10 ^ tdg B n : Nat) : Int) by omega)
    have h2 := Int.emod_nonneg (((vlD B n (tdg B n) : Nat) : Int) + sc) (show ((10 ^ tdg B n : Nat) : Int) ≠ 0 by omega)
    show ((((vlD B n (tdg B n) : Nat) : Int) + sc) % ((10 ^ tdg B n : Nat) : Int)).toNat < _
    omega
  apply bd1_mk
  refine ed_mono (s_backC (T := tdg B n) hn tl.1 (by omega) hB) ?_
  rintro r ⟨f, h⟩
  refine ed_mk ⟨f, fun i hi => ?_⟩
  have hh := h i hi
  have ec : cnB B n sc i = if n - tdg B n ≤ i then 48 + cnV B n sc / 10 ^ (n - 1 - i) % 10 else B i := by
    unfold cnB
    by_cases d : n - tdg B n ≤ i
    · rw [if_pos ⟨d, hi⟩, if_pos d]
    · rw [if_neg (fun z => d z.1), if_neg d]
  rw [ec]
  exact hh
