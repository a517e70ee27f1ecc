/-! BITS READ, BY BOTH -/
def dB (D : Nat → Nat) (p : Nat) : Bool := (D (p / 8)).testBit (7 - p % 8)
def bv (D : Nat → Nat) (p : Nat) : Nat → Nat
  | 0 => 0
  | w + 1 => 2 * bv D p w + (dB D (p + w)).toNat
theorem bv_lt {D : Nat → Nat} {p : Nat} : ∀ w, bv D p w < 2 ^ w := by
  intro w
  induction w with
  | zero => show 0 < 1; omega
  | succ w ih =>
    show 2 * bv D p w + (dB D (p + w)).toNat < 2 ^ (w + 1)
    have := tn_1 (dB D (p + w))
    rw [Nat.pow_succ]
    omega
theorem ib_shl {v : Int32} {j k : Nat} (hj : j < 32) (hk : k < 32) : ib (v <<< (iZ (j : Int) &&& 31)) k = (decide (j ≤ k) && ib v (k - j)) := by
  rw [iA31 hj]
  unfold ib
  show (v.toBitVec <<< ((iZ (j : Int)).toBitVec.smod 32)).getLsbD k = _
  rw [BitVec.shiftLeft_eq', sm32 hj, BitVec.getLsbD_shiftLeft]
  by_cases h1 : k < j
  · simp [h1, hk]; omega
  · simp [h1, hk]; omega
theorem ib_sh1 {v : Int32} {k : Nat} (hk : k < 32) : ib (v <<< (1 &&& 31 : Int32) : Int32) k = (decide (1 ≤ k) && ib v (k - 1)) := ib_shl (j := 1) (by omega) hk
theorem sh1_or {v : Nat} {b : Bool} : ((nI v <<< (1 &&& 31 : Int32) : Int32) ||| nI b.toNat) = nI (2 * v + b.toNat) := ib_ext fun k hk => by
  have hb := tn_1 b
  rw [ib_or, ib_sh1 hk, ib_nI (v := b.toNat) hk, ib_nI (v := 2 * v + b.toNat) hk, ib_nI (v := v) (k := k - 1) (by omega)]
  cases k with
  | zero =>
    rw [decide_eq_false (by omega), Bool.false_and, Bool.false_or, Nat.testBit_zero, Nat.testBit_zero]
    congr 1
    exact propext ⟨fun z => by omega, fun z => by omega⟩
  | succ k =>
    rw [decide_eq_true (by omega), Bool.true_and, Nat.add_sub_cancel, Nat.testBit_succ b.toNat, Nat.testBit_succ (2 * v + b.toNat), show b.toNat / 2 = 0 by omega, Nat.zero_testBit, Bool.or_false, show (2 * v + b.toNat) / 2 = v by omega]
theorem ib255n {x : Int32} {b k : Nat} (h : x &&& 255 = nI b) (hk : k < 8) : ib x k = b.testBit k := by
  have e : ib (x &&& 255) k = ib (nI b) k := by rw [h]
  have e255 : ib 255 k = true := (show ∀ k : Fin 8, ib 255 k.val = true by decide +kernel) ⟨k, hk⟩
  rw [ib_and, e255, Bool.and_true, ib_nI (by omega)] at e
  exact e
theorem bit_at {x : Int32} {p : Nat} {D : Nat → Nat} (hp : p < 1000000) (h : x &&& 255 = nI (D (p / 8))) : ((x >>> (((7 : Int32) - (nI p - nI p / 8 * 8)) &&& 31 : Int32) : Int32) &&& 1) = nI (dB D p).toNat := by
  have r8 : nI p - nI p / 8 * 8 = nI (p % 8) := nI_rem (b := 8) (by omega) (by omega) (by omega)
  have s7 : (7 : Int32) - nI (p % 8) = iZ ((7 - p % 8 : Nat) : Int) := by rw [show (7 : Int32) = nI 7 from rfl, nI_sb (by omega), iZ_nI]
  rw [r8, s7, i_and1, ib_shr (by omega), ib255n h (by omega)]
  show (if (dB D p) = true then (1 : Int32) else 0) = _
  cases dB D p <;> rfl
def CDc (M : im_M) (h : Nat) (D : Nat → Nat) (p : Nat) : Prop := im_i M 39 5 = nI p ∧ im_i M 39 6 = nI (8 * h) ∧ ∀ i, i < h → im_i M 40 i &&& 255 = nI (D i)
def CDr (M : im_M) (h : Nat) (D : Nat → Nat) (p : Nat) : Prop := im_i M 108 29 = nI p ∧ im_i M 108 30 = nI (8 * h) ∧ ∀ i, i < h → im_i M 119 i &&& 255 = nI (D i)
theorem s_takeC {M : im_M} {h p w : Nat} {D : Nat → Nat} (q : CDc M h D p) (hh : h ≤ 2956) (hp : p + w ≤ 8 * h) : ed (f_HSegments_take (nI w) M) (fun r => r.1 = nI (bv D p w) ∧ CDc r.2 h D (p + w) ∧ fr 0 [(39, 5)] M r.2) := by
  unfold f_HSegments_take
  apply bd2_mk
  refine ed_mono (lp_inv (fun m (s : Int32 × Int32 × im_M) => ∃ k : Nat, k + m = w ∧ s.1 = nI (bv D p k) ∧ s.2.1 = nI k ∧ CDc s.2.2 h D (p + k) ∧ fr 0 [(39, 5)] M s.2.2) (Q := fun (r : Int32 × im_M) => r.1 = nI (bv D p w) ∧ CDc r.2 h D (p + w) ∧ fr 0 [(39, 5)] M r.2) ?_ (k := w) ⟨0, by omega, rfl, rfl, q, fr_refl⟩) (fun r h => ed_mk h)
  rintro m ⟨x3, x4, M5⟩ ⟨k, hk, e1, e2, c5, f5⟩
  replace e1 : x3 = nI (bv D p k) := e1
  replace e2 : x4 = nI k := e2
  replace c5 : CDc M5 h D (p + k) := c5
  replace f5 : fr 0 [(39, 5)] M M5 := f5
  subst e1 e2
  show ed (f_HSegments_take_L4 (nI w) (nI (bv D p k)) (nI k) M5) _
  unfold f_HSegments_take_L4
  rw [if_nIl (by omega) (by omega)]
  by_cases c : w ≤ k
  · rw [if_pos c]
    obtain rfl : k = w := by omega
    exact lpo_r ⟨rfl, c5, f5⟩
  · obtain ⟨a1, a2, a3⟩ := c5
    have d8 : nI (p + k) / 8 = nI ((p + k) / 8) := nI_div (b := 8) (by omega) (by omega) (by omega)
    have bt := bit_at (x := im_i M5 40 ((p + k) / 8)) (D := D) (p := p + k) (by omega) (a3 _ (by omega))
    rw [if_neg c, a1, gd_pos (by rw [d8, inb_nI (by omega)]; omega), show Int32.toNatClampNeg (nI (p + k) / 8) = (p + k) / 8 by rw [d8, nI_clamp (by omega)], bt, sh1_or]
    refine lpo_l (m - 1) (by omega) ⟨k + 1, by omega, rfl, nI_add k 1, ⟨?_, ?_, fun i hi => ?_⟩, fr_F (by decide) f5⟩
    · show im_i (im_setI M5 39 5 _) 39 5 = _
      rw [hit]; exact nI_add (p + k) 1
    · show im_i (im_setI M5 39 5 _) 39 6 = _
      rw [sk1 (by omega)]; exact a2
    · show im_i (im_setI M5 39 5 _) 40 i &&& 255 = _
      rw [sk1 (by omega)]; exact a3 i hi
theorem s_nextR {M : im_M} {h p w : Nat} {D : Nat → Nat} (q : CDr M h D p) (hh : h ≤ 2956) (hp : p + w ≤ 8 * h) : ed (f_MSquareRows_next (nI w) M) (fun r => r.1 = nI (bv D p w) ∧ CDr r.2 h D (p + w) ∧ fr 0 [(108, 29)] M r.2) := by
  unfold f_MSquareRows_next
  rw [q.1, q.2.1, nI_add, if_nIl (by omega) (by omega), if_pos hp]
  apply bd2_mk
  refine ed_mono (lp_inv (fun m (s : Int32 × Int32 × im_M) => ∃ k : Nat, k + m = w ∧ s.1 = nI (bv D p k) ∧ s.2.1 = nI k ∧ CDr s.2.2 h D (p + k) ∧ fr 0 [(108, 29)] M s.2.2) (Q := fun (r : Int32 × im_M) => r.1 = nI (bv D p w) ∧ CDr r.2 h D (p + w) ∧ fr 0 [(108, 29)] M r.2) ?_ (k := w) ⟨0, by omega, rfl, rfl, q, fr_refl⟩) (fun r h => ed_mk h)
  rintro m ⟨x3, x4, M5⟩ ⟨k, hk, e1, e2, c5, f5⟩
  replace e1 : x3 = nI (bv D p k) := e1
  replace e2 : x4 = nI k := e2
  replace c5 : CDr M5 h D (p + k) := c5
  replace f5 : fr 0 [(108, 29)] M M5 := f5
  subst e1 e2
  show ed (f_MSquareRows_next_L24 (nI w) (nI (bv D p k)) (nI k) M5) _
  unfold f_MSquareRows_next_L24
  rw [if_nIl (by omega) (by omega)]
  by_cases c : w ≤ k
  · rw [if_pos c]
    obtain rfl : k = w := by omega
    exact lpo_r ⟨rfl, c5, f5⟩
  · obtain ⟨a1, a2, a3⟩ := c5
    have d8 : nI (p + k) / 8 = nI ((p + k) / 8) := nI_div (b := 8) (by omega) (by omega) (by omega)
    have bt := bit_at (x := im_i M5 119 ((p + k) / 8)) (D := D) (p := p + k) (by omega) (a3 _ (by omega))
    have m2 : (2 : Int32) * nI (bv D p k) = nI (2 * bv D p k) := nI_m 2
    rw [if_neg c, a1, gd_pos (by rw [d8, inb_nI (by omega)]; omega), show Int32.toNatClampNeg (nI (p + k) / 8) = (p + k) / 8 by rw [d8, nI_clamp (by omega)], bt, m2, nI_add]
    refine lpo_l (m - 1) (by omega) ⟨k + 1, by omega, rfl, nI_add k 1, ⟨?_, ?_, fun i hi => ?_⟩, fr_F (by decide) f5⟩
    · show im_i (im_setI M5 108 29 _) 108 29 = _
      rw [hit]; exact nI_add (p + k) 1
    · show im_i (im_setI M5 108 29 _) 108 30 = _
      rw [sk1 (by omega)]; exact a2
    · show im_i (im_setI M5 108 29 _) 119 i &&& 255 = _
      rw [sk1 (by omega)]; exact a3 i hi
theorem s_nextN {M : im_M} {h p w : Nat} {D : Nat → Nat} (q : CDr M h D p) (hh : h ≤ 2956) (hp : 8 * h < p + w) (hl : p + w < 1000000) : f_MSquareRows_next (nI w) M = some (0, im_setI M 108 31 4) := by
  unfold f_MSquareRows_next
  rw [q.1, q.2.1, nI_add, if_nIl (by omega) (by omega), if_neg (by omega)]
/-! DIGITS OF A GROUP -/
def chV (d : Nat) : Nat := [48, 49, 50, 51, 52, 53, 54, 55, 56, 57, 65, 66, 67, 68, 69, 70, 71, 72, 73, 74, 75, 76, 77, 78, 79, 80, 81, 82, 83, 84, 85, 86, 87, 88, 89, 90, 32, 36, 37, 42, 43, 45, 46, 47, 58].getD d 0
theorem s_charAt {M : im_M} (d : Fin 45) : f_String_charAt (nI d.val) M = some (nI (chV d.val)) := by
  unfold f_String_charAt f_String_isLatin1_1 f_StringLatin1_charAt f_String_checkIndex
  revert d
  decide +kernel
theorem s_byteOfR {M : im_M} (d : Fin 45) : f_MSquareRows_byteOf (nI d.val) M = some (nI (chV d.val)) := by
  unfold f_MSquareRows_byteOf
  revert d
  decide +kernel
theorem ch_t : ∀ d : Fin 45, chV d.val < 256 ∧ (d.val < 10 → chV d.val = 48 + d.val) := by decide +kernel
def bsW (m : Nat) : Nat := if m = 2 then 256 else bsM m
def lmV (m c : Nat) : Nat := bsW m ^ c
def sgW (m d : Nat) : Nat := if m = 2 then d else chV d
def dgV (m c x i : Nat) : Nat := sgW m (x / bsW m ^ (c - 1 - i) % bsW m)
theorem bsW_t : ∀ m : Fin 3, 10 ≤ bsW m.val ∧ bsW m.val ≤ 256 ∧ (m.val < 2 → bsW m.val = bsM m.val ∧ bsM m.val ≤ 45) := by decide +kernel
theorem s_bs {M : im_M} {m : Nat} (hm : m < 2) : f_HSegments_base (nI m) M = some (nI (bsW m)) := by
  have c : m = 0 ∨ m = 1 := by omega
  rcases c with rfl | rfl <;> rfl
theorem sg_ch {m d : Nat} (hm : m < 2) : sgW m d = chV d := if_neg (by omega)
theorem s_unpackL {M : im_M} {n x m c : Nat} (hm : m < 2) (hc : c ≤ 3) (hn : n + c ≤ 3000) (hx : x < 1000000) (q : im_i M 39 2 = nI n) : ed (lp (uc3 (f_HSegments_unpackPart_L34 (nI m) (nI c))) (nI x, nI c - 1, M)) (fun r => r.1 = nI (x / bsW m ^ c) ∧ im_i r.2 39 2 = nI n ∧ (∀ i, i < c → im_i r.2 68 (n + i) &&& 255 = nI (dgV m c x i)) ∧ (∀ j, j < n → im_i r.2 68 j = im_i M 68 j) ∧ fr (2 ^ 68) [] M r.2) := by
  have em : nI c - 1 = iZ ((c : Int) - 1) := by rw [iZ_nI, show (1 : Int32) = iZ 1 from rfl, iZ_sub]
  obtain ⟨b10, b256, bq⟩ := bsW_t ⟨m, by omega⟩
  replace b10 : 10 ≤ bsW m := b10
  replace bq : bsW m = bsM m ∧ bsM m ≤ 45 := bq hm
  have b45 : bsW m ≤ 45 := by rw [bq.1]; exact bq.2
  rw [em]
  refine lp_inv (fun k (s : Int32 × Int32 × im_M) => k ≤ c ∧ s.1 = nI (x / bsW m ^ (c - k)) ∧ s.2.1 = iZ ((k : Int) - 1) ∧ im_i s.2.2 39 2 = nI n ∧ (∀ i, k ≤ i → i < c → im_i s.2.2 68 (n + i) &&& 255 = nI (dgV m c x i)) ∧ (∀ j, j < n → im_i s.2.2 68 j = im_i M 68 j) ∧ fr (2 ^ 68) [] M s.2.2) ?_ (k := c) ⟨Nat.le_refl c, by rw [Nat.sub_self, Nat.pow_zero, Nat.div_one], rfl, q, fun i h1 h2 => by omega, fun j hj => rfl, fr_refl⟩
  rintro k ⟨x4, x5, M6⟩ ⟨hk, e1, e2, q6, g6, o6, f6⟩
  replace e1 : x4 = nI (x / bsW m ^ (c - k)) := e1
  replace e2 : x5 = iZ ((k : Int) - 1) := e2
  replace q6 : im_i M6 39 2 = nI n := q6
  replace g6 : ∀ i, k ≤ i → i < c → im_i M6 68 (n + i) &&& 255 = nI (dgV m c x i) := g6
  replace o6 : ∀ j, j < n → im_i M6 68 j = im_i M 68 j := o6
  replace f6 : fr (2 ^ 68) [] M M6 := f6
  subst e1 e2
  show ed (f_HSegments_unpackPart_L34 (nI m) (nI c) (nI (x / bsW m ^ (c - k))) (iZ ((k : Int) - 1)) M6) _
  unfold f_HSegments_unpackPart_L34
  have k0 : (iZ ((k : Int) - 1) < 0) = ((k : Int) - 1 < 0) := iZ_lt (b := 0) (by omega) (by omega)
  simp only [k0]
  by_cases z : (k : Int) - 1 < 0
  · rw [if_pos z]
    obtain rfl : k = 0 := by omega
    exact lpo_r ⟨rfl, q6, fun i hi => g6 i (by omega) hi, o6, f6⟩
  · obtain ⟨i, rfl⟩ : ∃ i, k = i + 1 := ⟨k - 1, by omega⟩
    have ei : iZ (((i + 1 : Nat) : Int) - 1) = nI i := by rw [iZ_nI]; congr 1; omega
    obtain ⟨y, hy⟩ : ∃ y, y = x / bsW m ^ (c - (i + 1)) := ⟨_, rfl⟩
    have yl : y ≤ x := by rw [hy]; exact Nat.div_le_self _ _
    have ym : y % bsW m < bsW m := Nat.mod_lt _ (by omega)
    have r : nI y - nI y / nI (bsW m) * nI (bsW m) = nI (y % bsW m) := nI_rem (by omega) (by omega) (by omega)
    have cA : f_String_charAt (nI (y % bsW m)) M6 = some (nI (chV (y % bsW m))) := s_charAt ⟨y % bsW m, by omega⟩
    have c256 : chV (y % bsW m) < 256 := (ch_t ⟨y % bsW m, by omega⟩).1
    have nz : ¬ nI (bsW m) = 0 := by rw [show (0 : Int32) = nI 0 from rfl, nIe (by omega) (by omega)]; omega
    rw [if_neg z, ei, ← hy, s_bs hm, bd1_s, gd_pos nz, r, cA, bd1_s, q6, nI_add, gd_pos (by rw [inb_nI (by omega)]; omega), s_bs hm, bd1_s, gd_pos nz, nI_clamp (by omega), nI_div (by omega) (by omega) (by omega)]
    refine lpo_l i (by omega) ⟨by omega, ?_, ?_, ?_, fun j h1 h2 => ?_, fun j hj => ?_, fr_I (by decide) f6⟩
    · show nI (y / bsW m) = nI (x / bsW m ^ (c - i))
      rw [hy, Nat.div_div_eq_div_mul, ← Nat.pow_succ, show (c - (i + 1)).succ = c - i by omega]
    · show nI i + (-1) = iZ ((i : Int) - 1)
      rw [iZ_nI, show (-1 : Int32) = iZ (-1) from rfl, iZ_add]
      rfl
    · show im_i (im_setI M6 68 _ _) 39 2 = nI n
      rw [sk1 (by omega)]; exact q6
    · show im_i (im_setI M6 68 (n + i) _) 68 (n + j) &&& 255 = _
      by_cases e : j = i
      · subst e
        rw [hit, byte_255]
        unfold dgV
        rw [sg_ch hm, show c - 1 - j = c - (j + 1) by omega, ← hy]
        exact n255 ⟨_, c256⟩
      · rw [sk1 (by omega)]; exact g6 j (by omega) h2
    · show im_i (im_setI M6 68 (n + i) _) 68 j = _
      rw [sk1 (by omega)]; exact o6 j hj
theorem pb_t : ∀ (m : Fin 3) (c : Fin 4), 1 ≤ c.val → c.val ≤ 3 - m.val → pbW m.val c.val ≤ 11 ∧ 1 ≤ pbW m.val c.val ∧ lmV m.val c.val ≤ 2025 ∧ (m.val = 2 → pbW m.val c.val = 8 ∧ c.val = 1) := by decide +kernel
theorem pb_b {m c : Nat} (hm : m < 3) (hc : 1 ≤ c ∧ c ≤ 3 - m) : pbW m c ≤ 11 ∧ 1 ≤ pbW m c ∧ lmV m c ≤ 2025 ∧ (m = 2 → pbW m c = 8 ∧ c = 1) := pb_t ⟨m, hm⟩ ⟨c, by omega⟩ hc.1 hc.2
theorem pw_11 {w x : Nat} (hw : w ≤ 11) (hx : x < 2 ^ w) : x < 2048 := Nat.lt_of_lt_of_le hx (Nat.le_trans (Nat.pow_le_pow_right (by omega) hw) (by decide))
theorem s_unpackPart {M : im_M} {n x m c : Nat} (hm : m < 3) (hc : 1 ≤ c ∧ c ≤ 3 - m) (hn : n + c ≤ 3000) (hx : x < 2 ^ pbW m c) (q : im_i M 39 2 = nI n) : ed (f_HSegments_unpackPart (nI x) (nI m) (nI c) M) (fun r => r.1 = (if x < lmV m c then 1 else 0) ∧ im_i r.2 39 2 = nI (n + c) ∧ (∀ i, i < c → im_i r.2 68 (n + i) &&& 255 = nI (dgV m c x i)) ∧ (∀ j, j < n → im_i r.2 68 j = im_i M 68 j) ∧ fr (2 ^ 68) [(39, 2)] M r.2) := by
  obtain ⟨p1, p2, p3, p4⟩ := pb_b hm hc
  have xl := pw_11 p1 hx
  have k2 : (nI m = 2) = (m = 2) := nIe (c := 2) (by omega) (by omega)
  unfold f_HSegments_unpackPart
  simp only [k2]
  by_cases c2 : m = 2
  · obtain ⟨p5, p6⟩ := p4 c2
    rw [p5] at hx
    have x256 : x < 256 := hx
    rw [if_neg (fun z => z c2), q, gd_pos (by rw [inb_nI (by omega)]; omega), nI_clamp (by omega)]
    subst c2 p6
    refine ed_mk ⟨(if_pos x256).symm, ?_, fun i hi => ?_, fun j hj => ?_, fr_F (by decide) (fr_I (by decide) fr_refl)⟩
    · show im_i (im_setI (im_setI M 68 n _) 39 2 (im_i (im_setI M 68 n _) 39 2 + 1)) 39 2 = _
      rw [hit, sk1 (by omega), q]
      exact nI_add n 1
    · obtain rfl : i = 0 := by omega
      show im_i (im_setI (im_setI M 68 n _) 39 2 _) 68 n &&& 255 = _
      rw [sk1 (by omega), hit, byte_255]
      have e : dgV 2 1 x 0 = x := by
        show x / 1 % 256 = x
        rw [Nat.div_one, Nat.mod_eq_of_lt x256]
      rw [e]
      exact n255 ⟨x, x256⟩
    · show im_i (im_setI (im_setI M 68 n _) 39 2 _) 68 j = _
      rw [sk1 (by omega), sk1 (by omega)]
  · rw [if_pos c2]
    apply bd2_mk
    refine ed_mono (s_unpackL (by omega) (by omega) hn (by omega) q) ?_
    rintro ⟨y10, M11⟩ ⟨r1, r2, r3, r4, r5⟩
    replace r1 : y10 = nI (x / bsW m ^ c) := r1
    replace r2 : im_i M11 39 2 = nI n := r2
    replace r3 : ∀ i, i < c → im_i M11 68 (n + i) &&& 255 = nI (dgV m c x i) := r3
    replace r4 : ∀ j, j < n → im_i M11 68 j = im_i M 68 j := r4
    replace r5 : fr (2 ^ 68) [] M M11 := r5
    subst r1
    have yl : x / bsW m ^ c ≤ x := Nat.div_le_self _ _
    have kz : (nI (x / bsW m ^ c) = 0) = (x / bsW m ^ c = 0) := nIe (c := 0) (by omega) (by omega)
    have bp : 0 < bsW m ^ c := Nat.pow_pos (Nat.lt_of_lt_of_le (by omega) (bsW_t ⟨m, hm⟩).1)
    have kd : (x / bsW m ^ c = 0) = (x < lmV m c) := by
      show _ = (x < bsW m ^ c)
      exact propext ⟨fun z => by
        have h1 := Nat.div_add_mod x (bsW m ^ c)
        have h2 := Nat.mod_lt x bp
        rw [z, Nat.mul_zero] at h1
        omega, Nat.div_eq_of_lt⟩
    show ed (if ¬ nI (x / bsW m ^ c) = 0 then some ((0 : Int32), (im_setI M11 39 2 ((im_i M11 39 2) + nI c))) else some (1, (im_setI M11 39 2 ((im_i M11 39 2) + nI c)))) _
    simp only [kz, kd]
    have sh : ∀ v : Int32, v = (if x < lmV m c then 1 else 0) → ed (some (v, im_setI M11 39 2 ((im_i M11 39 2) + nI c))) (fun r => r.1 = (if x < lmV m c then 1 else 0) ∧ im_i r.2 39 2 = nI (n + c) ∧ (∀ i, i < c → im_i r.2 68 (n + i) &&& 255 = nI (dgV m c x i)) ∧ (∀ j, j < n → im_i r.2 68 j = im_i M 68 j) ∧ fr (2 ^ 68) [(39, 2)] M r.2) := fun v hv => by
      refine ed_mk ⟨hv, ?_, fun i hi => ?_, fun j hj => ?_, fr_F (by decide) (fr_mono (by decide) (by simp) r5)⟩
      · show im_i (im_setI M11 39 2 _) 39 2 = _
        rw [hit, r2]; exact nI_add n c
      · show im_i (im_setI M11 39 2 _) 68 (n + i) &&& 255 = _
        rw [sk1 (by omega)]; exact r3 i hi
      · show im_i (im_setI M11 39 2 _) 68 j = _
        rw [sk1 (by omega)]; exact r4 j hj
    by_cases d : x < lmV m c
    · rw [if_neg (fun z => z d)]
      exact sh 1 (if_pos d).symm
    · rw [if_pos d]
      exact sh 0 (if_neg d).symm
theorem gr_w : ∀ (m : Fin 3) (c : Fin 4), ((if ¬ nI m.val = 0 then (if ¬ nI m.val = 1 then 8 else (((5 : Int32) * nI c.val) + 1)) else (((3 : Int32) * nI c.val) + 1)) : Int32) = nI (pbW m.val c.val) := by decide +kernel
theorem gr_l : ∀ (m : Fin 3) (c : Fin 4), 1 ≤ c.val → c.val ≤ 3 - m.val → ((if ¬ nI m.val = 0 then (if ¬ nI m.val = 1 then 256 else (if ¬ nI c.val = 2 then 45 else 2025)) else (if ¬ nI c.val = 3 then (if ¬ nI c.val = 2 then 10 else 100) else 1000)) : Int32) = nI (lmV m.val c.val) := by decide +kernel
theorem gr_b : ∀ (m : Fin 3), ((if ¬ nI m.val = 0 then (if ¬ nI m.val = 1 then 256 else 45) else 10) : Int32) = nI (bsW m.val) := by decide +kernel
theorem s_sgR {M : im_M} {m d : Nat} (hm : m < 3) (hd : d < bsW m) : (if ¬ nI m = 0 then if ¬ nI m = 1 then some (nI d) else bd1 (f_MSquareRows_byteOf (nI d) M) fun (x11 : Int32) => some x11 else some ((48 : Int32) + nI d)) = some (nI (sgW m d)) := by
  have c : m = 0 ∨ m = 1 ∨ m = 2 := by omega
  rcases c with rfl | rfl | rfl
  · have hd : d < 10 := hd
    rw [if_neg (by decide), show sgW 0 d = chV d from rfl, (ch_t ⟨d, by omega⟩).2 hd]
    exact congrArg some (nI_add 48 d)
  · have hd : d < 45 := hd
    rw [if_pos (by decide), if_neg (by decide), s_byteOfR ⟨d, hd⟩]
    rfl
  · rw [if_pos (by decide), if_pos (by decide)]
    rfl
theorem s_digR {M : im_M} {n x m c : Nat} (hm : m < 3) (hc : c ≤ 3) (hn : n + c ≤ 3000) (hb : bsW m ^ c ≤ 2025) (hx : x < bsW m ^ c) (q : im_i M 108 28 = nI n) : ed (lp (uc3 (f_MSquareRows_group_L135 (nI m))) (nI x, nI (bsW m ^ c / bsW m), M)) (fun R => im_i R 108 28 = nI (n + c) ∧ (∀ i, i < c → im_i R 128 (n + i) = nI (dgV m c x i)) ∧ (∀ j, j < n → im_i R 128 j = im_i M 128 j) ∧ fr (2 ^ 128) [(108, 28)] M R) := by
  obtain ⟨b10, b256, _⟩ := bsW_t ⟨m, hm⟩
  replace b10 : 10 ≤ bsW m := b10
  replace b256 : bsW m ≤ 256 := b256
  refine lp_inv (fun k (s : Int32 × Int32 × im_M) => ∃ i, i + k = c ∧ s.1 = nI (x % bsW m ^ k) ∧ s.2.1 = nI (bsW m ^ k / bsW m) ∧ im_i s.2.2 108 28 = nI (n + i) ∧ (∀ j, j < i → im_i s.2.2 128 (n + j) = nI (dgV m c x j)) ∧ (∀ j, j < n → im_i s.2.2 128 j = im_i M 128 j) ∧ fr (2 ^ 128) [(108, 28)] M s.2.2) ?_ (k := c) ⟨0, by omega, by rw [Nat.mod_eq_of_lt hx], rfl, q, fun j hj => absurd hj (Nat.not_lt_zero _), fun j hj => rfl, fr_refl⟩
  rintro k ⟨x7, x8, M9⟩ ⟨i, hi, e1, e2, q9, g9, o9, f9⟩
  replace e1 : x7 = nI (x % bsW m ^ k) := e1
  replace e2 : x8 = nI (bsW m ^ k / bsW m) := e2
  replace q9 : im_i M9 108 28 = nI (n + i) := q9
  replace g9 : ∀ j, j < i → im_i M9 128 (n + j) = nI (dgV m c x j) := g9
  replace o9 : ∀ j, j < n → im_i M9 128 j = im_i M 128 j := o9
  replace f9 : fr (2 ^ 128) [(108, 28)] M M9 := f9
  subst e1 e2
  show ed (f_MSquareRows_group_L135 (nI m) (nI (x % bsW m ^ k)) (nI (bsW m ^ k / bsW m)) M9) _
  unfold f_MSquareRows_group_L135
  cases k with
  | zero =>
    have e0 : bsW m ^ 0 / bsW m = 0 := Nat.div_eq_of_lt (show 1 < bsW m by omega)
    rw [e0, if_pos (show nI 0 ≤ 0 by decide)]
    obtain rfl : i = c := by omega
    exact lpo_r ⟨q9, g9, o9, f9⟩
  | succ r =>
    have e0 : bsW m ^ (r + 1) / bsW m = bsW m ^ r := by rw [Nat.pow_succ, Nat.mul_div_cancel _ (by omega)]
    have pp : 0 < bsW m ^ r := Nat.pow_pos (by omega)
    have pl : bsW m ^ r ≤ bsW m ^ c := Nat.pow_le_pow_right (by omega) (by omega)
    obtain ⟨P, hP⟩ : ∃ P, P = bsW m ^ r := ⟨_, rfl⟩
    have yl : x % bsW m ^ (r + 1) ≤ x := Nat.mod_le _ _
    have d1 : x % bsW m ^ (r + 1) / bsW m ^ r = x / bsW m ^ r % bsW m := by rw [Nat.pow_succ]; exact Nat.mod_mul_right_div_self _ _ _
    have d2 : x % bsW m ^ (r + 1) % bsW m ^ r = x % bsW m ^ r := Nat.mod_mod_of_dvd _ ⟨bsW m, Nat.pow_succ _ _⟩
    have dl : x / bsW m ^ r % bsW m < bsW m := Nat.mod_lt _ (by omega)
    have s256 : sgW m (x / bsW m ^ r % bsW m) < 1000 := by
      unfold sgW
      split
      · omega
      · rename_i z
        obtain ⟨_, _, b3⟩ := bsW_t ⟨m, hm⟩
        replace b3 : bsW m = bsM m ∧ bsM m ≤ 45 := b3 (show m < 2 by omega)
        have := (ch_t ⟨x / bsW m ^ r % bsW m, by omega⟩).1
        exact Nat.lt_trans this (by omega)
    rw [← hP] at pp pl
    have nz : ¬ nI P = 0 := by rw [show (0 : Int32) = nI 0 from rfl, nIe (by omega) (by omega)]; omega
    have nl : ¬ nI P ≤ 0 := by rw [show (0 : Int32) = nI 0 from rfl, nIl (by omega) (by omega)]; omega
    have nb : ¬ nI (bsW m) = 0 := by rw [show (0 : Int32) = nI 0 from rfl, nIe (by omega) (by omega)]; omega
    have q1 : nI (x % bsW m ^ (r + 1)) / nI P = nI (x / bsW m ^ r % bsW m) := by rw [nI_div (by omega) (by omega) (by omega), hP, d1]
    have q2 : nI (x % bsW m ^ (r + 1)) - nI (x / bsW m ^ r % bsW m) * nI P = nI (x % bsW m ^ r) := by rw [← q1, nI_rem (by omega) (by omega) (by omega), hP, d2]
    rw [e0, ← hP, if_neg nl, gd_pos nz, gd_pos nz, q1, s_sgR hm dl, bd1_s]
    have gb : ((if ¬ nI m = 0 then (if ¬ nI m = 1 then 256 else 45) else 10) : Int32) = nI (bsW m) := gr_b ⟨m, hm⟩
    unfold f_MSquareRows_take
    rw [q9, gd_pos (by rw [inb_nI (by omega)]; omega), bd1_s, gb, gd_pos nb, q2, nI_div (by omega) (by omega) (by omega), nI_clamp (by omega)]
    refine lpo_l r (by omega) ⟨i + 1, by omega, rfl, by rw [hP], ?_, fun j hj => ?_, fun j hj => ?_, fr_F (by decide) (fr_I (by decide) f9)⟩
    · show im_i (im_setI _ 108 28 (im_i (im_setI M9 128 (n + i) _) 108 28 + 1)) 108 28 = _
      rw [hit, sk1 (by omega), q9]
      exact nI_add (n + i) 1
    · show im_i (im_setI (im_setI M9 128 (n + i) _) 108 28 _) 128 (n + j) = _
      rw [sk1 (by omega)]
      by_cases e : j = i
      · subst e
        rw [hit]
        unfold dgV
        rw [show c - 1 - j = r by omega]
      · rw [sk1 (by omega)]; exact g9 j (by omega)
    · show im_i (im_setI (im_setI M9 128 (n + i) _) 108 28 _) 128 j = _
      rw [sk1 (by omega), sk1 (by omega)]; exact o9 j hj
theorem CDr_k {M M' : im_M} {h p : Nat} {D : Nat → Nat} (q : CDr M h D p) (f : fr (2 ^ 128) [(108, 28), (108, 31)] M M') : CDr M' h D p := by
  refine ⟨?_, ?_, fun i hi => ?_⟩
  · rw [f.1 108 29 (by decide) (by decide)]; exact q.1
  · rw [f.1 108 30 (by decide) (by decide)]; exact q.2.1
  · rw [f.1 119 i (by decide) (by simp)]; exact q.2.2 i hi
theorem CDc_k {M M' : im_M} {h p : Nat} {D : Nat → Nat} (q : CDc M h D p) (f : fr (2 ^ 68) [(39, 2), (39, 1)] M M') : CDc M' h D p := by
  refine ⟨?_, ?_, fun i hi => ?_⟩
  · rw [f.1 39 5 (by decide) (by decide)]; exact q.1
  · rw [f.1 39 6 (by decide) (by decide)]; exact q.2.1
  · rw [f.1 40 i (by decide) (by simp)]; exact q.2.2 i hi
theorem s_groupR {M : im_M} {h p n m c : Nat} {D : Nat → Nat} (q : CDr M h D p) (hh : h ≤ 2956) (hm : m < 3) (hc : 1 ≤ c ∧ c ≤ 3 - m) (hn : n + c ≤ 3000) (q2 : im_i M 108 28 = nI n) (q3 : im_i M 108 31 = 0) (hp : p + pbW m c ≤ 8 * h) : ed (f_MSquareRows_group (nI m) (nI c) M) (fun R => if bv D p (pbW m c) < lmV m c then CDr R h D (p + pbW m c) ∧ im_i R 108 28 = nI (n + c) ∧ im_i R 108 31 = 0 ∧ (∀ i, i < c → im_i R 128 (n + i) = nI (dgV m c (bv D p (pbW m c)) i)) ∧ (∀ j, j < n → im_i R 128 j = im_i M 128 j) else im_i R 108 31 = nI 5) := by
  obtain ⟨p1, p2, p3, p4⟩ := pb_b hm hc
  have xl := pw_11 p1 (bv_lt (D := D) (p := p) (pbW m c))
  obtain ⟨b10, b256, _⟩ := bsW_t ⟨m, hm⟩
  replace b10 : 10 ≤ bsW m := b10
  replace b256 : bsW m ≤ 256 := b256
  unfold f_MSquareRows_group
  rw [gr_w ⟨m, hm⟩ ⟨c, by omega⟩, gr_l ⟨m, hm⟩ ⟨c, by omega⟩ hc.1 hc.2, gr_b ⟨m, hm⟩]
  show ed (bd2 (f_MSquareRows_next (nI (pbW m c)) M) fun (x2 : Int32) (M2 : im_M) => if (im_i M2 108 31) ≤ 0 then if x2 < nI (lmV m c) then gd (¬ nI (bsW m) = (0 : Int32)) <| bd1 (lp (uc3 (f_MSquareRows_group_L135 (nI m))) (x2, nI (lmV m c) / nI (bsW m), M2)) fun (M19 : im_M) => some M19 else some (im_setI M2 108 31 5) else some M2) _
  apply bd2_mk
  refine ed_mono (s_nextR q hh hp) ?_
  rintro ⟨x2, M2⟩ ⟨r1, r2, r3⟩
  replace r1 : x2 = nI (bv D p (pbW m c)) := r1
  replace r2 : CDr M2 h D (p + pbW m c) := r2
  replace r3 : fr 0 [(108, 29)] M M2 := r3
  subst r1
  generalize bv D p (pbW m c) = x at *
  have nb : ¬ nI (bsW m) = 0 := by rw [show (0 : Int32) = nI 0 from rfl, nIe (by omega) (by omega)]; omega
  show ed (if (im_i M2 108 31) ≤ 0 then if nI x < nI (lmV m c) then gd (¬ nI (bsW m) = (0 : Int32)) <| bd1 (lp (uc3 (f_MSquareRows_group_L135 (nI m))) (nI x, nI (lmV m c) / nI (bsW m), M2)) fun (M19 : im_M) => some M19 else some (im_setI M2 108 31 5) else some M2) _
  rw [if_pos (by rw [r3.1 108 31 (by decide) (by decide), q3]; decide), if_nIlt (by omega) (by omega)]
  by_cases d : x < lmV m c
  · simp only [if_pos d]
    rw [gd_pos nb, nI_div (by omega) (by omega) (by omega)]
    apply bd1_mk
    refine ed_mono (s_digR hm (by omega) hn p3 d (by rw [r3.1 108 28 (by decide) (by decide)]; exact q2)) ?_
    rintro R ⟨g1, g2, g3, g4⟩
    refine ed_mk ⟨CDr_k r2 (fr_mono (by decide) (by simp) g4), g1, ?_, g2, fun j hj => ?_⟩
    · rw [g4.1 108 31 (by decide) (by decide), r3.1 108 31 (by decide) (by decide)]; exact q3
    · rw [g3 j hj, r3.1 128 j (by decide) (by simp)]
  · simp only [if_neg d]
    exact ed_mk hit
theorem s_groupN {M : im_M} {h p m c : Nat} {D : Nat → Nat} (q : CDr M h D p) (hh : h ≤ 2956) (hm : m < 3) (hc : 1 ≤ c ∧ c ≤ 3 - m) (hp : p ≤ 8 * h) (hz : 8 * h < p + pbW m c) : f_MSquareRows_group (nI m) (nI c) M = some (im_setI M 108 31 4) := by
  obtain ⟨p1, p2, p3, p4⟩ := pb_b hm hc
  unfold f_MSquareRows_group
  rw [gr_w ⟨m, hm⟩ ⟨c, by omega⟩]
  show (bd2 (f_MSquareRows_next (nI (pbW m c)) M) _) = _
  rw [s_nextN q hh hz (by omega), bd2_s, if_neg (by rw [hit]; decide)]
