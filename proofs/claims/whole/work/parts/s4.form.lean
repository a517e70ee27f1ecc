/-! THE NUMBER OF THE FORM, READ BY BOTH -/
def ui (a : Int32) : Nat := a.toBitVec.toNat
theorem ui_and {a b : Int32} : ui (a &&& b) = (ui a &&& ui b) := BitVec.toNat_and ..
theorem ui_sub {a b : Int32} (h : ui b ≤ ui a) : ui (a - b) = ui a - ui b := BitVec.toNat_sub_of_le h
theorem ui_add {a b : Int32} (h : ui a + ui b < 2 ^ 32) : ui (a + b) = ui a + ui b := by
  show (a.toBitVec + b.toBitVec).toNat = _
  rw [BitVec.toNat_add]
  exact Nat.mod_eq_of_lt h
theorem ui_shr {a d : Int32} {j : Nat} (hj : j < 32) (hd : d = nI j) : ui ((Int32.toUInt32 a >>> (Int32.toUInt32 d &&& Int32.toUInt32 31)).toInt32) = ui a / 2 ^ j := by
  subst hd
  have e : Int32.toUInt32 (nI j) &&& Int32.toUInt32 31 = Int32.toUInt32 (nI j) := (by decide +kernel : ∀ j : Fin 32, Int32.toUInt32 (nI j.val) &&& Int32.toUInt32 31 = Int32.toUInt32 (nI j.val)) ⟨j, hj⟩
  rw [e]
  show ((a.toBitVec) >>> ((Int32.toUInt32 (nI j)).toBitVec % 32)).toNat = _
  have e2 : ((Int32.toUInt32 (nI j)).toBitVec % 32).toNat = j := (by decide +kernel : ∀ j : Fin 32, ((Int32.toUInt32 (nI j.val)).toBitVec % 32).toNat = j.val) ⟨j, hj⟩
  rw [BitVec.ushiftRight_eq', e2, BitVec.toNat_ushiftRight, Nat.shiftRight_eq_div_pow]
  rfl
theorem ui_nI {n : Nat} (h : n < 2 ^ 32) : ui (nI n) = n := by
  show (BitVec.ofNat 32 n).toNat = n
  rw [BitVec.toNat_ofNat]
  exact Nat.mod_eq_of_lt h
theorem ui_eq {x : Int32} {n : Nat} (h : ui x = n) : x = nI n := by
  apply Int32.toBitVec_inj.mp
  apply BitVec.eq_of_toNat_eq
  show ui x = ui (nI n)
  rw [ui_nI (by rw [← h]; exact x.toBitVec.isLt), h]
theorem ui_m : ui 1431655765 = mkb 85 4 ∧ ui 858993459 = mkb 51 4 ∧ ui 252645135 = mkb 15 4 := by decide +kernel
theorem mk_4 : mkb 85 4 = 1431655765 ∧ mkb 51 4 = 858993459 ∧ mkb 15 4 = 252645135 := by decide +kernel
def j1 (v : Int32) : Int32 := v - ((Int32.toUInt32 v >>> (Int32.toUInt32 1 &&& Int32.toUInt32 31)).toInt32 &&& 1431655765)
def j2 (v : Int32) : Int32 := (v &&& 858993459) + ((Int32.toUInt32 v >>> (Int32.toUInt32 2 &&& Int32.toUInt32 31)).toInt32 &&& 858993459)
def j3 (v : Int32) : Int32 := (v + (Int32.toUInt32 v >>> (Int32.toUInt32 4 &&& Int32.toUInt32 31)).toInt32) &&& 252645135
def j4 (v : Int32) : Int32 := v + (Int32.toUInt32 v >>> (Int32.toUInt32 8 &&& Int32.toUInt32 31)).toInt32
def j5 (v : Int32) : Int32 := v + (Int32.toUInt32 v >>> (Int32.toUInt32 16 &&& Int32.toUInt32 31)).toInt32
def pop15 (z : Nat) : Nat := pcb (z % 256) + pcb (z / 256)
theorem s_bitI {z : Nat} {M : im_M} (hz : z < 32768) : f_Integer_bitCount (nI z) M = some (nI (pop15 z)) := by
  have is : f_Integer_bitCount (nI z) M = some (j5 (j4 (j3 (j2 (j1 (nI z))))) &&& 63) := rfl
  have s : ∀ n V, bcA (n + 1) V = pcb (V % 256) + 256 * bcA n (V / 256) := by
    intro n V
    have e : V = V % 256 + 256 * (V / 256) := by omega
    conv => lhs; rw [e]
    exact bcA_s (Nat.mod_lt _ (by decide))
  have zz : ∀ V, bcA 0 V = 0 := by
    intro V
    unfold bcA bc3
    show _ &&& 0 = 0
    rw [Nat.and_zero]
  have u0 : ui (nI z) = z := ui_nI (by omega)
  have h1 : ui (j1 (nI z)) = bc1 4 z := by
    unfold j1 bc1
    have e : ui ((Int32.toUInt32 (nI z) >>> (Int32.toUInt32 1 &&& Int32.toUInt32 31)).toInt32 &&& 1431655765) = (z / 2 &&& mkb 85 4) := by
      rw [ui_and, ui_shr (d := 1) (j := 1) (by decide) rfl, ui_m.1, u0]
    rw [ui_sub (by rw [e, u0]; exact bc1_le 4 _), e, u0]
  have b1 : bc1 4 z ≤ z := Nat.sub_le _ _
  have h2 : ui (j2 (j1 (nI z))) = bc2 4 (bc1 4 z) := by
    unfold j2 bc2
    have ea : ui (j1 (nI z) &&& 858993459) = (bc1 4 z &&& mkb 51 4) := by rw [ui_and, h1, ui_m.2.1]
    have eb : ui ((Int32.toUInt32 (j1 (nI z)) >>> (Int32.toUInt32 2 &&& Int32.toUInt32 31)).toInt32 &&& 858993459) = (bc1 4 z / 4 &&& mkb 51 4) := by
      rw [ui_and, ui_shr (d := 2) (j := 2) (by decide) rfl, h1, ui_m.2.1]
    have l1 : (bc1 4 z &&& mkb 51 4) ≤ bc1 4 z := Nat.and_le_left
    have l2 : (bc1 4 z / 4 &&& mkb 51 4) ≤ bc1 4 z / 4 := Nat.and_le_left
    rw [ui_add (by rw [ea, eb]; omega), ea, eb]
  have b2 : bc2 4 (bc1 4 z) ≤ 65536 := by
    unfold bc2
    have l1 : (bc1 4 z &&& mkb 51 4) ≤ bc1 4 z := Nat.and_le_left
    have l2 : (bc1 4 z / 4 &&& mkb 51 4) ≤ bc1 4 z / 4 := Nat.and_le_left
    omega
  have h3 : ui (j3 (j2 (j1 (nI z)))) = bcA 4 z := by
    unfold j3 bcA bc3
    have eb : ui ((Int32.toUInt32 (j2 (j1 (nI z))) >>> (Int32.toUInt32 4 &&& Int32.toUInt32 31)).toInt32) = bc2 4 (bc1 4 z) / 16 := by
      rw [ui_shr (d := 4) (j := 4) (by decide) rfl, h2]
    rw [ui_and, ui_add (by rw [eb, h2]; omega), eb, h2, ui_m.2.2]
  have e4 : bcA 4 z = pcb (z % 256) + 256 * pcb (z / 256) := by
    rw [s 3, s 2, s 1, s 0, zz]
    have p0 : pcb 0 = 0 := rfl
    rw [show z / 256 / 256 = 0 by omega, show z / 256 % 256 = z / 256 by omega, Nat.zero_mod, p0]
    omega
  have a0 := pcb_le (z % 256)
  have a1 := pcb_le (z / 256)
  have h4 : ui (j4 (j3 (j2 (j1 (nI z))))) = pcb (z % 256) + pcb (z / 256) + 256 * pcb (z / 256) := by
    unfold j4
    have eb : ui ((Int32.toUInt32 (j3 (j2 (j1 (nI z)))) >>> (Int32.toUInt32 8 &&& Int32.toUInt32 31)).toInt32) = pcb (z / 256) := by
      rw [ui_shr (d := 8) (j := 8) (by decide) rfl, h3, e4]
      show _ / 256 = _
      omega
    rw [ui_add (by rw [eb, h3, e4]; omega), eb, h3, e4]
    omega
  have h5 : ui (j5 (j4 (j3 (j2 (j1 (nI z)))))) = pcb (z % 256) + pcb (z / 256) + 256 * pcb (z / 256) := by
    unfold j5
    have eb : ui ((Int32.toUInt32 (j4 (j3 (j2 (j1 (nI z))))) >>> (Int32.toUInt32 16 &&& Int32.toUInt32 31)).toInt32) = 0 := by
      rw [ui_shr (d := 16) (j := 16) (by decide) rfl, h4]
      show _ / 65536 = _
      omega
    rw [ui_add (by rw [eb, h4]; omega), eb, h4]
    rfl
  rw [is]
  refine congrArg some (ui_eq ?_)
  rw [ui_and, h5, show ui 63 = 2 ^ 6 - 1 from rfl, Nat.and_two_pow_sub_one_eq_mod]
  unfold pop15
  show _ % 64 = _
  omega
theorem nI_shb {z i : Nat} (hz : z < 2147483648) (hi : i < 31) : (nI z >>> (nI i &&& 31 : Int32) : Int32) &&& 1 = nI (z / 2 ^ i % 2) := by
  have hk : ((nI i &&& 31 : Int32).toBitVec.smod 32).toNat = i := (by decide +kernel : ∀ i : Fin 31, ((nI i.val &&& 31 : Int32).toBitVec.smod 32).toNat = i.val) ⟨i, hi⟩
  rw [iZ_nI (n := z), iZ_shr hk (by omega), show (1 : Int32) = iZ ((2 ^ 1 - 1 : Nat) : Int) from rfl, iZ_and 1 (by omega), iZ_nI]
  congr 1
def onS (z : Nat) : Nat → Nat
  | 0 => 0
  | i + 1 => onS z i + z / 2 ^ i % 2
theorem onS_le (z : Nat) : ∀ i, onS z i ≤ i := by
  intro i
  induction i with
  | zero => exact Nat.le_refl _
  | succ i ih =>
    show onS z i + z / 2 ^ i % 2 ≤ i + 1
    have := Nat.mod_lt (z / 2 ^ i) (show 0 < 2 by omega)
    omega
theorem onS_15 {z : Nat} (hz : z < 32768) : onS z 15 = pop15 z := by
  unfold pop15 pcb
  show 0 + z / 1 % 2 + z / 2 % 2 + z / 4 % 2 + z / 8 % 2 + z / 16 % 2 + z / 32 % 2 + z / 64 % 2 + z / 128 % 2 + z / 256 % 2 + z / 512 % 2 + z / 1024 % 2 + z / 2048 % 2 + z / 4096 % 2 + z / 8192 % 2 + z / 16384 % 2 = _
  omega
theorem s_ones {z : Nat} {M : im_M} (hz : z < 32768) : f_MSquareRows_ones (nI z) M = some (nI (pop15 z)) := by
  unfold f_MSquareRows_ones
  have e : lp (uc2 (f_MSquareRows_ones_L4 (nI z) M)) (0, 0) = some (nI (onS z 15)) := by
    refine lp_row (fun i => (nI (onS z i), nI i)) 15 (fun i hi => ?_) ?_
    · show f_MSquareRows_ones_L4 (nI z) M (nI (onS z i)) (nI i) = some (Sum.inl (nI (onS z i + z / 2 ^ i % 2), nI (i + 1)))
      unfold f_MSquareRows_ones_L4
      rw [if_neg (show ¬ (15 : Int32) ≤ nI i by rw [show (15 : Int32) = nI 15 from rfl, nIl (by omega) (by omega)]; omega), nI_shb (by omega) (by omega), nI_add]
      exact congrArg (fun z => some (Sum.inl (_, z))) (nI_add i 1)
    · show f_MSquareRows_ones_L4 (nI z) M (nI (onS z 15)) (nI 15) = _
      unfold f_MSquareRows_ones_L4
      rw [if_pos (by decide)]
  rw [e, bd1_s, onS_15 hz]
/-- the word of a copy of the form -/
def fbW (G : Nat → Nat → Bool) (n c : Nat) : Nat → Nat
  | 0 => 0
  | i + 1 => fbW G n c i ||| (if G (fmX n i c) (fmY n i c) = true then 2 ^ i else 0)
theorem fbW_lt (G : Nat → Nat → Bool) (n c : Nat) : ∀ i, fbW G n c i < 2 ^ i := by
  intro i
  induction i with
  | zero => show 0 < 1; omega
  | succ i ih =>
    show fbW G n c i ||| (if G (fmX n i c) (fmY n i c) = true then 2 ^ i else 0) < 2 ^ (i + 1)
    have p : 2 ^ i < 2 ^ (i + 1) := Nat.pow_lt_pow_right (by omega) (by omega)
    refine Nat.or_lt_two_pow (by omega) ?_
    split
    · exact p
    · exact Nat.two_pow_pos _
theorem shq_1 : ∀ i : Fin 15, ((1 : Int32) <<< (nI i.val &&& 31 : Int32) : Int32) = nI (2 ^ i.val) := by decide +kernel
theorem shq_b : ∀ (b : Bool) (i : Fin 15), (bI b <<< (nI i.val &&& 31 : Int32) : Int32) = nI (if b = true then 2 ^ i.val else 0) := by decide +kernel
def fwN (k : Nat) : Nat := (fmW k).toNatClampNeg
theorem fw_n : ∀ k : Fin 32, fmW k.val = nI (fwN k.val) ∧ fwN k.val < 32768 := by decide +kernel
/-- modules as they are in the memory -/
def GMc (M : im_M) (n : Nat) (G : Nat → Nat → Bool) : Prop := im_i M 38 1 = nI n ∧ ∀ x y, x < n → y < n → im_i M 54 (177 * y + x) = bI (G x y)
def GMr (M : im_M) (n : Nat) (G : Nat → Nat → Bool) : Prop := im_i M 108 8 = nI n ∧ ∀ x y, x < n → y < n → im_i M 112 (177 * y + x) = bI (G x y)
theorem s_wordC {M : im_M} {n c : Nat} {G : Nat → Nat → Bool} (h : GMc M n G) (hn : 21 ≤ n ∧ n ≤ 177) (hc : c < 2) : lp (uc2 (f_HGrid_formNumber_L11 (nI c) M)) (0, 0) = some (nI (fbW G n c 15)) := by
  refine lp_row (fun i => (nI (fbW G n c i), nI i)) 15 (fun i hi => ?_) ?_
  · show f_HGrid_formNumber_L11 (nI c) M (nI (fbW G n c i)) (nI i) = some (Sum.inl (nI (fbW G n c i ||| (if G (fmX n i c) (fmY n i c) = true then 2 ^ i else 0)), nI (i + 1)))
    unfold f_HGrid_formNumber_L11
    obtain ⟨f1, f2⟩ := s_formXC h.1 hn hi hc
    obtain ⟨l1, l2⟩ := fm_lt (n := n) (i := i) (c := c) hn.1 hi hc
    have dk : f_HGrid_isDark (nI (fmX n i c)) (nI (fmY n i c)) M = some (bI (G (fmX n i c) (fmY n i c))) := by
      unfold f_HGrid_isDark
      have e : nI (fmY n i c) * 177 + nI (fmX n i c) = nI (177 * fmY n i c + fmX n i c) := by
        rw [show (177 : Int32) = nI 177 from rfl, nI_mul, nI_add, Nat.mul_comm]
      rw [e, gd_pos (by rw [inb_nI (by omega)]; omega), nI_clamp (by omega), h.2 _ _ l1 l2]
      cases G (fmX n i c) (fmY n i c)
      · rfl
      · rfl
    rw [if_neg (show ¬ (15 : Int32) ≤ nI i by rw [show (15 : Int32) = nI 15 from rfl, nIl (by omega) (by omega)]; omega), f1, bd1_s, f2, bd1_s, dk, bd1_s]
    have e3 : (if bI (G (fmX n i c) (fmY n i c)) = 0 then (0 : Int32) else ((1 : Int32) <<< (nI i &&& 31 : Int32) : Int32)) = nI (if G (fmX n i c) (fmY n i c) = true then 2 ^ i else 0) := by
      have s1 : ((1 : Int32) <<< (nI i &&& 31 : Int32) : Int32) = nI (2 ^ i) := shq_1 ⟨i, hi⟩
      rw [s1]
      cases G (fmX n i c) (fmY n i c)
      · rfl
      · rfl
    rw [e3, nI_or]
    exact congrArg (fun z => some (Sum.inl (_, z))) (nI_add i 1)
  · show f_HGrid_formNumber_L11 (nI c) M (nI (fbW G n c 15)) (nI 15) = _
    unfold f_HGrid_formNumber_L11
    rw [if_pos (by decide)]
theorem s_wordR {M : im_M} {n c : Nat} {G : Nat → Nat → Bool} (h : GMr M n G) (hn : 21 ≤ n ∧ n ≤ 177) (hc : c < 2) : f_MSquareRows_formBits (nI c) M = some (nI (fbW G n c 15)) := by
  unfold f_MSquareRows_formBits
  have e : lp (uc2 (f_MSquareRows_formBits_L4 (nI c) M)) (0, 0) = some (nI (fbW G n c 15)) := by
    refine lp_row (fun i => (nI (fbW G n c i), nI i)) 15 (fun i hi => ?_) ?_
    · show f_MSquareRows_formBits_L4 (nI c) M (nI (fbW G n c i)) (nI i) = some (Sum.inl (nI (fbW G n c i ||| (if G (fmX n i c) (fmY n i c) = true then 2 ^ i else 0)), nI (i + 1)))
      unfold f_MSquareRows_formBits_L4 f_MSquareRows_moduleAt
      obtain ⟨f1, f2⟩ := s_formXR (M := M) (n := n) (i := i) (c := c) hn hi hc
      obtain ⟨l1, l2⟩ := fm_lt (n := n) (i := i) (c := c) hn.1 hi hc
      have e : nI (fmX n i c) + (177 : Int32) * nI (fmY n i c) = nI (177 * fmY n i c + fmX n i c) := by
        rw [show (177 : Int32) = nI 177 from rfl, nI_mul, nI_add, Nat.add_comm]
      have s1 : (bI (G (fmX n i c) (fmY n i c)) <<< (nI i &&& 31 : Int32) : Int32) = nI (if G (fmX n i c) (fmY n i c) = true then 2 ^ i else 0) := shq_b _ ⟨i, hi⟩
      rw [if_neg (show ¬ (15 : Int32) ≤ nI i by rw [show (15 : Int32) = nI 15 from rfl, nIl (by omega) (by omega)]; omega), h.1, f1, bd1_s, f2, bd1_s, bd1_s, e, gd_pos (by rw [inb_nI (by omega)]; omega), nI_clamp (by omega), h.2 _ _ l1 l2, s1, nI_or]
      exact congrArg (fun z => some (Sum.inl (_, z))) (nI_add i 1)
    · show f_MSquareRows_formBits_L4 (nI c) M (nI (fbW G n c 15)) (nI 15) = _
      unfold f_MSquareRows_formBits_L4
      rw [if_pos (by decide)]
  rw [e, bd1_s]
theorem lp_fd2 {N : Nat} {p : Nat → Prop} [DecidablePred p] {b : Int32 → Option (Int32 ⊕ (Unit ⊕ Int32))} (h1 : ∀ i, i < N → p i → b (nI i) = some (.inr (.inr (nI i)))) (h2 : ∀ i, i < N → ¬ p i → b (nI i) = some (.inl (nI (i + 1)))) (h3 : b (nI N) = some (.inr (.inl ()))) : lp (uc1 b) 0 = some (match fdp p N with | some j => .inr (nI j) | none => .inl ()) := by
  cases e : fdp p N with
  | none =>
    have hn := fdp_none N e
    exact lp_row (b := uc1 b) (fun k => nI k) N (fun k hk => h2 k hk (hn k hk)) h3
  | some j =>
    obtain ⟨a, z, c⟩ := fdp_some N j e
    exact lp_row (b := uc1 b) (fun k => nI k) j (fun k hk => h2 k (by omega) (c k hk)) (h1 j a z)
theorem fn_run {b : Int32 → Option (Int32 ⊕ (Unit ⊕ Int32))} {r : Nat → Option Nat} (h : ∀ c, c < 2 → b (nI c) = match r c with | some k => some (.inr (.inr (nI k))) | none => some (.inl (nI (c + 1)))) (h2 : b (nI 2) = some (.inr (.inl ()))) : bs0 (lp (uc1 b) 0) (fun (_ : Unit) => some (-1)) (fun t => some t) = some (match r 0 with | some k => nI k | none => oI (r 1)) := by
  have a0 := h 0 (by omega)
  have a1 := h 1 (by omega)
  cases e0 : r 0 with
  | some k =>
    rw [e0] at a0
    have : lp (uc1 b) 0 = some (.inr (nI k)) := lp_row (b := uc1 b) (fun k => nI k) 0 (fun k hk => by omega) a0
    rw [this]
    rfl
  | none =>
    rw [e0] at a0
    cases e1 : r 1 with
    | some k =>
      rw [e1] at a1
      have : lp (uc1 b) 0 = some (.inr (nI k)) := lp_row (b := uc1 b) (fun k => nI k) 1 (fun k hk => by
        obtain rfl : k = 0 := by omega
        exact a0) a1
      rw [this]
      rfl
    | none =>
      rw [e1] at a1
      have : lp (uc1 b) 0 = some (.inl ()) := lp_row (b := uc1 b) (fun k => nI k) 2 (fun k hk => by
        by_cases c : k = 0
        · subst c; exact a0
        · obtain rfl : k = 1 := by omega
          exact a1) h2
      rw [this]
      rfl
def fnR (G : Nat → Nat → Bool) (n c : Nat) : Option Nat := fdp (fun k => pop15 (fbW G n c 15 ^^^ fwN k) ≤ 3) 32
def fnV (G : Nat → Nat → Bool) (n : Nat) : Option Nat := match fnR G n 0 with
  | some k => some k
  | none => fnR G n 1
theorem fnV_lt {G : Nat → Nat → Bool} {n k : Nat} (h : fnV G n = some k) : k < 32 := by
  unfold fnV at h
  cases e : fnR G n 0 with
  | some j =>
    rw [e] at h
    cases h
    exact (fdp_some 32 _ e).1
  | none =>
    rw [e] at h
    exact (fdp_some 32 _ h).1
theorem pop_le (z : Nat) : pop15 z ≤ 16 := by
  unfold pop15
  have := pcb_le (z % 256)
  have := pcb_le (z / 256)
  omega
theorem s_formNC {M : im_M} {n : Nat} {G : Nat → Nat → Bool} (h : GMc M n G) (hn : 21 ≤ n ∧ n ≤ 177) : f_HGrid_formNumber M = some (oI (fnV G n)) := by
  unfold f_HGrid_formNumber
  rw [fn_run (r := fnR G n) (fun c hc => ?_) rfl]
  · congr 1
    unfold fnV
    cases fnR G n 0 <;> rfl
  · show f_HGrid_formNumber_L2 M (nI c) = _
    unfold f_HGrid_formNumber_L2
    rw [if_neg (show ¬ (2 : Int32) ≤ nI c by rw [show (2 : Int32) = nI 2 from rfl, nIl (by omega) (by omega)]; omega), s_wordC h hn hc, bd1_s]
    have fl := fbW_lt G n c 15
    have ste : ∀ i, i < 32 → f_HGrid_formNumber_L54 (nI c) (nI (fbW G n c 15)) M (nI i) = if 3 < pop15 (fbW G n c 15 ^^^ fwN i) then some (.inl (nI (i + 1))) else some (.inr (.inr (nI i))) := by
      intro i hi
      obtain ⟨w1, w2⟩ := fw_n ⟨i, hi⟩
      replace w1 : fmW i = nI (fwN i) := w1
      replace w2 : fwN i < 32768 := w2
      have xl : fbW G n c 15 ^^^ fwN i < 32768 := Nat.xor_lt_two_pow (n := 15) fl w2
      have pl := pop_le (fbW G n c 15 ^^^ fwN i)
      unfold f_HGrid_formNumber_L54
      rw [if_neg (show ¬ (32 : Int32) ≤ nI i by rw [show (32 : Int32) = nI 32 from rfl, nIl (by omega) (by omega)]; omega), s_formWordC, bd1_s, w1, nI_xor, s_bitI xl, bd1_s, show nI i + 1 = nI (i + 1) from nI_add i 1]
      exact if_nIlt (a := 3) (by omega) (by omega)
    rw [lp_fd2 (b := f_HGrid_formNumber_L54 (nI c) (nI (fbW G n c 15)) M) (N := 32) (p := fun k => pop15 (fbW G n c 15 ^^^ fwN k) ≤ 3) (fun i hi q => by rw [ste i hi, if_neg (by omega)]) (fun i hi q => by rw [ste i hi, if_pos (by omega)]) rfl]
    unfold fnR
    cases fdp (fun k => pop15 (fbW G n c 15 ^^^ fwN k) ≤ 3) 32 with
    | none => exact congrArg (fun z => some (Sum.inl z)) (nI_add c 1)
    | some k => rfl
theorem s_formNR {M : im_M} {n : Nat} {G : Nat → Nat → Bool} (h : GMr M n G) (hn : 21 ≤ n ∧ n ≤ 177) : f_MSquareRows_formNumberRead M = some (oI (fnV G n)) := by
  unfold f_MSquareRows_formNumberRead
  rw [fn_run (r := fnR G n) (fun c hc => ?_) rfl]
  · congr 1
    unfold fnV
    cases fnR G n 0 <;> rfl
  · show f_MSquareRows_formNumberRead_L2 M (nI c) = _
    unfold f_MSquareRows_formNumberRead_L2
    have cc : (if ¬ nI c = 1 then (0 : Int32) else 1) = nI c := by
      by_cases d : c = 0
      · subst d; rfl
      · obtain rfl : c = 1 := by omega
        rfl
    rw [if_neg (show ¬ (2 : Int32) ≤ nI c by rw [show (2 : Int32) = nI 2 from rfl, nIl (by omega) (by omega)]; omega), cc, s_wordR h hn hc, bd1_s]
    have fl := fbW_lt G n c 15
    have ste : ∀ i, i < 32 → f_MSquareRows_formNumberRead_L24 (nI c) (nI (fbW G n c 15)) M (nI i) = if 3 < pop15 (fbW G n c 15 ^^^ fwN i) then some (.inl (nI (i + 1))) else some (.inr (.inr (nI i))) := by
      intro i hi
      obtain ⟨w1, w2⟩ := fw_n ⟨i, hi⟩
      replace w1 : fmW i = nI (fwN i) := w1
      replace w2 : fwN i < 32768 := w2
      have xl : fbW G n c 15 ^^^ fwN i < 32768 := Nat.xor_lt_two_pow (n := 15) fl w2
      have pl := pop_le (fbW G n c 15 ^^^ fwN i)
      unfold f_MSquareRows_formNumberRead_L24
      rw [if_neg (show ¬ (32 : Int32) ≤ nI i by rw [show (32 : Int32) = nI 32 from rfl, nIl (by omega) (by omega)]; omega), s_formWordR hi, bd1_s, w1, nI_xor, s_ones xl, bd1_s, show nI i + 1 = nI (i + 1) from nI_add i 1]
      exact if_nIlt (a := 3) (by omega) (by omega)
    rw [lp_fd2 (b := f_MSquareRows_formNumberRead_L24 (nI c) (nI (fbW G n c 15)) M) (N := 32) (p := fun k => pop15 (fbW G n c 15 ^^^ fwN k) ≤ 3) (fun i hi q => by rw [ste i hi, if_neg (by omega)]) (fun i hi q => by rw [ste i hi, if_pos (by omega)]) rfl]
    unfold fnR
    cases fdp (fun k => pop15 (fbW G n c 15 ^^^ fwN k) ≤ 3) 32 with
    | none => exact congrArg (fun z => some (Sum.inl z)) (nI_add c 1)
    | some k => rfl
