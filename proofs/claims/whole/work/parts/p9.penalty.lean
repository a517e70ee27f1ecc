/-! THE PENALTY -/
/-- one line: score, run, last module, the last eleven -/
def lnT (m : Nat → Nat) : Nat → Nat × Nat × Nat × Nat
  | 0 => (0, 0, 2, 0)
  | i + 1 => let q := lnT m i; let al := if m i = q.2.2.1 then q.2.1 + 1 else 1; let el := (2 * q.2.2.2 + m i) % 2048; (q.1 + (if al < 5 then 0 else if al = 5 then 3 else 1) + (if i < 10 then 0 else if el = 1488 ∨ el = 93 then 40 else 0), al, m i, el)
theorem lnT_s {m : Nat → Nat} {i : Nat} : lnT m (i + 1) = ((lnT m i).1 + (if (if m i = (lnT m i).2.2.1 then (lnT m i).2.1 + 1 else 1) < 5 then 0 else if (if m i = (lnT m i).2.2.1 then (lnT m i).2.1 + 1 else 1) = 5 then 3 else 1) + (if i < 10 then 0 else if (2 * (lnT m i).2.2.2 + m i) % 2048 = 1488 ∨ (2 * (lnT m i).2.2.2 + m i) % 2048 = 93 then 40 else 0), (if m i = (lnT m i).2.2.1 then (lnT m i).2.1 + 1 else 1), m i, (2 * (lnT m i).2.2.2 + m i) % 2048) := rfl
theorem lnT_b {m : Nat → Nat} : ∀ i, (lnT m i).1 ≤ 43 * i ∧ (lnT m i).2.1 ≤ i ∧ (lnT m i).2.2.2 < 2048 := by
  intro i
  induction i with
  | zero => exact ⟨Nat.le_refl _, Nat.le_refl _, (show 0 < 2048 by omega)⟩
  | succ i ih =>
    rw [lnT_s]
    obtain ⟨h1, h2, h3⟩ := ih
    refine ⟨?_, ?_, Nat.mod_lt _ (by omega)⟩
    · show _ + _ + _ ≤ 43 * (i + 1)
      have a : ∀ x : Nat, (if x < 5 then 0 else if x = 5 then 3 else 1) ≤ 3 := fun x => by
        split
        · omega
        · split <;> omega
      have b : ∀ x : Nat, (if i < 10 then 0 else if x = 1488 ∨ x = 93 then 40 else 0) ≤ 40 := fun x => by
        split
        · omega
        · split <;> omega
      have a1 := a (if m i = (lnT m i).2.2.1 then (lnT m i).2.1 + 1 else 1)
      have b1 := b ((2 * (lnT m i).2.2.2 + m i) % 2048)
      omega
    · show (if m i = (lnT m i).2.2.1 then (lnT m i).2.1 + 1 else 1) ≤ i + 1
      split <;> omega
theorem el_t : ∀ (e : Fin 2048) (b : Fin 2), (((nI e.val <<< (1 &&& 31 : Int32) : Int32) ||| nI b.val) &&& 2047) = nI ((2 * e.val + b.val) % 2048) := by decide +kernel
/-- the last module as the class keeps it: none is -1 -/
def lsI (x : Nat) : Int32 := if x = 2 then -1 else nI x
theorem ls_e {a b : Nat} (ha : a < 2) (hb : b ≤ 2) : (nI a = lsI b) = (a = b) := by
  unfold lsI
  by_cases c : b = 2
  · rw [if_pos c]
    exact propext ⟨fun z => absurd z (nI_nm1 (by omega)), fun z => by omega⟩
  · rw [if_neg c, nIe (by omega) (by omega)]
theorem lnT_l {m : Nat → Nat} (hm : ∀ i, m i < 2) : ∀ i, (lnT m i).2.2.1 ≤ 2 ∧ (lnT m i).2.2.1 = if i = 0 then 2 else m (i - 1) := by
  intro i
  cases i with
  | zero => exact ⟨Nat.le_refl _, rfl⟩
  | succ i =>
    rw [if_neg (show ¬ i + 1 = 0 by omega), Nat.add_sub_cancel, lnT_s]
    exact ⟨(show m i ≤ 2 from by have := hm i; omega), rfl⟩
def ofG (G : Nat → Nat → Nat) (M : im_M) (a n : Nat) : Prop := ∀ x y, x < n → y < n → im_i M a (177 * y + x) = nI (G x y)
theorem sc_1 {x4 : Int32} {al : Nat} (h : al < 1000) : ((if nI al < 5 then x4 else (if ¬ nI al = 5 then (x4 + 1) else (x4 + 3))) : Int32) = x4 + nI (if al < 5 then 0 else if al = 5 then 3 else 1) := by
  have k1 : (nI al < 5) = (al < 5) := nIlt (c := 5) (by omega) (by omega)
  have k2 : (nI al = 5) = (al = 5) := nIe (c := 5) (by omega) (by omega)
  simp only [k1, k2]
  by_cases c : al < 5
  · rw [if_pos c, if_pos c]; exact (Int32.add_zero _).symm
  · rw [if_neg c, if_neg c]
    by_cases d : al = 5
    · rw [if_neg (fun z => z d), if_pos d]; rfl
    · rw [if_pos d, if_neg d]; rfl
theorem sc_2 {x9 : Int32} {al : Nat} (h : al < 1000) : ((if ¬ nI al = 5 then (if nI al ≤ 5 then x9 else (x9 + 1)) else (x9 + 3)) : Int32) = x9 + nI (if al < 5 then 0 else if al = 5 then 3 else 1) := by
  have k1 : (nI al ≤ 5) = (al ≤ 5) := nIl (c := 5) (by omega) (by omega)
  have k2 : (nI al = 5) = (al = 5) := nIe (c := 5) (by omega) (by omega)
  simp only [k1, k2]
  by_cases d : al = 5
  · rw [if_neg (fun z => z d), if_neg (by omega), if_pos d]; rfl
  · rw [if_pos d]
    by_cases c : al ≤ 5
    · rw [if_pos c, if_pos (by omega)]; exact (Int32.add_zero _).symm
    · rw [if_neg c, if_neg (by omega), if_neg d]; rfl
theorem sc_3 {z : Int32} {i el : Nat} (hi : i < 1000) (he : el < 2048) : ((if nI i < 10 then z else (if nI el = 1488 then (z + 40) else (if ¬ nI el = 93 then z else (z + 40)))) : Int32) = z + nI (if i < 10 then 0 else if el = 1488 ∨ el = 93 then 40 else 0) := by
  have k1 : (nI i < 10) = (i < 10) := nIlt (c := 10) (by omega) (by omega)
  have k2 : (nI el = 1488) = (el = 1488) := nIe (c := 1488) (by omega) (by omega)
  have k3 : (nI el = 93) = (el = 93) := nIe (c := 93) (by omega) (by omega)
  simp only [k1, k2, k3]
  by_cases c : i < 10
  · rw [if_pos c, if_pos c]; exact (Int32.add_zero _).symm
  · rw [if_neg c, if_neg c]
    by_cases d : el = 1488
    · rw [if_pos d, if_pos (Or.inl d)]; rfl
    · rw [if_neg d]
      by_cases e : el = 93
      · rw [if_neg (fun w => w e), if_pos (Or.inr e)]; rfl
      · rw [if_pos e, if_neg (fun w => w.elim d e)]; exact (Int32.add_zero _).symm
theorem s_lineC {M : im_M} {n a st : Nat} {m : Nat → Nat} (h : im_i M 38 1 = nI n) (hn : n ≤ 177) (hm : ∀ i, m i < 2) (hb : ∀ i, i < n → a + i * st < 31329 ∧ im_i M 54 (a + i * st) = nI (m i)) : f_HGrid_linePenalty (nI a) (nI st) M = some (nI (lnT m n).1) := by
  unfold f_HGrid_linePenalty
  have e : lp (uc5 (f_HGrid_linePenalty_L14 (nI a) (nI st) M)) (0, 0, (-1), 0, 0) = some (nI (lnT m n).1) := by
    refine lp_row (fun i => (nI (lnT m i).1, nI (lnT m i).2.1, lsI (lnT m i).2.2.1, nI (lnT m i).2.2.2, nI i)) n (fun i hi => ?_) ?_
    · show f_HGrid_linePenalty_L14 (nI a) (nI st) M (nI (lnT m i).1) (nI (lnT m i).2.1) (lsI (lnT m i).2.2.1) (nI (lnT m i).2.2.2) (nI i) = some (Sum.inl (nI (lnT m (i + 1)).1, nI (lnT m (i + 1)).2.1, lsI (lnT m (i + 1)).2.2.1, nI (lnT m (i + 1)).2.2.2, nI (i + 1)))
      obtain ⟨b1, b2, b3⟩ := lnT_b (m := m) i
      have l := (lnT_l hm i).1
      obtain ⟨i1, i2⟩ := hb i hi
      have mi := hm i
      have et := el_t ⟨(lnT m i).2.2.2, b3⟩ ⟨m i, mi⟩
      replace et : (((nI (lnT m i).2.2.2 <<< (1 &&& 31 : Int32) : Int32) ||| nI (m i)) &&& 2047) = nI ((2 * (lnT m i).2.2.2 + m i) % 2048) := et
      have ea : ((if ¬ nI (m i) = lsI (lnT m i).2.2.1 then 1 else (nI (lnT m i).2.1 + 1)) : Int32) = nI (if m i = (lnT m i).2.2.1 then (lnT m i).2.1 + 1 else 1) := by
        simp only [ls_e mi l]
        by_cases c : m i = (lnT m i).2.2.1
        · rw [if_neg (fun z => z c), if_pos c]; exact nI_add _ 1
        · rw [if_pos c, if_neg c]; rfl
      have al : (if m i = (lnT m i).2.2.1 then (lnT m i).2.1 + 1 else 1) < 1000 := by split <;> omega
      unfold f_HGrid_linePenalty_L14
      rw [h, if_nIl (by omega) (by omega), if_neg (by omega), nI_mul, nI_add, gd_pos (by rw [inb_nI (by omega)]; omega), nI_clamp (by omega), i2, ea, et, sc_1 al, sc_3 (by omega) (by omega), nI_add, nI_add, lnT_s]
      have e1 : nI i + 1 = nI (i + 1) := nI_add i 1
      have e2 : lsI (m i) = nI (m i) := if_neg (by omega)
      rw [e1]
      show _ = some (Sum.inl (_, _, lsI (m i), _, _))
      rw [e2]
    · show f_HGrid_linePenalty_L14 (nI a) (nI st) M (nI (lnT m n).1) (nI (lnT m n).2.1) (lsI (lnT m n).2.2.1) (nI (lnT m n).2.2.2) (nI n) = _
      unfold f_HGrid_linePenalty_L14
      rw [h, if_nIl (by omega) (by omega), if_pos (by omega)]
  rw [e, bd1_s]
theorem s_lineR {M : im_M} {n y d : Nat} {m : Nat → Nat} {z : Int32} (h : im_i M 108 8 = nI n) (hn : n ≤ 177) (hm : ∀ i, m i < 2) (hb : ∀ i, i < n → f_MSquareRows_module (nI i) (nI y) (nI d) M = some (nI (m i))) : lp (uc4 (f_MSquareRows_lines_L21 (nI d) (nI y) M)) (z, 0, 0, 0) = some (z + nI (lnT m n).1) := by
  have st : lp (uc4 (f_MSquareRows_lines_L21 (nI d) (nI y) M)) (z + nI (lnT m 0).1, nI (lnT m 0).2.1, nI (lnT m 0).2.2.2, nI 0) = some (z + nI (lnT m n).1) := by
    refine lp_row (fun i => (z + nI (lnT m i).1, nI (lnT m i).2.1, nI (lnT m i).2.2.2, nI i)) n (fun i hi => ?_) ?_
    · show f_MSquareRows_lines_L21 (nI d) (nI y) M (z + nI (lnT m i).1) (nI (lnT m i).2.1) (nI (lnT m i).2.2.2) (nI i) = some (Sum.inl (z + nI (lnT m (i + 1)).1, nI (lnT m (i + 1)).2.1, nI (lnT m (i + 1)).2.2.2, nI (i + 1)))
      obtain ⟨b1, b2, b3⟩ := lnT_b (m := m) i
      have l := (lnT_l hm i).2
      have mi := hm i
      have et := el_t ⟨(lnT m i).2.2.2, b3⟩ ⟨m i, mi⟩
      replace et : (((nI (lnT m i).2.2.2 <<< (1 &&& 31 : Int32) : Int32) ||| nI (m i)) &&& 2047) = nI ((2 * (lnT m i).2.2.2 + m i) % 2048) := et
      have ea : (jn0 (fun (_ : Unit) => some (1 : Int32)) fun k16 => if nI i ≤ 0 then k16 () else bd1 (f_MSquareRows_module (nI i - 1) (nI y) (nI d) M) fun (x17 : Int32) => if ¬ x17 = nI (m i) then k16 () else some (nI (lnT m i).2.1 + 1)) = some (nI (if m i = (lnT m i).2.2.1 then (lnT m i).2.1 + 1 else 1)) := by
        have k0 : (nI i ≤ 0) = (i ≤ 0) := nIl (c := 0) (by omega) (by omega)
        simp only [jn0, k0]
        rw [l]
        by_cases c : i ≤ 0
        · rw [if_pos c, if_pos (show i = 0 by omega), if_neg (by omega)]; rfl
        · have m1 := hm (i - 1)
          have ke : (nI (m (i - 1)) = nI (m i)) = (m (i - 1) = m i) := nIe (by omega) (by omega)
          rw [if_neg c, if_neg (show ¬ i = 0 by omega), nI_m1 (by omega), hb (i - 1) (by omega), bd1_s]
          simp only [ke]
          by_cases w : m (i - 1) = m i
          · rw [if_neg (fun u => u w), if_pos w.symm]
            exact congrArg some (nI_add _ 1)
          · rw [if_pos w, if_neg (fun u => w u.symm)]; rfl
      have al : (if m i = (lnT m i).2.2.1 then (lnT m i).2.1 + 1 else 1) < 1000 := by split <;> omega
      unfold f_MSquareRows_lines_L21
      rw [h, if_nIl (by omega) (by omega), if_neg (by omega), hb i hi, bd1_s, ea, bd1_s, et, sc_2 al, sc_3 (by omega) (by omega), Int32.add_assoc, Int32.add_assoc, nI_add, nI_add, lnT_s]
      have e1 : nI i + 1 = nI (i + 1) := nI_add i 1
      rw [e1, Nat.add_assoc]
    · show f_MSquareRows_lines_L21 (nI d) (nI y) M (z + nI (lnT m n).1) (nI (lnT m n).2.1) (nI (lnT m n).2.2.2) (nI n) = _
      unfold f_MSquareRows_lines_L21
      rw [h, if_nIl (by omega) (by omega), if_pos (by omega)]
  have e0 : z + nI (lnT m 0).1 = z := Int32.add_zero z
  rw [e0] at st
  exact st
/-- sums along a row of numbers -/
def sN (f : Nat → Nat) : Nat → Nat
  | 0 => 0
  | k + 1 => sN f k + f k
theorem sN_le {f : Nat → Nat} {B : Nat} (h : ∀ i, f i ≤ B) : ∀ k, sN f k ≤ B * k := by
  intro k
  induction k with
  | zero => exact Nat.le_refl _
  | succ k ih =>
    show sN f k + f k ≤ B * (k + 1)
    rw [Nat.mul_succ]
    have := h k
    omega
theorem sN_add {f g : Nat → Nat} : ∀ k, sN (fun i => f i + g i) k = sN f k + sN g k := by
  intro k
  induction k with
  | zero => rfl
  | succ k ih =>
    show sN (fun i => f i + g i) k + (f k + g k) = sN f k + f k + (sN g k + g k)
    omega
theorem sN_sh {f g : Nat → Nat} (h0 : f 0 = 0) (h : ∀ i, f (i + 1) = g i) : ∀ k, sN f (k + 1) = sN g k := by
  intro k
  induction k with
  | zero => show 0 + f 0 = 0; omega
  | succ k ih =>
    show sN f (k + 1) + f (k + 1) = sN g k + g k
    rw [ih, h]
theorem sN_c {f g : Nat → Nat} : ∀ k, (∀ i, i < k → f i = g i) → sN f k = sN g k := by
  intro k
  induction k with
  | zero => intro _; rfl
  | succ k ih =>
    intro h
    show sN f k + f k = sN g k + g k
    rw [ih (fun i hi => h i (by omega)), h k (by omega)]
def fourG (G : Nat → Nat → Nat) (x y : Nat) : Nat := if G x y + G (x + 1) y + G x (y + 1) + G (x + 1) (y + 1) = 0 ∨ G x y + G (x + 1) y + G x (y + 1) + G (x + 1) (y + 1) = 4 then 3 else 0
def sqP (G : Nat → Nat → Nat) (n y x : Nat) : Nat := if y + 1 < n ∧ x + 1 < n then fourG G x y else 0
def rowP (G : Nat → Nat → Nat) (n y : Nat) : Nat := (lnT (fun x => G x y) n).1
def clmP (G : Nat → Nat → Nat) (n x : Nat) : Nat := (lnT (fun y => G x y) n).1
def dkS (G : Nat → Nat → Nat) (n y : Nat) : Nat := sN (fun x => G x y) n
def offP (d t : Nat) : Nat := ((20 * (d : Int) - 10 * (t : Int)).natAbs) / t
def penP (G : Nat → Nat → Nat) (n : Nat) : Nat := sN (rowP G n) n + sN (clmP G n) n + sN (fun y => sN (sqP G n y) n) n + 10 * offP (sN (dkS G n) n) (n * n)
