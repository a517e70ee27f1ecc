/-! LETTERS, NUMBERS LEFT OUT, RANGES -/
/-- letter w of the class's row -/
def lc (w : Nat) : Int32 := xb_0 (nI w)
/-- how many numbers it has -/
def hs (w : Nat) : Nat := (xa_1 (nI w)).toNatClampNeg
theorem hs_t : ∀ w : Fin 23, xa_1 (nI w.val) = nI (hs w.val) ∧ hs w.val ≤ 4 := by decide +kernel
theorem num_t {M : im_M} (w : Fin 23) : f_MScriptRows_numbers (lc w.val) M = some (nI (hs w.val)) := by
  unfold f_MScriptRows_numbers
  revert w
  decide +kernel
def lcN (n : Nat) : Option Nat := fdp (fun i => lc i = (Int32.toInt8 (nI n)).toInt32) 23
def noL (x : Int32) : Bool := if x = 35 ∨ x = 67 ∨ x = 75 ∨ x = 80 ∨ x = 83 ∨ x = 85 ∨ x = 86 then false else if x = 59 ∨ x = 69 ∨ x = 82 ∨ x = 88 then false else if x = 66 ∨ x = 68 ∨ x = 81 ∨ x = 84 ∨ x = 87 then false else if x = 70 ∨ x = 71 ∨ x = 73 ∨ x = 78 then false else if x = 72 ∨ x = 76 ∨ x = 79 then false else true
def lcK (n : Nat) : Bool := match lcN n with
  | some w => decide (w < 23) && decide (lc w = nI n)
  | none => noL (nI n)
theorem lcN_t : ∀ n : Fin 256, lcK n.val = true := by decide +kernel
theorem u16_t : ∀ n : Fin 256, ((Int32.toUInt32 (nI n.val)) % 65536).toInt32 = nI n.val := by decide +kernel
theorem s_indexOf {M : im_M} {n : Nat} (hn : n < 256) : f_String_indexOf (((Int32.toUInt32 (nI n)) % 65536).toInt32) M = some (oI (lcN n)) := by
  rw [u16_t ⟨n, hn⟩]
  show f_String_indexOf (nI n) M = _
  unfold f_String_indexOf f_String_indexOf2 f_String_isLatin1 f_String_length f_String_coder f_StringLatin1_indexOf f_StringLatin1_canEncode f_Math_max f_Math_min f_StringLatin1_indexOfChar
  rw [if_neg (by decide), if_neg (by decide), bd1_s, if_neg (by decide), if_neg (by decide), bd1_s, bd1_s]
  have z1 : (nI n < 0) = (n < 0) := nIlt (c := 0) (by omega) (by omega)
  have z2 : ((255 : Int32) < nI n) = (255 < n) := nIlt (x := 255) (by omega) (by omega)
  simp only [z1, z2]
  rw [if_neg (by omega), if_neg (by omega), bd1_s, if_pos (by decide), if_neg (by decide), bd1_s]
  have e23 : (Int32.ofNat 23 >>> (0 &&& 31 : Int32) : Int32) = nI 23 := by decide +kernel
  rw [e23, if_neg (by decide), bd1_s, if_pos (by decide), lp_fdp (N := 23) (p := fun i => lc i = (Int32.toInt8 (nI n)).toInt32) ?_ ?_ ?_]
  · rfl
  · intro i hi h
    unfold f_StringLatin1_indexOfChar_L7
    rw [if_nIl (by omega) (by omega), if_neg (by omega), gd_pos (by rw [inb_nI (by omega)]; omega), if_neg (show ¬ ¬ xb_0 (nI i) = (Int32.toInt8 (nI n)).toInt32 from fun z => z h)]
  · intro i hi h
    unfold f_StringLatin1_indexOfChar_L7
    rw [if_nIl (by omega) (by omega), if_neg (by omega), gd_pos (by rw [inb_nI (by omega)]; omega), if_pos (show ¬ xb_0 (nI i) = (Int32.toInt8 (nI n)).toInt32 from h)]
    exact congrArg (fun z => some (Sum.inl z)) (nI_add i 1)
  · unfold f_StringLatin1_indexOfChar_L7
    rw [if_nIl (by omega) (by omega), if_pos (by omega)]
/-- a byte is letter w on both sides, or no letter on either -/
theorem s_letter {M M' : im_M} {n : Nat} (hn : n < 256) : (∃ w, w < 23 ∧ lc w = nI n ∧ f_String_indexOf (((Int32.toUInt32 (nI n)) % 65536).toInt32) M = some (nI w) ∧ f_MScriptRows_numbers (nI n) M' = some (nI (hs w))) ∨ (f_String_indexOf (((Int32.toUInt32 (nI n)) % 65536).toInt32) M = some (-1) ∧ f_MScriptRows_numbers (nI n) M' = some (-1)) := by
  have t : lcK n = true := lcN_t ⟨n, hn⟩
  unfold lcK at t
  rw [s_indexOf hn]
  cases e : lcN n with
  | some w =>
    rw [e] at t
    replace t : (decide (w < 23) && decide (lc w = nI n)) = true := t
    rw [Bool.and_eq_true, decide_eq_true_eq, decide_eq_true_eq] at t
    refine Or.inl ⟨w, t.1, t.2, rfl, ?_⟩
    rw [← t.2]
    exact num_t ⟨w, t.1⟩
  | none =>
    rw [e] at t
    refine Or.inr ⟨rfl, ?_⟩
    replace t : noL (nI n) = true := t
    unfold noL at t
    unfold f_MScriptRows_numbers
    by_cases c1 : nI n = 35 ∨ nI n = 67 ∨ nI n = 75 ∨ nI n = 80 ∨ nI n = 83 ∨ nI n = 85 ∨ nI n = 86
    · rw [if_pos c1] at t; cases t
    · rw [if_neg c1] at t ⊢
      by_cases c2 : nI n = 59 ∨ nI n = 69 ∨ nI n = 82 ∨ nI n = 88
      · rw [if_pos c2] at t; cases t
      · rw [if_neg c2] at t ⊢
        by_cases c3 : nI n = 66 ∨ nI n = 68 ∨ nI n = 81 ∨ nI n = 84 ∨ nI n = 87
        · rw [if_pos c3] at t; cases t
        · rw [if_neg c3] at t ⊢
          by_cases c4 : nI n = 70 ∨ nI n = 71 ∨ nI n = 73 ∨ nI n = 78
          · rw [if_pos c4] at t; cases t
          · rw [if_neg c4] at t ⊢
            by_cases c5 : nI n = 72 ∨ nI n = 76 ∨ nI n = 79
            · rw [if_pos c5] at t; cases t
            · rw [if_neg c5]
theorem lc_84 : ∀ w : Fin 23, (lc w.val = 84 ↔ w.val = 13) ∧ (lc w.val = 75 ↔ w.val = 2) ∧ (lc w.val = 88 ↔ w.val = 10) ∧ (lc w.val = 83 ↔ w.val = 0) ∧ (lc w.val = 59 ↔ w.val = 22) ∧ (lc w.val = 85 ↔ w.val = 7) ∧ (lc w.val = 69 ↔ w.val = 3) ∧ (lc w.val = 76 ↔ w.val = 1) ∧ (lc w.val = 86 ↔ w.val = 11) := by decide +kernel
theorem pre_t {M : im_M} (w : Fin 23) (h : ¬ w.val = 13) (k : Fin 4) (hk : k.val < hs w.val) : f_MScriptRows_preset (lc w.val) (nI k.val) M = some (xa_0 ((12 : Int32) * nI w.val + (3 : Int32) * nI k.val)) := by
  have h84 : ¬ lc w.val = 84 := fun z => h ((lc_84 w).1.mp z)
  unfold f_MScriptRows_preset
  simp only [if_neg h84, jn0]
  clear h84
  revert k
  revert w
  decide +kernel
theorem ran_t {M : im_M} (w : Fin 23) (k : Fin 4) (hk : k.val < hs w.val) : f_MScriptRows_range (lc w.val) ((2 : Int32) * nI k.val) M = some (xa_0 (((12 : Int32) * nI w.val + (3 : Int32) * nI k.val) + 1)) ∧ f_MScriptRows_range (lc w.val) ((2 : Int32) * nI k.val + 1) M = some (xa_0 (((12 : Int32) * nI w.val + (3 : Int32) * nI k.val) + 2)) := by
  unfold f_MScriptRows_range f_MScriptRows_picture
  simp only [jn0]
  revert k
  revert w
  decide +kernel
