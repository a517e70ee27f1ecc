/-! THE CHECK SYMBOL, BY BOTH -/
def cS (q : Nat → Nat) : Nat → Nat
  | 0 => q 0
  | l + 1 => cS q l + (l + 1) * q (l + 1)
theorem cS_b {q : Nat → Nat} {k : Nat} (hk : k ≤ 200) (h : ∀ l, l < k → q l < 106) : ∀ l, l < k → cS q l ≤ 21200 * (l + 1) := by
  intro l
  induction l with
  | zero =>
    intro hl
    have := h 0 hl
    show q 0 ≤ _
    omega
  | succ l ih =>
    intro hl
    have h1 := ih (by omega)
    have h2 := h (l + 1) hl
    have h3 : (l + 1) * q (l + 1) ≤ 200 * 106 := Nat.mul_le_mul (by omega) (by omega)
    show cS q l + (l + 1) * q (l + 1) ≤ _
    omega
theorem s_checkS {M : im_M} {q : Nat → Nat} {k : Nat} (h : SYc M k q) (hk : 1 ≤ k) (hq : ∀ l, l < k → q l < 106) : f_HBars_checkSymbol (nI k) M = some (nI (cS q (k - 1) % 103)) := by
  obtain ⟨h0, h1, h2⟩ := h
  have bd := cS_b (by omega) hq
  have run : ed (lp (uc2 (f_HBars_checkSymbol_L9 (nI k) M)) (nI (q 0), 1)) (fun r => r = nI (cS q (k - 1))) := by
    refine lp_inv (fun m (y : Int32 × Int32) => ∃ l : Nat, l + m = k ∧ 1 ≤ l ∧ y.1 = nI (cS q (l - 1)) ∧ y.2 = nI l) ?_ (k := k - 1) ⟨1, by omega, by omega, rfl, rfl⟩
    rintro m ⟨x3, x4⟩ ⟨l, hl, l1, e1, e2⟩
    replace e1 : x3 = nI (cS q (l - 1)) := e1
    replace e2 : x4 = nI l := e2
    subst e1 e2
    show ed (f_HBars_checkSymbol_L9 (nI k) M (nI (cS q (l - 1))) (nI l)) _
    unfold f_HBars_checkSymbol_L9
    rw [if_nIl (by omega) (by omega)]
    by_cases c : k ≤ l
    · rw [if_pos c]
      obtain rfl : l = k := by omega
      exact lpo_r rfl
    · rw [if_neg c, gd_pos (by rw [inb_nI (by omega)]; omega), nI_clamp (by omega), h2 l (by omega), nI_mul, nI_add]
      refine lpo_l (m - 1) (by omega) ⟨l + 1, by omega, by omega, ?_, nI_add l 1⟩
      obtain ⟨d, rfl⟩ : ∃ d, l = d + 1 := ⟨l - 1, by omega⟩
      rfl
  obtain ⟨r, hr, rfl⟩ := run
  have b := bd (k - 1) (by omega)
  have z : im_i M 36 (Int32.toNatClampNeg 0) = nI (q 0) := h2 0 (by omega)
  unfold f_HBars_checkSymbol
  rw [gd_pos (by decide), z, hr, bd1_s, show (103 : Int32) = nI 103 from rfl, nI_rem (by omega) (by omega) (by omega)]
theorem s_checkR {M : im_M} {q : Nat → Nat} {k : Nat} (h : SYr M k q) (hk : 1 ≤ k) (hq : ∀ l, l < k → q l < 106) : f_MLineRows_check (nI k) M = some (nI (cS q (k - 1) % 103)) := by
  obtain ⟨h0, h1, h2⟩ := h
  have bd := cS_b (by omega) hq
  have run : ed (lp (uc2 (f_MLineRows_check_L6 (nI k) M)) (nI (q 0), 1)) (fun r => r = nI (cS q (k - 1))) := by
    refine lp_inv (fun m (y : Int32 × Int32) => ∃ l : Nat, l + m = k ∧ 1 ≤ l ∧ y.1 = nI (cS q (l - 1)) ∧ y.2 = nI l) ?_ (k := k - 1) ⟨1, by omega, by omega, rfl, rfl⟩
    rintro m ⟨x3, x4⟩ ⟨l, hl, l1, e1, e2⟩
    replace e1 : x3 = nI (cS q (l - 1)) := e1
    replace e2 : x4 = nI l := e2
    subst e1 e2
    show ed (f_MLineRows_check_L6 (nI k) M (nI (cS q (l - 1))) (nI l)) _
    unfold f_MLineRows_check_L6
    rw [if_nIl (by omega) (by omega)]
    by_cases c : k ≤ l
    · rw [if_pos c]
      obtain rfl : l = k := by omega
      exact lpo_r rfl
    · rw [if_neg c, gd_pos (by rw [inb_nI (by omega)]; omega), nI_clamp (by omega), h2 l (by omega), nI_mul, nI_add]
      refine lpo_l (m - 1) (by omega) ⟨l + 1, by omega, by omega, ?_, nI_add l 1⟩
      obtain ⟨d, rfl⟩ : ∃ d, l = d + 1 := ⟨l - 1, by omega⟩
      rfl
  obtain ⟨r, hr, rfl⟩ := run
  have b := bd (k - 1) (by omega)
  have z : im_i M 102 (Int32.toNatClampNeg 0) = nI (q 0) := h2 0 (by omega)
  unfold f_MLineRows_check
  rw [gd_pos (by decide), z, hr, bd1_s, show (103 : Int32) = nI 103 from rfl, nI_rem (by omega) (by omega) (by omega)]
