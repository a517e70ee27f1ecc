/-! THE PENALTY, BY BOTH -/
theorem fourG_3 {G : Nat → Nat → Nat} {x y : Nat} : fourG G x y ≤ 3 := by
  unfold fourG
  split <;> omega
theorem s_alikeC {M : im_M} {n x y : Nat} {G : Nat → Nat → Nat} (h : ofG G M 54 n) (hG : ∀ x y, G x y < 2) (hn : n ≤ 177) (hx : x + 1 < n) (hy : y + 1 < n) : f_HGrid_isSquareAlike (nI (177 * y + x)) M = some (if fourG G x y = 0 then 0 else 1) := by
  unfold f_HGrid_isSquareAlike
  have a1 := h x y (by omega) (by omega)
  have a2 := h (x + 1) y (by omega) (by omega)
  have a3 := h x (y + 1) (by omega) (by omega)
  have a4 := h (x + 1) (y + 1) (by omega) (by omega)
  have e1 : nI (177 * y + x) + 1 = nI (177 * y + (x + 1)) := by rw [← Nat.add_assoc]; exact nI_add _ 1
  have e2 : nI (177 * y + x) + 177 = nI (177 * (y + 1) + x) := by rw [show 177 * (y + 1) + x = 177 * y + x + 177 by omega]; exact nI_add _ 177
  have e3 : nI (177 * (y + 1) + x) + 1 = nI (177 * (y + 1) + (x + 1)) := by rw [← Nat.add_assoc]; exact nI_add _ 1
  have g1 := hG x y
  have g2 := hG (x + 1) y
  have g3 := hG x (y + 1)
  have g4 := hG (x + 1) (y + 1)
  rw [e1, e2, e3, gd_pos (by rw [inb_nI (by omega)]; omega), gd_pos (by rw [inb_nI (by omega)]; omega), gd_pos (by rw [inb_nI (by omega)]; omega), gd_pos (by rw [inb_nI (by omega)]; omega), nI_clamp (by omega), nI_clamp (by omega), nI_clamp (by omega), nI_clamp (by omega), a1, a2, a3, a4, nI_add, nI_add, nI_add]
  have wl : G x y + G (x + 1) y + G x (y + 1) + G (x + 1) (y + 1) < 100 := by omega
  unfold fourG
  generalize G x y + G (x + 1) y + G x (y + 1) + G (x + 1) (y + 1) = w at *
  have k0 : (nI w = 0) = (w = 0) := nIe (c := 0) (by omega) (by omega)
  have k4 : (nI w = 4) = (w = 4) := nIe (c := 4) (by omega) (by omega)
  simp only [jn0, k0, k4]
  by_cases c : w = 0
  · rw [if_pos c, if_pos (Or.inl c)]
    rfl
  · rw [if_neg c]
    by_cases d : w = 4
    · rw [if_neg (fun u => u d), if_pos (Or.inr d)]
      rfl
    · rw [if_pos d, if_neg (show ¬ (w = 0 ∨ w = 4) from fun z => z.elim c d)]
      rfl
theorem s_penC {M : im_M} {n : Nat} {G : Nat → Nat → Nat} (h1 : im_i M 38 1 = nI n) (h : ofG G M 54 n) (hG : ∀ x y, G x y < 2) (hn : 1 ≤ n ∧ n ≤ 177) : f_HGrid_penalty M = some (nI (penP G n)) := by
  have inner : ∀ (y : Nat) (z d : Nat), y < n → lp (uc3 (f_HGrid_penalty_L39 (nI y) M)) (nI z, nI d, 0) = some (nI (z + sN (sqP G n y) n), nI (d + dkS G n y)) := by
    intro y z d hy
    refine lp_row (fun x => (nI (z + sN (sqP G n y) x), nI (d + sN (fun x => G x y) x), nI x)) n (fun x hx => ?_) ?_
    · show f_HGrid_penalty_L39 (nI y) M (nI (z + sN (sqP G n y) x)) (nI (d + sN (fun x => G x y) x)) (nI x) = some (Sum.inl (nI (z + (sN (sqP G n y) x + sqP G n y x)), nI (d + (sN (fun x => G x y) x + G x y)), nI (x + 1)))
      unfold f_HGrid_penalty_L39
      have e7 : nI y * 177 + nI x = nI (177 * y + x) := by rw [show (177 : Int32) = nI 177 from rfl, nI_mul, nI_add, Nat.mul_comm]
      have ey : nI y + 1 = nI (y + 1) := nI_add y 1
      have ex : nI x + 1 = nI (x + 1) := nI_add x 1
      have sc : (if nI n ≤ nI (y + 1) then some (nI (z + sN (sqP G n y) x)) else if nI n ≤ nI (x + 1) then some (nI (z + sN (sqP G n y) x)) else bd1 (f_HGrid_isSquareAlike (nI (177 * y + x)) M) fun (x15 : Int32) => if x15 = 0 then some (nI (z + sN (sqP G n y) x)) else some (nI (z + sN (sqP G n y) x) + 3)) = some (nI (z + (sN (sqP G n y) x + sqP G n y x))) := by
        unfold sqP
        rw [if_nIl (by omega) (by omega), if_nIl (by omega) (by omega)]
        by_cases a : n ≤ y + 1
        · rw [if_pos a, if_neg (show ¬ (y + 1 < n ∧ x + 1 < n) by omega)]; rfl
        · rw [if_neg a]
          by_cases b : n ≤ x + 1
          · rw [if_pos b, if_neg (show ¬ (y + 1 < n ∧ x + 1 < n) by omega)]; rfl
          · rw [if_neg b, if_pos (show y + 1 < n ∧ x + 1 < n by omega), s_alikeC h hG hn.2 (by omega) (by omega), bd1_s]
            by_cases c : fourG G x y = 0
            · rw [if_pos c, if_pos rfl, c]; rfl
            · have f3 : fourG G x y = 3 := by
                unfold fourG at c ⊢
                split at c
                · rw [if_pos (by assumption)]
                · exact absurd rfl c
              rw [if_neg c, if_neg (by decide), f3, ← Nat.add_assoc]
              exact congrArg some (nI_add _ 3)
      rw [h1, if_nIl (by omega) (by omega), if_neg (by omega), e7, ey, ex, gd_pos (by rw [inb_nI (by omega)]; omega), sc, bd1_s, nI_clamp (by omega), h x y hx hy, nI_add, Nat.add_assoc]
    · show f_HGrid_penalty_L39 (nI y) M (nI (z + sN (sqP G n y) n)) (nI (d + sN (fun x => G x y) n)) (nI n) = _
      unfold f_HGrid_penalty_L39
      rw [h1, if_nIl (by omega) (by omega), if_pos (by omega)]
      rfl
  have outer : lp (uc3 (f_HGrid_penalty_L6 M)) (0, 0, 0) = some (nI (sN (fun y => rowP G n y + clmP G n y + sN (sqP G n y) n) n), nI (sN (dkS G n) n)) := by
    refine lp_row (fun y => (nI (sN (fun y => rowP G n y + clmP G n y + sN (sqP G n y) n) y), nI (sN (dkS G n) y), nI y)) n (fun y hy => ?_) ?_
    · show f_HGrid_penalty_L6 M (nI (sN (fun y => rowP G n y + clmP G n y + sN (sqP G n y) n) y)) (nI (sN (dkS G n) y)) (nI y) = some (Sum.inl (nI (sN (fun y => rowP G n y + clmP G n y + sN (sqP G n y) n) y + (rowP G n y + clmP G n y + sN (sqP G n y) n)), nI (sN (dkS G n) y + dkS G n y), nI (y + 1)))
      unfold f_HGrid_penalty_L6
      have e7 : nI y * 177 = nI (177 * y) := by rw [show (177 : Int32) = nI 177 from rfl, nI_mul, Nat.mul_comm]
      have r1 : f_HGrid_linePenalty (nI (177 * y)) 1 M = some (nI (rowP G n y)) := s_lineC (a := 177 * y) (st := 1) (m := fun x => G x y) h1 hn.2 (fun i => hG i y) (fun i hi => by rw [Nat.mul_one]; exact ⟨by omega, h i y hi hy⟩)
      have r2 : f_HGrid_linePenalty (nI y) 177 M = some (nI (clmP G n y)) := s_lineC (a := y) (st := 177) (m := fun i => G y i) h1 hn.2 (fun i => hG y i) (fun i hi => by rw [show y + i * 177 = 177 * i + y by omega]; exact ⟨by omega, h y i hy hi⟩)
      rw [h1, if_nIl (by omega) (by omega), if_neg (by omega), e7, r1, bd1_s, r2, bd1_s, nI_add, nI_add, inner y _ _ hy, bd2_s]
      have e1 : nI y + 1 = nI (y + 1) := nI_add y 1
      rw [e1, Nat.add_assoc]
    · show f_HGrid_penalty_L6 M _ _ (nI n) = _
      unfold f_HGrid_penalty_L6
      rw [h1, if_nIl (by omega) (by omega), if_pos (by omega)]
  have db : sN (dkS G n) n ≤ 177 * n := sN_le (B := 177) (fun y => by
    have := sN_le (f := fun x => G x y) (B := 1) (fun x => by have := hG x y; omega) n
    show sN (fun x => G x y) n ≤ 177
    omega) n
  have nn : n * n ≤ 177 * 177 := Nat.mul_le_mul hn.2 hn.2
  have n1 : 1 * 1 ≤ n * n := Nat.mul_le_mul hn.1 hn.1
  unfold f_HGrid_penalty
  have ea : (20 : Int32) * nI (sN (dkS G n) n) - (10 : Int32) * nI (n * n) = iZ (20 * ((sN (dkS G n) n : Nat) : Int) - 10 * ((n * n : Nat) : Int)) := by
    rw [iZ_nI, iZ_nI, show (20 : Int32) = iZ 20 from rfl, show (10 : Int32) = iZ 10 from rfl, iZ_mul, iZ_mul, iZ_sub]
  rw [outer, bd2_s, h1, nI_mul, ea]
  have ma : f_Math_abs (iZ (20 * ((sN (dkS G n) n : Nat) : Int) - 10 * ((n * n : Nat) : Int))) M = some (nI (20 * ((sN (dkS G n) n : Nat) : Int) - 10 * ((n * n : Nat) : Int)).natAbs) := by
    generalize hz : 20 * ((sN (dkS G n) n : Nat) : Int) - 10 * ((n * n : Nat) : Int) = z
    unfold f_Math_abs
    have k : ((0 : Int32) ≤ iZ z) = (0 ≤ z) := iZ_le (a := 0) (by omega) (by omega)
    simp only [k]
    by_cases c : 0 ≤ z
    · rw [if_pos c, iZ_nI, Int.natAbs_of_nonneg c]
    · rw [if_neg c, iZ_neg, iZ_nI]
      congr 2
      omega
  have e10 : ∀ a : Nat, (10 : Int32) * nI a = nI (10 * a) := fun a => nI_m 10
  rw [ma, bd1_s, gd_pos (nI_z (by omega) (by omega)), nI_div (by omega) (by omega) (by omega), e10, nI_add, sN_add, sN_add]
  rfl
def sqQ (G : Nat → Nat → Nat) (y x : Nat) : Nat := if y = 0 ∨ x = 0 then 0 else fourG G (x - 1) (y - 1)
theorem sq_eq {G : Nat → Nat → Nat} {n : Nat} (hn : 1 ≤ n) : sN (fun y => sN (sqQ G y) n) n = sN (fun y => sN (sqP G n y) n) n := by
  obtain ⟨k, rfl⟩ : ∃ k, n = k + 1 := ⟨n - 1, by omega⟩
  have a : sN (fun y => sN (sqQ G y) (k + 1)) (k + 1) = sN (fun y => sN (fun x => fourG G x y) k) k := by
    refine sN_sh ?_ (fun y => ?_) k
    · refine Nat.le_zero.mp ?_
      have := sN_le (f := sqQ G 0) (B := 0) (fun i => by unfold sqQ; rw [if_pos (Or.inl rfl)]; exact Nat.le_refl _) (k + 1)
      rw [Nat.zero_mul] at this
      exact this
    · refine sN_sh ?_ (fun x => ?_) k
      · unfold sqQ; rw [if_pos (Or.inr rfl)]
      · unfold sqQ; rw [if_neg (by omega), Nat.add_sub_cancel, Nat.add_sub_cancel]
  have b : sN (fun y => sN (sqP G (k + 1) y) (k + 1)) (k + 1) = sN (fun y => sN (fun x => fourG G x y) k) k := by
    show sN (fun y => sN (sqP G (k + 1) y) (k + 1)) k + sN (sqP G (k + 1) k) (k + 1) = _
    have z : sN (sqP G (k + 1) k) (k + 1) = 0 := by
      refine Nat.le_zero.mp ?_
      have := sN_le (f := sqP G (k + 1) k) (B := 0) (fun i => by unfold sqP; rw [if_neg (by omega)]; exact Nat.le_refl _) (k + 1)
      rw [Nat.zero_mul] at this
      exact this
    rw [z, Nat.add_zero]
    refine sN_c k (fun y hy => ?_)
    show sN (sqP G (k + 1) y) k + sqP G (k + 1) y k = _
    have z2 : sqP G (k + 1) y k = 0 := by unfold sqP; rw [if_neg (by omega)]
    rw [z2, Nat.add_zero]
    refine sN_c k (fun x hx => ?_)
    unfold sqP
    rw [if_pos (by omega)]
  rw [a, b]
theorem s_penR {M : im_M} {n : Nat} {G : Nat → Nat → Nat} (h1 : im_i M 108 8 = nI n) (h : ofG G M 112 n) (hG : ∀ x y, G x y < 2) (hn : 1 ≤ n ∧ n ≤ 177) : f_MSquareRows_penalty M = some (nI (penP G n)) := by
  have md0 : ∀ x y, x < n → y < n → f_MSquareRows_module (nI x) (nI y) 0 M = some (nI (G x y)) := fun x y hx hy => by
    unfold f_MSquareRows_module
    have e : nI x + (177 : Int32) * nI y = nI (177 * y + x) := by rw [nI_m, nI_add, Nat.add_comm]
    rw [if_pos rfl, e, gd_pos (by rw [inb_nI (by omega)]; omega), nI_clamp (by omega), h x y hx hy]
  have md1 : ∀ x y, x < n → y < n → f_MSquareRows_module (nI x) (nI y) 1 M = some (nI (G y x)) := fun x y hx hy => by
    unfold f_MSquareRows_module
    have e : nI y + (177 : Int32) * nI x = nI (177 * x + y) := by rw [nI_m, nI_add, Nat.add_comm]
    rw [if_neg (by decide), e, gd_pos (by rw [inb_nI (by omega)]; omega), nI_clamp (by omega), h y x hy hx]
  have ln0 : f_MSquareRows_lines 0 M = some (nI (sN (rowP G n) n)) := by
    unfold f_MSquareRows_lines
    have e : lp (uc2 (f_MSquareRows_lines_L4 0 M)) (0, 0) = some (nI (sN (rowP G n) n)) := by
      refine lp_row (fun y => (nI (sN (rowP G n) y), nI y)) n (fun y hy => ?_) ?_
      · show f_MSquareRows_lines_L4 0 M (nI (sN (rowP G n) y)) (nI y) = some (Sum.inl (nI (sN (rowP G n) y + rowP G n y), nI (y + 1)))
        unfold f_MSquareRows_lines_L4
        have q := s_lineR (M := M) (n := n) (y := y) (d := 0) (m := fun x => G x y) (z := nI (sN (rowP G n) y)) h1 hn.2 (fun i => hG i y) (fun i hi => md0 i y hi hy)
        replace q : lp (uc4 (f_MSquareRows_lines_L21 0 (nI y) M)) (nI (sN (rowP G n) y), 0, 0, 0) = some (nI (sN (rowP G n) y) + nI (rowP G n y)) := q
        rw [h1, if_nIl (by omega) (by omega), if_neg (by omega), q, bd1_s, nI_add]
        exact congrArg (fun z => some (Sum.inl (_, z))) (nI_add y 1)
      · show f_MSquareRows_lines_L4 0 M (nI (sN (rowP G n) n)) (nI n) = _
        unfold f_MSquareRows_lines_L4
        rw [h1, if_nIl (by omega) (by omega), if_pos (by omega)]
    rw [e, bd1_s]
  have ln1 : f_MSquareRows_lines 1 M = some (nI (sN (clmP G n) n)) := by
    unfold f_MSquareRows_lines
    have e : lp (uc2 (f_MSquareRows_lines_L4 1 M)) (0, 0) = some (nI (sN (clmP G n) n)) := by
      refine lp_row (fun y => (nI (sN (clmP G n) y), nI y)) n (fun y hy => ?_) ?_
      · show f_MSquareRows_lines_L4 1 M (nI (sN (clmP G n) y)) (nI y) = some (Sum.inl (nI (sN (clmP G n) y + clmP G n y), nI (y + 1)))
        unfold f_MSquareRows_lines_L4
        have q := s_lineR (M := M) (n := n) (y := y) (d := 1) (m := fun x => G y x) (z := nI (sN (clmP G n) y)) h1 hn.2 (fun i => hG y i) (fun i hi => md1 i y hi hy)
        replace q : lp (uc4 (f_MSquareRows_lines_L21 1 (nI y) M)) (nI (sN (clmP G n) y), 0, 0, 0) = some (nI (sN (clmP G n) y) + nI (clmP G n y)) := q
        rw [h1, if_nIl (by omega) (by omega), if_neg (by omega), q, bd1_s, nI_add]
        exact congrArg (fun z => some (Sum.inl (_, z))) (nI_add y 1)
      · show f_MSquareRows_lines_L4 1 M (nI (sN (clmP G n) n)) (nI n) = _
        unfold f_MSquareRows_lines_L4
        rw [h1, if_nIl (by omega) (by omega), if_pos (by omega)]
    rw [e, bd1_s]
  have inner : ∀ (y : Nat) (z d : Nat), y < n → lp (uc3 (f_MSquareRows_penalty_L27 (nI y) M)) (nI z, nI d, 0) = some (nI (z + sN (sqQ G y) n), nI (d + dkS G n y)) := by
    intro y z d hy
    refine lp_row (fun x => (nI (z + sN (sqQ G y) x), nI (d + sN (fun x => G x y) x), nI x)) n (fun x hx => ?_) ?_
    · show f_MSquareRows_penalty_L27 (nI y) M (nI (z + sN (sqQ G y) x)) (nI (d + sN (fun x => G x y) x)) (nI x) = some (Sum.inl (nI (z + (sN (sqQ G y) x + sqQ G y x)), nI (d + (sN (fun x => G x y) x + G x y)), nI (x + 1)))
      unfold f_MSquareRows_penalty_L27
      have k1 : (nI x ≤ 0) = (x ≤ 0) := nIl (c := 0) (by omega) (by omega)
      have k2 : (nI y ≤ 0) = (y ≤ 0) := nIl (c := 0) (by omega) (by omega)
      have sc : (if x ≤ 0 then some (nI (z + sN (sqQ G y) x)) else if y ≤ 0 then some (nI (z + sN (sqQ G y) x)) else bd1 (f_MSquareRows_module (nI x) (nI y) 0 M) fun (x16 : Int32) => bd1 (f_MSquareRows_module (nI x - 1) (nI y) 0 M) fun (x17 : Int32) => bd1 (f_MSquareRows_module (nI x) (nI y - 1) 0 M) fun (x18 : Int32) => bd1 (f_MSquareRows_module (nI x - 1) (nI y - 1) 0 M) fun (x19 : Int32) => some ((if (((x16 + x17) + x18) + x19) = 0 then (nI (z + sN (sqQ G y) x) + 3) else (if ¬ (((x16 + x17) + x18) + x19) = 4 then nI (z + sN (sqQ G y) x) else (nI (z + sN (sqQ G y) x) + 3))) : Int32)) = some (nI (z + (sN (sqQ G y) x + sqQ G y x))) := by
        unfold sqQ
        by_cases a : x ≤ 0
        · rw [if_pos a, if_pos (show y = 0 ∨ x = 0 by omega)]; rfl
        · rw [if_neg a]
          by_cases b : y ≤ 0
          · rw [if_pos b, if_pos (show y = 0 ∨ x = 0 by omega)]; rfl
          · have g1 := hG x y
            have g2 := hG (x - 1) y
            have g3 := hG x (y - 1)
            have g4 := hG (x - 1) (y - 1)
            rw [if_neg b, if_neg (show ¬ (y = 0 ∨ x = 0) by omega), md0 x y hx hy, bd1_s, nI_m1 (by omega), nI_m1 (by omega), md0 (x - 1) y (by omega) hy, bd1_s, md0 x (y - 1) hx (by omega), bd1_s, md0 (x - 1) (y - 1) (by omega) (by omega), bd1_s, nI_add, nI_add, nI_add]
            have fo : fourG G (x - 1) (y - 1) = if G x y + G (x - 1) y + G x (y - 1) + G (x - 1) (y - 1) = 0 ∨ G x y + G (x - 1) y + G x (y - 1) + G (x - 1) (y - 1) = 4 then 3 else 0 := by
              unfold fourG
              rw [show x - 1 + 1 = x by omega, show y - 1 + 1 = y by omega]
              have es : G (x - 1) (y - 1) + G x (y - 1) + G (x - 1) y + G x y = G x y + G (x - 1) y + G x (y - 1) + G (x - 1) (y - 1) := by omega
              rw [es]
            rw [fo]
            have k0 : ∀ w : Nat, w < 100 → (nI w = 0) = (w = 0) := fun w hw => nIe (c := 0) (by omega) (by omega)
            have k4 : ∀ w : Nat, w < 100 → (nI w = 4) = (w = 4) := fun w hw => nIe (c := 4) (by omega) (by omega)
            have wl : G x y + G (x - 1) y + G x (y - 1) + G (x - 1) (y - 1) < 100 := by omega
            generalize G x y + G (x - 1) y + G x (y - 1) + G (x - 1) (y - 1) = w at *
            simp only [k0 w wl, k4 w wl]
            by_cases c : w = 0
            · rw [if_pos c, if_pos (Or.inl c), ← Nat.add_assoc]
              exact congrArg some (nI_add _ 3)
            · rw [if_neg c]
              by_cases d : w = 4
              · rw [if_neg (fun u => u d), if_pos (Or.inr d), ← Nat.add_assoc]
                exact congrArg some (nI_add _ 3)
              · rw [if_pos d, if_neg (fun u => u.elim c d)]
                rfl
      rw [h1, if_nIl (by omega) (by omega), if_neg (by omega), md0 x y hx hy, bd1_s]
      simp only [k1, k2]
      rw [← md0 x y hx hy, sc, bd1_s, nI_add, Nat.add_assoc]
      exact congrArg (fun w => some (Sum.inl (_, _, w))) (nI_add x 1)
    · show f_MSquareRows_penalty_L27 (nI y) M (nI (z + sN (sqQ G y) n)) (nI (d + sN (fun x => G x y) n)) (nI n) = _
      unfold f_MSquareRows_penalty_L27
      rw [h1, if_nIl (by omega) (by omega), if_pos (by omega)]
      rfl
  have outer : lp (uc3 (f_MSquareRows_penalty_L16 M)) (nI (sN (rowP G n) n + sN (clmP G n) n), 0, 0) = some (nI (sN (rowP G n) n + sN (clmP G n) n + sN (fun y => sN (sqQ G y) n) n), nI (sN (dkS G n) n)) := by
    refine lp_row (fun y => (nI (sN (rowP G n) n + sN (clmP G n) n + sN (fun y => sN (sqQ G y) n) y), nI (sN (dkS G n) y), nI y)) n (fun y hy => ?_) ?_
    · show f_MSquareRows_penalty_L16 M (nI (sN (rowP G n) n + sN (clmP G n) n + sN (fun y => sN (sqQ G y) n) y)) (nI (sN (dkS G n) y)) (nI y) = some (Sum.inl (nI (sN (rowP G n) n + sN (clmP G n) n + (sN (fun y => sN (sqQ G y) n) y + sN (sqQ G y) n)), nI (sN (dkS G n) y + dkS G n y), nI (y + 1)))
      unfold f_MSquareRows_penalty_L16
      rw [h1, if_nIl (by omega) (by omega), if_neg (by omega), inner y _ _ hy, bd2_s, Nat.add_assoc (sN (rowP G n) n + sN (clmP G n) n)]
      exact congrArg (fun w => some (Sum.inl (_, _, w))) (nI_add y 1)
    · show f_MSquareRows_penalty_L16 M _ _ (nI n) = _
      unfold f_MSquareRows_penalty_L16
      rw [h1, if_nIl (by omega) (by omega), if_pos (by omega)]
  have db : sN (dkS G n) n ≤ 177 * n := sN_le (B := 177) (fun y => by
    have := sN_le (f := fun x => G x y) (B := 1) (fun x => by have := hG x y; omega) n
    show sN (fun x => G x y) n ≤ 177
    omega) n
  have nn : n * n ≤ 177 * 177 := Nat.mul_le_mul hn.2 hn.2
  have n1 : 1 * 1 ≤ n * n := Nat.mul_le_mul hn.1 hn.1
  unfold f_MSquareRows_penalty
  have ea : (20 : Int32) * nI (sN (dkS G n) n) - (10 : Int32) * nI (n * n) = iZ (20 * ((sN (dkS G n) n : Nat) : Int) - 10 * ((n * n : Nat) : Int)) := by
    rw [iZ_nI, iZ_nI, show (20 : Int32) = iZ 20 from rfl, show (10 : Int32) = iZ 10 from rfl, iZ_mul, iZ_mul, iZ_sub]
  have ma : ((if (0 : Int32) ≤ iZ (20 * ((sN (dkS G n) n : Nat) : Int) - 10 * ((n * n : Nat) : Int)) then iZ (20 * ((sN (dkS G n) n : Nat) : Int) - 10 * ((n * n : Nat) : Int)) else -iZ (20 * ((sN (dkS G n) n : Nat) : Int) - 10 * ((n * n : Nat) : Int))) : Int32) = nI (20 * ((sN (dkS G n) n : Nat) : Int) - 10 * ((n * n : Nat) : Int)).natAbs := by
    generalize hz : 20 * ((sN (dkS G n) n : Nat) : Int) - 10 * ((n * n : Nat) : Int) = z
    have k : ((0 : Int32) ≤ iZ z) = (0 ≤ z) := iZ_le (a := 0) (by omega) (by omega)
    simp only [k]
    by_cases c : 0 ≤ z
    · rw [if_pos c, iZ_nI, Int.natAbs_of_nonneg c]
    · rw [if_neg c, iZ_neg, iZ_nI]
      congr 1
      omega
  have e10 : ∀ a : Nat, (10 : Int32) * nI a = nI (10 * a) := fun a => nI_m 10
  rw [ln0, bd1_s, ln1, bd1_s, nI_add, outer, bd2_s, h1, nI_mul, ea, ma, gd_pos (nI_z (by omega) (by omega)), nI_div (by omega) (by omega) (by omega), e10, nI_add, sq_eq hn.1]
  rfl
theorem penP_b {G : Nat → Nat → Nat} {n : Nat} (hG : ∀ x y, G x y < 2) (hn : 1 ≤ n ∧ n ≤ 177) : penP G n < 100000000 := by
  have a : ∀ m : Nat → Nat, (lnT m n).1 ≤ 43 * n := fun m => (lnT_b n).1
  have r := sN_le (f := rowP G n) (B := 7611) (fun y => by have := a (fun x => G x y); show (lnT (fun x => G x y) n).1 ≤ _; omega) n
  have c := sN_le (f := clmP G n) (B := 7611) (fun y => by have := a (fun x => G y x); show (lnT (fun x => G y x) n).1 ≤ _; omega) n
  have s := sN_le (f := fun y => sN (sqP G n y) n) (B := 531) (fun y => by
    have := sN_le (f := sqP G n y) (B := 3) (fun x => by
      unfold sqP
      split
      · exact fourG_3
      · omega) n
    show sN (sqP G n y) n ≤ 531
    omega) n
  have db : sN (dkS G n) n ≤ 177 * n := sN_le (B := 177) (fun y => by
    have := sN_le (f := fun x => G x y) (B := 1) (fun x => by have := hG x y; omega) n
    show sN (fun x => G x y) n ≤ 177
    omega) n
  have nn : n * n ≤ 177 * 177 := Nat.mul_le_mul hn.2 hn.2
  have o : offP (sN (dkS G n) n) (n * n) ≤ (20 * ((sN (dkS G n) n : Nat) : Int) - 10 * ((n * n : Nat) : Int)).natAbs := Nat.div_le_self _ _
  unfold penP
  omega
