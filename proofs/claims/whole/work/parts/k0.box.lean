/-! A BOX STRUCK BY THE CLASS -/
def WD (w : Bool) (M : im_M) (E : Nat → Nat → Bool) : Prop := ∀ y j b, y < 512 → j < 8 → b < 64 → lb (im_l M (sw w) (8 * y + j)) b = E (64 * j + b) y
theorem lb_m1 {k : Nat} (h : k < 64) : lb (-1) k = true := by
  have := (by decide +kernel : ∀ k : Fin 64, lb (-1) k.val = true) ⟨k, h⟩
  exact this
theorem nI_sh6 {n : Nat} (h : n < 2147483648) : nI n >>> (6 &&& 31 : Int32) = nI (n / 64) := by
  rw [iZ_nI, iZ_shr (k := 6) (by decide +kernel) (by omega), iZ_nI]
  rfl
theorem nI_a63 {n : Nat} : nI n &&& 63 = nI (n % 64) := by
  have e : (63 : Int32) = iZ ((2 ^ 6 - 1 : Nat) : Int) := rfl
  rw [iZ_nI, e, iZ_and 6 (by decide), iZ_nI]
  rfl
theorem sw_in (w : Bool) : Nat.testBit (2 ^ 29 ||| 2 ^ 30) (sw w) = true := by
  cases w <;> decide
theorem s_column {w : Bool} {M : im_M} {E : Nat → Nat → Bool} {wy : Int32} {j a b : Nat} {v : Int64} (hE : WD w M E) (ho : im_i M 28 2 = if wy = 2 then 1 else 0) (hj : j < 8) (hab : a ≤ b) (hb : b < 512) : ed (f_HSheet_strikeColumn w (nI j) (nI a) (nI b) v M) (fun R => WD w R (fun x y => if (x / 64 = j ∧ a ≤ y ∧ y ≤ b) ∧ lb v (x % 64) = true then stk wy (E x y) else E x y) ∧ fr (2 ^ 29 ||| 2 ^ 30) [] M R) := by
  unfold f_HSheet_strikeColumn
  apply bd1_mk
  refine ed_mono (lp_inv (fun n (s : Int32 × im_M) => ∃ y0 : Nat, y0 + n = b + 1 ∧ a ≤ y0 ∧ s.1 = nI y0 ∧ fr (2 ^ 29 ||| 2 ^ 30) [] M s.2 ∧ WD w s.2 (fun x y => if (x / 64 = j ∧ a ≤ y ∧ y < y0) ∧ lb v (x % 64) = true then stk wy (E x y) else E x y)) (Q := fun R => WD w R (fun x y => if (x / 64 = j ∧ a ≤ y ∧ y ≤ b) ∧ lb v (x % 64) = true then stk wy (E x y) else E x y) ∧ fr (2 ^ 29 ||| 2 ^ 30) [] M R) ?_ (k := b + 1 - a) ⟨a, by omega, Nat.le_refl _, rfl, fr_refl, fun y j' b' h1 h2 h3 => by
    show _ = if _ then _ else _
    rw [if_neg (by omega)]
    exact hE y j' b' h1 h2 h3⟩) (fun R h => ed_mk h)
  rintro n ⟨x5, M6⟩ ⟨y0, hn, ha, e1, f, h⟩
  replace e1 : x5 = nI y0 := e1
  replace f : fr (2 ^ 29 ||| 2 ^ 30) [] M M6 := f
  replace h : WD w M6 (fun x y => if (x / 64 = j ∧ a ≤ y ∧ y < y0) ∧ lb v (x % 64) = true then stk wy (E x y) else E x y) := h
  subst e1
  show ed (f_HSheet_strikeColumn_L3 w (nI j) (nI b) v (nI y0) M6) _
  unfold f_HSheet_strikeColumn_L3
  rw [if_nIlt (by omega) (by omega)]
  by_cases c : b < y0
  · rw [if_pos c]
    obtain rfl : y0 = b + 1 := by omega
    refine lpo_r ⟨fun y j' b' h1 h2 h3 => ?_, f⟩
    rw [h y j' b' h1 h2 h3]
    show (if _ then _ else _) = if _ then _ else _
    by_cases d : ((64 * j' + b') / 64 = j ∧ a ≤ y ∧ y ≤ b) ∧ lb v ((64 * j' + b') % 64) = true
    · rw [if_pos d, if_pos ⟨⟨d.1.1, d.1.2.1, by omega⟩, d.2⟩]
    · rw [if_neg d, if_neg (fun z => d ⟨⟨z.1.1, z.1.2.1, by omega⟩, z.2⟩)]
  · have e8 : nI y0 * 8 + nI j = nI (8 * y0 + j) := by rw [nI_n, nI_mul, nI_add, Nat.mul_comm]
    have g : ∀ {Z : Type} (z : Option Z), gd (inb (nI (8 * y0 + j)) 4096) z = z := fun z => gd_pos (by rw [inb_nI (by omega)]; omega)
    have kc : Int32.toNatClampNeg (nI (8 * y0 + j)) = 8 * y0 + j := nI_clamp (by omega)
    have o6 : im_i M6 28 2 = if wy = 2 then 1 else 0 := (f.1 28 2 (by decide) (by decide)).trans ho
    rw [if_neg c]
    simp only [e8, g, kc, o6]
    have val : ∃ v8, (if (if wy = 2 then (1 : Int32) else 0) = 0 then some ((im_l M6 (sw w) (8 * y0 + j)) ||| v) else some ((im_l M6 (sw w) (8 * y0 + j)) ^^^ v)) = some v8 ∧ ∀ k, k < 64 → lb v8 k = if lb v k = true then stk wy (lb (im_l M6 (sw w) (8 * y0 + j)) k) else lb (im_l M6 (sw w) (8 * y0 + j)) k := by
      by_cases z : wy = 2
      · rw [if_pos z, if_neg (by decide)]
        refine ⟨_, rfl, fun k hk => ?_⟩
        rw [lb_xor]
        unfold stk
        rw [if_pos z]
        cases lb v k <;> cases lb (im_l M6 (sw w) (8 * y0 + j)) k <;> rfl
      · rw [if_neg z, if_pos rfl]
        refine ⟨_, rfl, fun k hk => ?_⟩
        rw [lb_or]
        unfold stk
        rw [if_neg z]
        cases lb v k <;> cases lb (im_l M6 (sw w) (8 * y0 + j)) k <;> rfl
    obtain ⟨v8, ev, hv⟩ := val
    rw [ev, bd1_s]
    refine lpo_l (n - 1) (by omega) ⟨y0 + 1, by omega, by omega, nI_add y0 1, fr_L (sw_in w) f, fun y j' b' h1 h2 h3 => ?_⟩
    show lb (im_l (im_setL M6 (sw w) (8 * y0 + j) v8) (sw w) (8 * y + j')) b' = if _ then _ else _
    rw [ml_L, if_pos rfl]
    have ej : (64 * j' + b') / 64 = j' := by omega
    have em : (64 * j' + b') % 64 = b' := by omega
    by_cases e : 8 * y + j' = 8 * y0 + j
    · obtain ⟨rfl, rfl⟩ : y = y0 ∧ j' = j := by omega
      have old := h y j' b' h1 h2 h3
      replace old : lb (im_l M6 (sw w) (8 * y + j')) b' = if ((64 * j' + b') / 64 = j' ∧ a ≤ y ∧ y < y) ∧ lb v ((64 * j' + b') % 64) = true then stk wy (E (64 * j' + b') y) else E (64 * j' + b') y := old
      rw [if_neg (by omega)] at old
      rw [if_pos rfl, hv b' h3, old, ej, em]
      by_cases z : lb v b' = true
      · rw [if_pos z, if_pos ⟨⟨rfl, ha, by omega⟩, z⟩]
      · rw [if_neg z, if_neg (fun y => z y.2)]
    · rw [if_neg e, h y j' b' h1 h2 h3]
      show (if _ then _ else _) = if _ then _ else _
      rw [ej, em]
      by_cases d : (j' = j ∧ a ≤ y ∧ y < y0) ∧ lb v b' = true
      · rw [if_pos d, if_pos ⟨⟨d.1.1, d.1.2.1, by omega⟩, d.2⟩]
      · rw [if_neg d, if_neg (fun z => d ⟨⟨z.1.1, z.1.2.1, by omega⟩, z.2⟩)]
/-- the bits of word j from x0 to x1 -/
theorem bx_bits {x0 x1 j k : Nat} (h0 : x0 / 64 ≤ j) (h1 : j ≤ x1 / 64) (hk : k < 64) (hx : x1 < 512) (h01 : x0 ≤ x1) : lb ((if ¬ nI j = nI (x1 / 64) then ((if ¬ nI j = nI (x0 / 64) then (-1) else (((-1) : Int64) &&& (((-1) : Int64) <<< (Int32.toInt64 (nI (x0 % 64)) &&& 63) : Int64))) : Int64) else (((if ¬ nI j = nI (x0 / 64) then (-1) else (((-1) : Int64) &&& (((-1) : Int64) <<< (Int32.toInt64 (nI (x0 % 64)) &&& 63) : Int64))) : Int64) &&& (Int64.toUInt64 (-1) >>> ((Int32.toInt64 ((63 : Int32) - nI (x1 % 64))).toUInt64 &&& Int64.toUInt64 63)).toInt64)) : Int64) k = decide (x0 ≤ 64 * j + k ∧ 64 * j + k ≤ x1) := by
  have m0 := Nat.mod_lt x0 (show 0 < 64 by omega)
  have m1 := Nat.mod_lt x1 (show 0 < 64 by omega)
  have d0 := Nat.div_add_mod x0 64
  have d1 := Nat.div_add_mod x1 64
  have e0 : (nI j = nI (x0 / 64)) = (j = x0 / 64) := nIe (by omega) (by omega)
  have e1 : (nI j = nI (x1 / 64)) = (j = x1 / 64) := nIe (by omega) (by omega)
  have t0 : Int32.toInt64 (nI (x0 % 64)) = lZ ((x0 % 64 : Nat) : Int) := e64_s (by omega)
  have t1 : Int32.toInt64 ((63 : Int32) - nI (x1 % 64)) = lZ ((63 - x1 % 64 : Nat) : Int) := by
    rw [show (63 : Int32) = nI 63 from rfl, nI_sb (by omega)]
    exact e64_s (by omega)
  simp only [e0, e1]
  rw [t0, t1]
  have L : lb ((if ¬ j = x0 / 64 then (-1) else (((-1) : Int64) &&& (((-1) : Int64) <<< (lZ ((x0 % 64 : Nat) : Int) &&& 63) : Int64))) : Int64) k = decide (x0 ≤ 64 * j + k) := by
    by_cases z : j = x0 / 64
    · rw [if_neg (fun y => y z), lb_and, lb_m1 hk, lb_shl m0 hk, Bool.true_and]
      by_cases y : x0 % 64 ≤ k
      · rw [decide_eq_true y, lb_m1 (by omega), decide_eq_true (by omega)]
        rfl
      · rw [decide_eq_false y, decide_eq_false (by omega)]
        rfl
    · rw [if_pos z, lb_m1 hk, decide_eq_true (by omega)]
  by_cases z : j = x1 / 64
  · rw [if_neg (fun y => y z), lb_and, L, lb_ushr (by omega)]
    by_cases y : k ≤ x1 % 64
    · rw [lb_m1 (by omega)]
      by_cases u : x0 ≤ 64 * j + k
      · rw [decide_eq_true u, decide_eq_true ⟨u, by omega⟩]
        rfl
      · rw [decide_eq_false u, decide_eq_false (fun v => u v.1)]
        rfl
    · rw [lb_big (by omega), Bool.and_false, decide_eq_false (by omega)]
  · rw [if_pos z, L]
    by_cases u : x0 ≤ 64 * j + k
    · rw [decide_eq_true u, decide_eq_true ⟨u, by omega⟩]
    · rw [decide_eq_false u, decide_eq_false (fun v => u v.1)]
theorem s_boxLoop {w : Bool} {M : im_M} {E : Nat → Nat → Bool} {wy : Int32} {x0 x1 y0 y1 : Nat} (hE : WD w M E) (ho : im_i M 28 2 = if wy = 2 then 1 else 0) (hx : x0 ≤ x1) (hx1 : x1 < 512) (hy : y0 ≤ y1) (hy1 : y1 < 512) : ed (lp (uc2 (f_HSheet_box_L85 w (nI x0) (nI x1) (nI y0) (nI y1))) (nI (x0 / 64), M)) (fun R => WD w R (fun x y => if x0 ≤ x ∧ x ≤ x1 ∧ y0 ≤ y ∧ y ≤ y1 then stk wy (E x y) else E x y) ∧ fr (2 ^ 29 ||| 2 ^ 30) [] M R) := by
  have hj : x0 / 64 ≤ x1 / 64 := Nat.div_le_div_right hx
  refine lp_inv (fun n (s : Int32 × im_M) => ∃ j : Nat, j + n = x1 / 64 + 1 ∧ x0 / 64 ≤ j ∧ s.1 = nI j ∧ fr (2 ^ 29 ||| 2 ^ 30) [] M s.2 ∧ WD w s.2 (fun x y => if (x0 ≤ x ∧ x ≤ x1 ∧ y0 ≤ y ∧ y ≤ y1) ∧ x / 64 < j then stk wy (E x y) else E x y)) ?_ (k := x1 / 64 + 1 - x0 / 64) ⟨x0 / 64, by omega, Nat.le_refl _, rfl, fr_refl, fun y j' b' h1 h2 h3 => by
    show _ = if _ then _ else _
    rw [if_neg (by omega)]
    exact hE y j' b' h1 h2 h3⟩
  rintro n ⟨x10, M11⟩ ⟨j, hn, ha, e1, f, h⟩
  replace e1 : x10 = nI j := e1
  replace f : fr (2 ^ 29 ||| 2 ^ 30) [] M M11 := f
  replace h : WD w M11 (fun x y => if (x0 ≤ x ∧ x ≤ x1 ∧ y0 ≤ y ∧ y ≤ y1) ∧ x / 64 < j then stk wy (E x y) else E x y) := h
  subst e1
  show ed (f_HSheet_box_L85 w (nI x0) (nI x1) (nI y0) (nI y1) (nI j) M11) _
  unfold f_HSheet_box_L85
  rw [nI_sh6 (by omega), if_nIlt (by omega) (by omega)]
  by_cases c : x1 / 64 < j
  · rw [if_pos c]
    refine lpo_r ⟨fun y j' b' h1 h2 h3 => ?_, f⟩
    rw [h y j' b' h1 h2 h3]
    show (if _ then _ else _) = if _ then _ else _
    by_cases d : x0 ≤ 64 * j' + b' ∧ 64 * j' + b' ≤ x1 ∧ y0 ≤ y ∧ y ≤ y1
    · rw [if_pos d, if_pos ⟨d, by omega⟩]
    · rw [if_neg d, if_neg (fun z => d z.1)]
  · have o6 : im_i M11 28 2 = if wy = 2 then 1 else 0 := (f.1 28 2 (by decide) (by decide)).trans ho
    rw [if_neg c, nI_sh6 (by omega), nI_a63, nI_a63]
    apply bd1_mk
    refine ed_mono (s_column h o6 (by omega) hy hy1) ?_
    rintro R ⟨hR, fR⟩
    refine lpo_l (n - 1) (by omega) ⟨j + 1, by omega, by omega, nI_add j 1, fr_tr fR f, fun y j' b' h1 h2 h3 => ?_⟩
    show lb (im_l R (sw w) (8 * y + j')) b' = if _ then _ else _
    rw [hR y j' b' h1 h2 h3]
    have ej : (64 * j' + b') / 64 = j' := by omega
    have em : (64 * j' + b') % 64 = b' := by omega
    show (if _ then _ else _) = if _ then _ else _
    rw [ej, em]
    by_cases z : j' = j
    · subst z
      rw [bx_bits ha (by omega) h3 hx1 hx]
      by_cases d : x0 ≤ 64 * j' + b' ∧ 64 * j' + b' ≤ x1 ∧ y0 ≤ y ∧ y ≤ y1
      · rw [if_pos ⟨⟨rfl, d.2.2.1, d.2.2.2⟩, decide_eq_true ⟨d.1, d.2.1⟩⟩, if_neg (show ¬ ((x0 ≤ 64 * j' + b' ∧ 64 * j' + b' ≤ x1 ∧ y0 ≤ y ∧ y ≤ y1) ∧ j' < j') from fun u => Nat.lt_irrefl _ u.2), if_pos ⟨d, Nat.lt_succ_self _⟩]
      · rw [if_neg (fun u => d ⟨(of_decide_eq_true u.2).1, (of_decide_eq_true u.2).2, u.1.2.1, u.1.2.2⟩), if_neg (fun u => d u.1), if_neg (fun u => d u.1)]
    · rw [if_neg (fun u => z u.1.1)]
      by_cases d : (x0 ≤ 64 * j' + b' ∧ 64 * j' + b' ≤ x1 ∧ y0 ≤ y ∧ y ≤ y1) ∧ j' < j
      · rw [if_pos d, if_pos ⟨d.1, by omega⟩]
      · rw [if_neg d, if_neg (fun u => d ⟨u.1, by omega⟩)]
