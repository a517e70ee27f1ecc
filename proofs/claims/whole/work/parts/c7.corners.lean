/-! THE CORNERS, AS THE CLASS LOOKS AT THEM -/
theorem nI_m {m : Nat} (c : Nat) : (OfNat.ofNat c : Int32) * nI m = nI (OfNat.ofNat c * m) := by rw [nI_n, nI_mul]
/-- size of a module, most wrong dots, size of the sheet -/
def MLW (M : im_M) (m lim W H : Nat) : Prop := (im_i M 59 9 = nI m ∧ im_i M 59 10 = nI lim ∧ im_i M 28 0 = nI W ∧ im_i M 28 1 = nI H) ∧ 1 ≤ m ∧ m ≤ 16 ∧ lim ≤ 500 ∧ W ≤ 512 ∧ H ≤ 512
theorem MLW_fr {A : Nat} {F : List (Nat × Nat)} {M M' : im_M} {m lim W H : Nat} (h : fr A F M M') (c : clr A F [] [(59, 9), (59, 10), (28, 0), (28, 1)] [] = true) (q : MLW M m lim W H) : MLW M' m lim W H := by
  unfold MLW at q ⊢
  rw [clr_f c h (a := 59) (k := 9) (by decide), clr_f c h (a := 59) (k := 10) (by decide), clr_f c h (a := 28) (k := 0) (by decide), clr_f c h (a := 28) (k := 1) (by decide)]
  exact q
theorem SUMS_fr {A : Nat} {F : List (Nat × Nat)} {M M' : im_M} {W H : Nat} {D : Nat → Nat → Bool} (h : fr A F M M') (c : clr A F [60] [] [] = true) (q : SUMS (im_i M 60) W H D) : SUMS (im_i M' 60) W H D := by
  rw [clr_a c h (a := 60) (by decide)]
  exact q
theorem mm_le {m : Nat} (h : m ≤ 16) : m * m ≤ 256 := Nat.mul_le_mul h h
theorem box_le {D : Nat → Nat → Bool} {x y n c : Nat} (hn : n ≤ c) : 0 ≤ bS (dt D) x y n n ∧ bS (dt D) x y n n ≤ ((c * c : Nat) : Int) := by
  refine ⟨bS_nn (fun _ _ => dt_nn), Int.le_trans bS_le ?_⟩
  have := Nat.mul_le_mul hn hn
  exact_mod_cast this
theorem rg_le {D : Nat → Nat → Bool} {m x y : Nat} (hm : m ≤ 16) : 0 ≤ rgE D m x y ∧ rgE D m x y ≤ 100000 := by
  have h := rg_ge (D := D) (m := m) (x := x) (y := y)
  refine ⟨by omega, ?_⟩
  unfold rgE
  have h7 := box_le (D := D) (x := x) (y := y) (n := 7 * m) (c := 112) (by omega)
  have h5 := box_le (D := D) (x := x + m) (y := y + m) (n := 5 * m) (c := 80) (by omega)
  have h3 := box_le (D := D) (x := x + 2 * m) (y := y + 2 * m) (n := 3 * m) (c := 48) (by omega)
  have := mm_le hm
  omega
theorem s_rings {M : im_M} {W H m lim : Nat} {D : Nat → Nat → Bool} (hs : SUMS (im_i M 60) W H D) (q : MLW M m lim W H) {x y : Nat} (hx : x + 7 * m ≤ W) (hy : y + 7 * m ≤ H) : f_HFinder_ringsWrong (nI x) (nI y) M = some (iZ (rgE D m x y)) := by
  obtain ⟨⟨q1, _, _, _⟩, _, hm, _, hW, hH⟩ := q
  unfold f_HFinder_ringsWrong
  rw [q1, nI_m, nI_m, nI_m, nI_m, nI_m, nI_add, nI_add, nI_add, nI_add, s_darkIn hs hW hH (by omega) (by omega), bd1_s, s_darkIn hs hW hH (by omega) (by omega), bd1_s, s_darkIn hs hW hH hx hy, bd1_s, nI_mul]
  unfold rgE
  rw [iZ_nI, iZ_sub, iZ_n, iZ_mul, iZ_add, iZ_mul, iZ_sub]
  congr 2
  rw [Nat.mul_assoc]
  rfl
/-- what is kept of a corner -/
def cwE (D : Nat → Nat → Bool) (m lim x y : Nat) : Int := if rgE D m x y ≤ (lim : Int) then rgE D m x y else (lim : Int) + 1
theorem cwE_b {D : Nat → Nat → Bool} {m lim x y : Nat} : 0 ≤ cwE D m lim x y ∧ cwE D m lim x y ≤ (lim : Int) + 1 := by
  have h := rg_ge (D := D) (m := m) (x := x) (y := y)
  unfold cwE
  split <;> omega
theorem shorts : ∀ k : Fin 502, vp_nar .short ((Int32.toInt16 (nI k.val)).toInt32) = nI k.val := by decide +kernel
theorem short_z {z : Int} (h : 0 ≤ z ∧ z ≤ 501) : vp_nar .short ((Int32.toInt16 (iZ z)).toInt32) = iZ z := by
  obtain ⟨n, rfl⟩ := Int.eq_ofNat_of_zero_le h.1
  have := shorts ⟨n, by omega⟩
  rw [iZ_nI] at this
  exact this
theorem s_min {a b : Int} {M : im_M} (ha : -2147483648 ≤ a ∧ a < 2147483648) (hb : -2147483648 ≤ b ∧ b < 2147483648) : f_Math_min (iZ a) (iZ b) M = some (iZ (if b < a then b else a)) := by
  unfold f_Math_min
  rw [if_iZlt hb ha]
  split <;> rfl
/-- the corners of the first Y rows -/
def CWS (f : Nat → Int32) (W : Nat) (D : Nat → Nat → Bool) (m lim Y : Nat) : Prop := ∀ x y, x + 7 * m ≤ W → y < Y → f (512 * y + x) = iZ (cwE D m lim x y)
theorem s_corners {M : im_M} {W H m lim : Nat} {D : Nat → Nat → Bool} (hs : SUMS (im_i M 60) W H D) (q : MLW M m lim W H) (hr : 7 * m ≤ W ∧ 7 * m ≤ H) : ed (f_HFinder_lookAtCorners M) (fun r => fr (2 ^ 61) [] M r ∧ CWS (im_i r 61) W D m lim (H - 7 * m + 1)) := by
  unfold f_HFinder_lookAtCorners
  apply bd1_mk
  refine ed_mono (lp_inv (fun n s => ∃ y : Nat, y + n = H - 7 * m + 1 ∧ s.1 = nI y ∧ fr (2 ^ 61) [] M s.2 ∧ CWS (im_i s.2 61) W D m lim y) (Q := fun r => fr (2 ^ 61) [] M r ∧ CWS (im_i r 61) W D m lim (H - 7 * m + 1)) ?_ (k := H - 7 * m + 1) ⟨0, by omega, rfl, fr_refl, fun _ _ _ h => absurd h (by omega)⟩) (fun r h => ed_mk h)
  rintro n ⟨x2, M3⟩ ⟨y, hy, e1, f, h⟩
  replace e1 : x2 = nI y := e1
  subst e1
  have q3 : MLW M3 m lim W H := MLW_fr f (by decide +kernel) q
  obtain ⟨⟨q1, q2, qw, qh⟩, hm1, hm, hl, hW, hH⟩ := id q3
  show ed (f_HFinder_lookAtCorners_L2 (nI y) M3) _
  unfold f_HFinder_lookAtCorners_L2
  rw [q1, qh, nI_m, nI_add, if_nIlt (by omega) (by omega)]
  by_cases c : H < y + 7 * m
  · rw [if_pos c]
    obtain rfl : y = H - 7 * m + 1 := by omega
    exact lpo_r ⟨f, h⟩
  · rw [if_neg c]
    apply bd1_mk
    refine ed_mono (lp_inv (fun n s => ∃ k : Nat, k + n = W - 7 * m + 1 ∧ s.1 = nI k ∧ fr (2 ^ 61) [] M s.2 ∧ CWS (im_i s.2 61) W D m lim y ∧ ∀ x, x < k → im_i s.2 61 (512 * y + x) = iZ (cwE D m lim x y)) (Q := fun r => fr (2 ^ 61) [] M r ∧ CWS (im_i r 61) W D m lim (y + 1)) ?_ (k := W - 7 * m + 1) ⟨0, by omega, rfl, f, h, fun _ h => absurd h (by omega)⟩) ?_
    · rintro n ⟨x6, M7⟩ ⟨k, hk, e1, f, h, g⟩
      replace e1 : x6 = nI k := e1
      subst e1
      have q7 : MLW M7 m lim W H := MLW_fr f (by decide +kernel) q
      have s7 : SUMS (im_i M7 60) W H D := SUMS_fr f (by decide +kernel) hs
      obtain ⟨⟨q1, q2, qw, qh⟩, _⟩ := id q7
      show ed (f_HFinder_lookAtCorners_L23 (nI y) (nI k) M7) _
      unfold f_HFinder_lookAtCorners_L23
      rw [q1, q2, qw, nI_m, nI_add, if_nIlt (by omega) (by omega)]
      by_cases c2 : W < k + 7 * m
      · rw [if_pos c2]
        obtain rfl : k = W - 7 * m + 1 := by omega
        refine lpo_r ⟨f, fun a b ha hb => ?_⟩
        by_cases e : b = y
        · subst e; exact g a (by omega)
        · exact h a b ha (by omega)
      · rw [if_neg c2, nI_m, nI_add, nI_add, nI_m, s_darkIn s7 hW hH (by omega) (by omega), bd1_s]
        have h9 : (9 : Int32) * nI m * nI m - iZ (bS (dt D) (k + 2 * m) (y + 2 * m) (3 * m) (3 * m)) = iZ (9 * ((m * m : Nat) : Int) - bS (dt D) (k + 2 * m) (y + 2 * m) (3 * m) (3 * m)) := by
          rw [nI_m, nI_mul, iZ_nI, iZ_sub, Nat.mul_assoc]
          rfl
        have hg := rg_ge (D := D) (m := m) (x := k) (y := y)
        have hl2 := rg_le (D := D) (x := k) (y := y) hm
        have hc := cwE_b (D := D) (m := m) (lim := lim) (x := k) (y := y)
        have e8 : (512 : Nat) * y + k < 262144 := by omega
        have ei : nI y * 512 + nI k = nI (512 * y + k) := by rw [nI_n, nI_mul, nI_add, Nat.mul_comm]
        have nx : ∀ z : Int, (if (lim : Int) + 1 < z then (lim : Int) + 1 else z) = cwE D m lim k y → -1000000 ≤ z → z ≤ 1000000 → ed (bd1 (some (iZ z)) fun (y11 : Int32) => bd1 (f_Math_min y11 (nI lim + 1) M7) fun (x16 : Int32) => gd (inb ((nI y * 512) + nI k) 262144) <| some (Sum.inl ((nI k + 1), (im_setI M7 61 (Int32.toNatClampNeg ((nI y * 512) + nI k)) (vp_nar .short ((Int32.toInt16 x16).toInt32)))))) (lpo (fun n s => ∃ k : Nat, k + n = W - 7 * m + 1 ∧ s.1 = nI k ∧ fr (2 ^ 61) [] M s.2 ∧ CWS (im_i s.2 61) W D m lim y ∧ ∀ x, x < k → im_i s.2 61 (512 * y + x) = iZ (cwE D m lim x y)) (fun r => fr (2 ^ 61) [] M r ∧ CWS (im_i r 61) W D m lim (y + 1)) n) := by
          intro z hz z1 z2
          have ez : nI lim + 1 = iZ ((lim : Int) + 1) := by rw [iZ_nI, iZ_n, iZ_add]
          rw [bd1_s, ez, s_min (by omega) (by omega), bd1_s, hz, short_z (by omega), ei, gd_pos (by rw [inb_nI (by omega)]; omega), nI_clamp (by omega)]
          refine lpo_l (n - 1) (by omega) ⟨k + 1, by omega, nI_add k 1, fr_I (by decide) f, fun a b ha hb => ?_, fun a ha => ?_⟩
          · rw [mi_I, if_pos rfl, if_neg (by omega)]; exact h a b ha hb
          · rw [mi_I, if_pos rfl]
            by_cases e : a = k
            · rw [e, if_pos rfl]
            · rw [if_neg (by omega)]; exact g a (by omega)
        rw [h9, iZ_nI, if_iZlt (by omega) (by omega), ← iZ_nI]
        by_cases c3 : (lim : Int) < 9 * ((m * m : Nat) : Int) - bS (dt D) (k + 2 * m) (y + 2 * m) (3 * m) (3 * m)
        · rw [if_pos c3]
          refine nx _ ?_ (by omega) (by omega)
          unfold cwE
          rw [if_neg (show ¬ rgE D m k y ≤ (lim : Int) by omega)]
          split <;> omega
        · rw [if_neg c3, s_rings s7 q7 (by omega) (by omega)]
          refine nx _ ?_ (by omega) (by omega)
          unfold cwE
          repeat' split
          all_goals omega
    · rintro r ⟨f, g⟩
      exact lpo_l (n - 1) (by omega) ⟨y + 1, by omega, nI_add y 1, f, g⟩
