theorem if_nIl {α : Type} {a b : Nat} {x y : α} (ha : a < 2147483648) (hb : b < 2147483648) : (if nI a ≤ nI b then x else y) = if a ≤ b then x else y := by simp only [nIl ha hb]
theorem if_nIlt {α : Type} {a b : Nat} {x y : α} (ha : a < 2147483648) (hb : b < 2147483648) : (if nI a < nI b then x else y) = if a < b then x else y := by simp only [nIlt ha hb]
theorem if_nIe {α : Type} {a b : Nat} {x y : α} (ha : a < 2147483648) (hb : b < 2147483648) : (if nI a = nI b then x else y) = if a = b then x else y := by simp only [nIe ha hb]
theorem if_iZl {α : Type} {a b : Int} {x y : α} (ha : -2147483648 ≤ a ∧ a < 2147483648) (hb : -2147483648 ≤ b ∧ b < 2147483648) : (if iZ a ≤ iZ b then x else y) = if a ≤ b then x else y := by simp only [iZ_le ha hb]
theorem if_iZlt {α : Type} {a b : Int} {x y : α} (ha : -2147483648 ≤ a ∧ a < 2147483648) (hb : -2147483648 ≤ b ∧ b < 2147483648) : (if iZ a < iZ b then x else y) = if a < b then x else y := by simp only [iZ_lt ha hb]
theorem if_iZe {α : Type} {a b : Int} {x y : α} (ha : -2147483648 ≤ a ∧ a < 2147483648) (hb : -2147483648 ≤ b ∧ b < 2147483648) : (if iZ a = iZ b then x else y) = if a = b then x else y := by simp only [iZ_eq ha hb]
/-! THE DARK DOTS SUMMED UP, BOTH SIDES -/
def SUMS (f : Nat → Int32) (W H : Nat) (D : Nat → Nat → Bool) : Prop := ∀ a b, a ≤ W → b ≤ H → f (513 * b + a) = iZ (cs D a b)
theorem i513 {x y : Nat} : nI y * 513 + nI x = nI (513 * y + x) := by rw [nI_n, nI_mul, nI_add, Nat.mul_comm]
theorem s_darkIn {M : im_M} {W H : Nat} {D : Nat → Nat → Bool} (hs : SUMS (im_i M 60) W H D) (hW : W ≤ 512) (hH : H ≤ 512) {x y n : Nat} (hx : x + n ≤ W) (hy : y + n ≤ H) : f_HFinder_darkIn (nI x) (nI y) (nI n) M = some (iZ (bS (dt D) x y n n)) := by
  unfold f_HFinder_darkIn
  have e2 : nI (513 * y + x) + nI n * 513 = nI (513 * (y + n) + x) := by
    rw [nI_n, nI_mul, nI_add]
    congr 1
    omega
  have v1 : im_i M 60 (513 * (y + n) + x + n) = iZ (cs D (x + n) (y + n)) := by rw [Nat.add_assoc]; exact hs _ _ hx hy
  have v2 : im_i M 60 (513 * (y + n) + x) = iZ (cs D x (y + n)) := hs _ _ (by omega) hy
  have v3 : im_i M 60 (513 * y + x + n) = iZ (cs D (x + n) y) := by rw [Nat.add_assoc]; exact hs _ _ hx (by omega)
  have v4 : im_i M 60 (513 * y + x) = iZ (cs D x y) := hs _ _ (by omega) (by omega)
  rw [i513, e2, nI_add, nI_add, gd_pos (by rw [inb_nI (by omega)]; omega), gd_pos (by rw [inb_nI (by omega)]; omega), gd_pos (by rw [inb_nI (by omega)]; omega), gd_pos (by rw [inb_nI (by omega)]; omega), nI_clamp (by omega), nI_clamp (by omega), nI_clamp (by omega), nI_clamp (by omega), v1, v2, v3, v4, iZ_sub, iZ_sub, iZ_add, bS_cs]
/-- the sums once row y is summed as far as k -/
def SUMI (f : Nat → Int32) (W : Nat) (D : Nat → Nat → Bool) (y k : Nat) : Prop := Z0 f ∧ (∀ a b, a ≤ W → b ≤ y → f (513 * b + a) = iZ (cs D a b)) ∧ ∀ a, a ≤ k → f (513 * (y + 1) + a) = iZ (cs D a (y + 1))
theorem SUMI_z {f : Nat → Int32} {W : Nat} {D : Nat → Nat → Bool} {y : Nat} (hz : Z0 f) (hy : y < 512) (h : ∀ a b, a ≤ W → b ≤ y → f (513 * b + a) = iZ (cs D a b)) : SUMI f W D y 0 := by
  refine ⟨hz, h, fun a ha => ?_⟩
  obtain rfl : a = 0 := by omega
  rw [Nat.add_zero, (hz (y + 1) (by omega)).2, cs_00.2]
  rfl
theorem SUMI_s {f : Nat → Int32} {W : Nat} {D : Nat → Nat → Bool} {y k : Nat} (h : SUMI f W D y k) (hk : k < W) (hW : W ≤ 512) (hy : y < 512) : SUMI (fun j => if j = 513 * (y + 1) + k + 1 then f (513 * y + k + 1) + iZ (iS (fun i => dt D i y) (k + 1)) else f j) W D y (k + 1) := by
  obtain ⟨z, h1, h2⟩ := h
  refine ⟨fun j hj => ⟨?_, ?_⟩, fun a b ha hb => ?_, fun a ha => ?_⟩
  · show (if _ then _ else _) = _
    rw [if_neg (by omega)]; exact (z j hj).1
  · show (if _ then _ else _) = _
    rw [if_neg (by omega)]; exact (z j hj).2
  · show (if _ then _ else _) = _
    rw [if_neg (by omega)]; exact h1 a b ha hb
  · show (if _ then _ else _) = _
    by_cases c : a = k + 1
    · subst c
      rw [if_pos (by omega), Nat.add_assoc, h1 (k + 1) y (by omega) (by omega), iZ_add, cs_step]
    · rw [if_neg (by omega)]; exact h2 a (by omega)
theorem SUMI_e {f : Nat → Int32} {W : Nat} {D : Nat → Nat → Bool} {y : Nat} (h : SUMI f W D y W) : Z0 f ∧ ∀ a b, a ≤ W → b ≤ y + 1 → f (513 * b + a) = iZ (cs D a b) := by
  refine ⟨h.1, fun a b ha hb => ?_⟩
  by_cases c : b = y + 1
  · subst c; exact h.2.2 a ha
  · exact h.2.1 a b ha (by omega)
theorem s_addUp {w : Bool} {M : im_M} {W H : Nat} {D : Nat → Nat → Bool} (q : DH w M W H D) (hz : Z0 (im_i M 60)) : ed (f_HFinder_addUp w M) (fun r => fr (2 ^ 60) [] M r ∧ Z0 (im_i r 60) ∧ SUMS (im_i r 60) W H D) := by
  have hW := q.1
  unfold f_HFinder_addUp
  apply bd1_mk
  refine ed_mono (lp_inv (fun n s => ∃ y : Nat, y + n = H ∧ s.1 = nI y ∧ fr (2 ^ 60) [] M s.2 ∧ Z0 (im_i s.2 60) ∧ ∀ a b, a ≤ W → b ≤ y → im_i s.2 60 (513 * b + a) = iZ (cs D a b)) (Q := fun r => fr (2 ^ 60) [] M r ∧ Z0 (im_i r 60) ∧ SUMS (im_i r 60) W H D) ?_ (k := H) ⟨0, by omega, rfl, fr_refl, hz, ?_⟩) (fun r h => ed_mk h)
  · rintro n ⟨x2, M3⟩ ⟨y, hy, e1, f, z, h⟩
    replace e1 : x2 = nI y := e1
    subst e1
    have q3 : DH w M3 W H D := DH_fr f (by decide +kernel) q
    show ed (f_HFinder_addUp_L2 w (nI y) M3) _
    unfold f_HFinder_addUp_L2
    rw [q3.2.1.2, if_nIl (by omega) (by omega)]
    by_cases c : H ≤ y
    · rw [if_pos c]
      exact lpo_r ⟨f, z, fun a b ha hb => h a b ha (by omega)⟩
    · rw [if_neg c]
      apply bd1_mk
      refine ed_mono (lp_inv (fun n s => ∃ k : Nat, k + n = W ∧ s.1 = iZ (iS (fun i => dt D i y) k) ∧ s.2.1 = nI k ∧ fr (2 ^ 60) [] M s.2.2 ∧ SUMI (im_i s.2.2 60) W D y k) (Q := fun r => fr (2 ^ 60) [] M r ∧ SUMI (im_i r 60) W D y W) ?_ (k := W) ⟨0, by omega, rfl, rfl, f, SUMI_z z (by omega) h⟩) ?_
      · rintro n ⟨x7, x8, M9⟩ ⟨k, hk, e1, e2, f, g⟩
        replace e1 : x7 = iZ (iS (fun i => dt D i y) k) := e1
        replace e2 : x8 = nI k := e2
        subst e1 e2
        have q9 : DH w M9 W H D := DH_fr f (by decide +kernel) q
        show ed (f_HFinder_addUp_L26 w (nI y) ((nI y + 1) * 513) _ (nI k) M9) _
        unfold f_HFinder_addUp_L26
        rw [q9.2.1.1, if_nIl (by omega) (by omega)]
        by_cases c : W ≤ k
        · rw [if_pos c]
          obtain rfl : k = W := by omega
          exact lpo_r ⟨f, g⟩
        · rw [if_neg c, s_dark q9 (by omega) (by omega), bd1_s]
          have e3 : (nI y + 1) * 513 + nI k + 1 = nI (513 * (y + 1) + k + 1) := by
            rw [nI_n, nI_add, nI_n, nI_mul, nI_add, nI_add]
            congr 1
            show (y + 1) * 513 + k + 1 = _
            omega
          have e4 : nI (513 * (y + 1) + k + 1) - 513 = nI (513 * y + k + 1) := by
            rw [iZ_nI, iZ_n, iZ_sub, iZ_nI]
            congr 1
            show ((513 * (y + 1) + k + 1 : Nat) : Int) - 513 = _
            omega
          have e5 : (if (if D k y = true then (1 : Int32) else 0) = 0 then iZ (iS (fun i => dt D i y) k) else iZ (iS (fun i => dt D i y) k) + 1) = iZ (iS (fun i => dt D i y) (k + 1)) := by
            show _ = iZ (iS (fun i => dt D i y) k + dt D k y)
            unfold dt
            by_cases d : D k y = true
            · rw [if_pos d, if_neg (by decide), if_pos d, iZ_n, iZ_add]
            · rw [if_neg d, if_pos rfl, if_neg d, Int.add_zero]
          rw [e3, e4, gd_pos (by rw [inb_nI (by omega)]; omega), gd_pos (by rw [inb_nI (by omega)]; omega), e5, nI_clamp (by omega), nI_clamp (by omega)]
          refine lpo_l (n - 1) (by omega) ⟨k + 1, by omega, rfl, nI_add k 1, fr_I (by decide) f, ?_⟩
          exact SUMI_s g (by omega) (by omega) (by omega)
      · rintro r ⟨f, g⟩
        have := SUMI_e g
        exact lpo_l (n - 1) (by omega) ⟨y + 1, by omega, nI_add y 1, f, this.1, this.2⟩
  · intro a b ha hb
    obtain rfl : b = 0 := by omega
    show im_i M 60 _ = _
    rw [Nat.mul_zero, Nat.zero_add, (hz a (by omega)).1, cs_00.1]
    rfl
theorem s_isDk {M : im_M} {W H : Nat} {D : Nat → Nat → Bool} (q : PR M W H D) {x y : Nat} (hx : x < W) (hy : y < H) : f_MPlaceRows_isDark (nI x) (nI y) M = some (if D x y = true then 1 else 0) := by
  have hW := q.1
  have e : (512 : Int32) * nI y + nI x = nI (512 * y + x) := by rw [nI_n, nI_mul, nI_add]
  have e8 : im_i M 131 (512 * y + x) = if D x y = true then 1 else 0 := q.2.2 x y (by omega) (by omega)
  unfold f_MPlaceRows_isDark
  rw [e, gd_pos (by rw [inb_nI (by omega)]; omega), nI_clamp (by omega), gd_pos (by rw [e8]; split <;> simp), e8]
theorem s_addM {M : im_M} {W H : Nat} {D : Nat → Nat → Bool} (q : PR M W H D) (hz : Z0 (im_i M 132)) : ed (f_MPlaceRows_add M) (fun r => fr (2 ^ 132) [] M r ∧ Z0 (im_i r 132) ∧ SUMS (im_i r 132) W H D) := by
  have hW := q.1
  unfold f_MPlaceRows_add
  apply bd1_mk
  refine ed_mono (lp_inv (fun n s => ∃ y : Nat, y + n = H ∧ s.1 = nI y ∧ fr (2 ^ 132) [] M s.2 ∧ Z0 (im_i s.2 132) ∧ ∀ a b, a ≤ W → b ≤ y → im_i s.2 132 (513 * b + a) = iZ (cs D a b)) (Q := fun r => fr (2 ^ 132) [] M r ∧ Z0 (im_i r 132) ∧ SUMS (im_i r 132) W H D) ?_ (k := H) ⟨0, by omega, rfl, fr_refl, hz, ?_⟩) (fun r h => ed_mk h)
  · rintro n ⟨x2, M3⟩ ⟨y, hy, e1, f, z, h⟩
    replace e1 : x2 = nI y := e1
    subst e1
    have q3 : PR M3 W H D := PR_fr f (by decide +kernel) q
    show ed (f_MPlaceRows_add_L2 (nI y) M3) _
    unfold f_MPlaceRows_add_L2
    rw [q3.2.1.2, if_nIl (by omega) (by omega)]
    by_cases c : H ≤ y
    · rw [if_pos c]
      exact lpo_r ⟨f, z, fun a b ha hb => h a b ha (by omega)⟩
    · rw [if_neg c]
      apply bd1_mk
      refine ed_mono (lp_inv (fun n s => ∃ k : Nat, k + n = W ∧ s.1 = iZ (iS (fun i => dt D i y) k) ∧ s.2.1 = nI k ∧ fr (2 ^ 132) [] M s.2.2 ∧ SUMI (im_i s.2.2 132) W D y k) (Q := fun r => fr (2 ^ 132) [] M r ∧ SUMI (im_i r 132) W D y W) ?_ (k := W) ⟨0, by omega, rfl, rfl, f, SUMI_z z (by omega) h⟩) ?_
      · rintro n ⟨x7, x8, M9⟩ ⟨k, hk, e1, e2, f, g⟩
        replace e1 : x7 = iZ (iS (fun i => dt D i y) k) := e1
        replace e2 : x8 = nI k := e2
        subst e1 e2
        have q9 : PR M9 W H D := PR_fr f (by decide +kernel) q
        show ed (f_MPlaceRows_add_L14 (nI y) _ (nI k) M9) _
        unfold f_MPlaceRows_add_L14
        rw [q9.2.1.1, if_nIl (by omega) (by omega)]
        by_cases c : W ≤ k
        · rw [if_pos c]
          obtain rfl : k = W := by omega
          exact lpo_r ⟨f, g⟩
        · rw [if_neg c, s_isDk q9 (by omega) (by omega), bd1_s]
          have e3 : (513 : Int32) * (nI y + 1) + nI k + 1 = nI (513 * (y + 1) + k + 1) := by
            rw [nI_n, nI_n, nI_add, nI_mul, nI_add, nI_add]
          have e4 : (513 : Int32) * nI y + nI k + 1 = nI (513 * y + k + 1) := by
            rw [nI_n, nI_mul, nI_add, nI_n, nI_add]
          have e5 : iZ (iS (fun i => dt D i y) k) + (if (if D k y = true then (1 : Int32) else 0) = 0 then 0 else 1) = iZ (iS (fun i => dt D i y) (k + 1)) := by
            show _ = iZ (iS (fun i => dt D i y) k + dt D k y)
            unfold dt
            by_cases d : D k y = true
            · rw [if_pos d, if_neg (by decide), if_pos d, iZ_n, iZ_add]
            · rw [if_neg d, if_pos rfl, if_neg d, Int.add_zero, iZ_n, iZ_add]; exact congrArg iZ (Int.add_zero _)
          rw [e3, e4, gd_pos (by rw [inb_nI (by omega)]; omega), gd_pos (by rw [inb_nI (by omega)]; omega), e5, nI_clamp (by omega), nI_clamp (by omega)]
          refine lpo_l (n - 1) (by omega) ⟨k + 1, by omega, rfl, nI_add k 1, fr_I (by decide) f, ?_⟩
          exact SUMI_s g (by omega) (by omega) (by omega)
      · rintro r ⟨f, g⟩
        have := SUMI_e g
        exact lpo_l (n - 1) (by omega) ⟨y + 1, by omega, nI_add y 1, f, this.1, this.2⟩
  · intro a b ha hb
    obtain rfl : b = 0 := by omega
    show im_i M 132 _ = _
    rw [Nat.mul_zero, Nat.zero_add, (hz a (by omega)).1, cs_00.1]
    rfl
